def wd_0 : List Cond := [Cond.fieldLink RJ0 38 RJ0 "COMPACT_STRINGS" "Z", Cond.fieldLink RJ0 15 RJ0 "coder" "B", Cond.fieldLink RJ0 9 RJ0 "value" "[B", Cond.fieldLink RJ0 1053 RJ3 "SIOOBE_FORMATTER" "Ljava/util/function/BiFunction;", Cond.methodLink RJ0 335 yJ0_coder_7d493, Cond.methodLink RJ0 492 yJ0_isLatin1_aae02, Cond.methodLink RJ0 495 yJ1_charAt_3b067, Cond.methodLink RJ1 9 yJ0_checkIndex_df160, Cond.methodLink RJ0 1059 yJ3_checkIndex_8e157, Cond.code yJ0_coder_7d493 cJ0_coder_7d493 1 (some .byte), Cond.instanceMethod yJ0_coder_7d493, Cond.selects RJ0 yJ0_coder_7d493 yJ0_coder_7d493, Cond.code yJ0_isLatin1_aae02 cJ0_isLatin1_aae02 1 (some .boolean), Cond.instanceMethod yJ0_isLatin1_aae02, Cond.selects RJ0 yJ0_isLatin1_aae02 yJ0_isLatin1_aae02, Cond.code yJ0_length_8abf5 cJ0_length_8abf5 1 (some .int), Cond.instanceMethod yJ0_length_8abf5, Cond.selects RJ0 yJ0_length_8abf5 yJ0_length_8abf5, Cond.code yJ0_charAt_5068e cJ0_charAt_5068e 2 (some .char), Cond.instanceMethod yJ0_charAt_5068e, Cond.selects RJ0 yJ0_charAt_5068e yJ0_charAt_5068e, Cond.code yJ1_charAt_3b067 cJ1_charAt_3b067 2 (some .char), Cond.static yJ1_charAt_3b067, Cond.code yJ0_checkIndex_df160 cJ0_checkIndex_df160 2 none, Cond.static yJ0_checkIndex_df160, Cond.code yJ3_checkIndex_8e157 cJ3_checkIndex_8e157 3 (some .int), Cond.static yJ3_checkIndex_8e157, Cond.initialized RJ0, Cond.initialized RJ1, Cond.initialized RJ3, Cond.classLink RX8 110 "java/lang/IllegalArgumentException", Cond.initialized "java/lang/IllegalArgumentException", Cond.classLink RX8 158 "java/lang/IllegalStateException", Cond.initialized "java/lang/IllegalStateException", Cond.classLink RX8 355 "java/lang/IndexOutOfBoundsException", Cond.initialized "java/lang/IndexOutOfBoundsException", Cond.classLink RX8 366 "java/util/NoSuchElementException", Cond.initialized "java/util/NoSuchElementException"]
theorem wj_0 : ∀ w ∈ wd_0, w ∈ TBL := tb_ch _ [775, 1894, 1893, 791, 771, 781, 785, 788, 793, 774, 772, 773, 784, 782, 783, 770, 768, 769, 780, 778, 779, 787, 786, 790, 789, 795, 794, 138, 139, 140, 843, 147, 494, 148, 895, 149, 914, 150] (by decide +kernel) (by decide +kernel)
theorem tf_38 : Cond.fieldLink RJ0 38 RJ0 "COMPACT_STRINGS" "Z" ∈ TBL := wj_0 _ (List.mem_of_getElem? (i := 0) rfl)
theorem tf_15 : Cond.fieldLink RJ0 15 RJ0 "coder" "B" ∈ TBL := wj_0 _ (List.mem_of_getElem? (i := 1) rfl)
theorem tf_9 : Cond.fieldLink RJ0 9 RJ0 "value" "[B" ∈ TBL := wj_0 _ (List.mem_of_getElem? (i := 2) rfl)
theorem tf_1053 : Cond.fieldLink RJ0 1053 RJ3 "SIOOBE_FORMATTER" "Ljava/util/function/BiFunction;" ∈ TBL := wj_0 _ (List.mem_of_getElem? (i := 3) rfl)
theorem tm_coder : Cond.methodLink RJ0 335 yJ0_coder_7d493 ∈ TBL := wj_0 _ (List.mem_of_getElem? (i := 4) rfl)
theorem tm_lat : Cond.methodLink RJ0 492 yJ0_isLatin1_aae02 ∈ TBL := wj_0 _ (List.mem_of_getElem? (i := 5) rfl)
theorem tm_ch1 : Cond.methodLink RJ0 495 yJ1_charAt_3b067 ∈ TBL := wj_0 _ (List.mem_of_getElem? (i := 6) rfl)
theorem tm_ci0 : Cond.methodLink RJ1 9 yJ0_checkIndex_df160 ∈ TBL := wj_0 _ (List.mem_of_getElem? (i := 7) rfl)
theorem tm_ci3 : Cond.methodLink RJ0 1059 yJ3_checkIndex_8e157 ∈ TBL := wj_0 _ (List.mem_of_getElem? (i := 8) rfl)
theorem lc_J0_coder_7d493 : Cond.code yJ0_coder_7d493 cJ0_coder_7d493 1 (some .byte) ∈ TBL := wj_0 _ (List.mem_of_getElem? (i := 9) rfl)
theorem li_J0_coder_7d493 : Cond.instanceMethod yJ0_coder_7d493 ∈ TBL := wj_0 _ (List.mem_of_getElem? (i := 10) rfl)
theorem ls_J0_coder_7d493 : Cond.selects RJ0 yJ0_coder_7d493 yJ0_coder_7d493 ∈ TBL := wj_0 _ (List.mem_of_getElem? (i := 11) rfl)
theorem lc_J0_isLatin1_aae02 : Cond.code yJ0_isLatin1_aae02 cJ0_isLatin1_aae02 1 (some .boolean) ∈ TBL := wj_0 _ (List.mem_of_getElem? (i := 12) rfl)
theorem li_J0_isLatin1_aae02 : Cond.instanceMethod yJ0_isLatin1_aae02 ∈ TBL := wj_0 _ (List.mem_of_getElem? (i := 13) rfl)
theorem ls_J0_isLatin1_aae02 : Cond.selects RJ0 yJ0_isLatin1_aae02 yJ0_isLatin1_aae02 ∈ TBL := wj_0 _ (List.mem_of_getElem? (i := 14) rfl)
theorem lc_J0_length_8abf5 : Cond.code yJ0_length_8abf5 cJ0_length_8abf5 1 (some .int) ∈ TBL := wj_0 _ (List.mem_of_getElem? (i := 15) rfl)
theorem li_J0_length_8abf5 : Cond.instanceMethod yJ0_length_8abf5 ∈ TBL := wj_0 _ (List.mem_of_getElem? (i := 16) rfl)
theorem ls_J0_length_8abf5 : Cond.selects RJ0 yJ0_length_8abf5 yJ0_length_8abf5 ∈ TBL := wj_0 _ (List.mem_of_getElem? (i := 17) rfl)
theorem lc_J0_charAt_5068e : Cond.code yJ0_charAt_5068e cJ0_charAt_5068e 2 (some .char) ∈ TBL := wj_0 _ (List.mem_of_getElem? (i := 18) rfl)
theorem li_J0_charAt_5068e : Cond.instanceMethod yJ0_charAt_5068e ∈ TBL := wj_0 _ (List.mem_of_getElem? (i := 19) rfl)
theorem ls_J0_charAt_5068e : Cond.selects RJ0 yJ0_charAt_5068e yJ0_charAt_5068e ∈ TBL := wj_0 _ (List.mem_of_getElem? (i := 20) rfl)
theorem lc_J1_charAt_3b067 : Cond.code yJ1_charAt_3b067 cJ1_charAt_3b067 2 (some .char) ∈ TBL := wj_0 _ (List.mem_of_getElem? (i := 21) rfl)
theorem li_J1_charAt_3b067 : Cond.static yJ1_charAt_3b067 ∈ TBL := wj_0 _ (List.mem_of_getElem? (i := 22) rfl)
theorem lc_J0_checkIndex_df160 : Cond.code yJ0_checkIndex_df160 cJ0_checkIndex_df160 2 none ∈ TBL := wj_0 _ (List.mem_of_getElem? (i := 23) rfl)
theorem li_J0_checkIndex_df160 : Cond.static yJ0_checkIndex_df160 ∈ TBL := wj_0 _ (List.mem_of_getElem? (i := 24) rfl)
theorem lc_J3_checkIndex_8e157 : Cond.code yJ3_checkIndex_8e157 cJ3_checkIndex_8e157 3 (some .int) ∈ TBL := wj_0 _ (List.mem_of_getElem? (i := 25) rfl)
theorem li_J3_checkIndex_8e157 : Cond.static yJ3_checkIndex_8e157 ∈ TBL := wj_0 _ (List.mem_of_getElem? (i := 26) rfl)
theorem ini_RJ0 : Cond.initialized RJ0 ∈ TBL := wj_0 _ (List.mem_of_getElem? (i := 27) rfl)
theorem ini_RJ1 : Cond.initialized RJ1 ∈ TBL := wj_0 _ (List.mem_of_getElem? (i := 28) rfl)
theorem ini_RJ3 : Cond.initialized RJ3 ∈ TBL := wj_0 _ (List.mem_of_getElem? (i := 29) rfl)
theorem tcl_110 : Cond.classLink RX8 110 "java/lang/IllegalArgumentException" ∈ TBL := wj_0 _ (List.mem_of_getElem? (i := 30) rfl)
theorem tin_IllegalArgumentException : Cond.initialized "java/lang/IllegalArgumentException" ∈ TBL := wj_0 _ (List.mem_of_getElem? (i := 31) rfl)
theorem tcl_158 : Cond.classLink RX8 158 "java/lang/IllegalStateException" ∈ TBL := wj_0 _ (List.mem_of_getElem? (i := 32) rfl)
theorem tin_IllegalStateException : Cond.initialized "java/lang/IllegalStateException" ∈ TBL := wj_0 _ (List.mem_of_getElem? (i := 33) rfl)
theorem tcl_355 : Cond.classLink RX8 355 "java/lang/IndexOutOfBoundsException" ∈ TBL := wj_0 _ (List.mem_of_getElem? (i := 34) rfl)
theorem tin_IndexOutOfBoundsException : Cond.initialized "java/lang/IndexOutOfBoundsException" ∈ TBL := wj_0 _ (List.mem_of_getElem? (i := 35) rfl)
theorem tcl_366 : Cond.classLink RX8 366 "java/util/NoSuchElementException" ∈ TBL := wj_0 _ (List.mem_of_getElem? (i := 36) rfl)
theorem tin_NoSuchElementException : Cond.initialized "java/util/NoSuchElementException" ∈ TBL := wj_0 _ (List.mem_of_getElem? (i := 37) rfl)
theorem hd_J0_coder_7d493 : yJ0_coder_7d493.cls ≠ "java/lang/invoke/MethodHandle" ∧ yJ0_coder_7d493.cls ≠ "java/lang/invoke/VarHandle" ∧ (parseMethodDescriptor yJ0_coder_7d493.desc).map (fun d => d.parameters.length) = some 0 := by decide +kernel
theorem hd_J0_isLatin1_aae02 : yJ0_isLatin1_aae02.cls ≠ "java/lang/invoke/MethodHandle" ∧ yJ0_isLatin1_aae02.cls ≠ "java/lang/invoke/VarHandle" ∧ (parseMethodDescriptor yJ0_isLatin1_aae02.desc).map (fun d => d.parameters.length) = some 0 := by decide +kernel
theorem hd_J0_length_8abf5 : yJ0_length_8abf5.cls ≠ "java/lang/invoke/MethodHandle" ∧ yJ0_length_8abf5.cls ≠ "java/lang/invoke/VarHandle" ∧ (parseMethodDescriptor yJ0_length_8abf5.desc).map (fun d => d.parameters.length) = some 0 := by decide +kernel
theorem hd_J0_charAt_5068e : yJ0_charAt_5068e.cls ≠ "java/lang/invoke/MethodHandle" ∧ yJ0_charAt_5068e.cls ≠ "java/lang/invoke/VarHandle" ∧ (parseMethodDescriptor yJ0_charAt_5068e.desc).map (fun d => d.parameters.length) = some 1 := by decide +kernel
theorem hd_J1_charAt_3b067 : yJ1_charAt_3b067.cls ≠ "java/lang/invoke/MethodHandle" ∧ yJ1_charAt_3b067.cls ≠ "java/lang/invoke/VarHandle" ∧ (parseMethodDescriptor yJ1_charAt_3b067.desc).map (fun d => d.parameters.length) = some 2 := by decide +kernel
theorem hd_J0_checkIndex_df160 : yJ0_checkIndex_df160.cls ≠ "java/lang/invoke/MethodHandle" ∧ yJ0_checkIndex_df160.cls ≠ "java/lang/invoke/VarHandle" ∧ (parseMethodDescriptor yJ0_checkIndex_df160.desc).map (fun d => d.parameters.length) = some 2 := by decide +kernel
theorem hd_J3_checkIndex_8e157 : yJ3_checkIndex_8e157.cls ≠ "java/lang/invoke/MethodHandle" ∧ yJ3_checkIndex_8e157.cls ≠ "java/lang/invoke/VarHandle" ∧ (parseMethodDescriptor yJ3_checkIndex_8e157.desc).map (fun d => d.parameters.length) = some 3 := by decide +kernel
/-! throws -/
abbrev nmX : List String := ["java/lang/RuntimeException", "java/lang/Exception"]
def ThF (ik ic is : Nat) (E tx : String) : Prop := Cond.classLink RX8 ik E ∈ TBL ∧ Cond.initialized E ∈ TBL ∧ E ∈ excs ∧ (∃ i : Nat, txX[i]? = some (is, tx)) ∧ (∀ w ∈ (vx_atS RX8 ic E nmX).filter goodWord, w ∈ TBL) ∧
  (∀ w ∈ (vx_atS RX8 ic E nmX).filter (fun w => !goodWord w), w ∈ [Cond.declares (Bundle.initS "java/lang/RuntimeException"), Cond.declares (Bundle.initS "java/lang/Exception"), Cond.declares (Bundle.initS Bundle.tN), Cond.castable E E]) ∧ (∀ w ∈ Cond.classLink RX8 ik E :: Cond.initialized E :: vx_atS RX8 ic E nmX, vx_ot w = true) ∧ Bundle.fit E = true
section THROW
variable {p : Program} {l : Launch} {e : Env} {R : Room} {s : State} {m : MethodId} {args : Array Value} {below : List Frame} {meth : Method} {c : Code} {cc : ByteArray} {nL : Nat} {ret : Option FieldType} {own : String} {G : Gp} {Qm : State → Prop} {kc ks pc : Nat} {L L' : List (Nat × Value)} {st stk : List Value} {σ : St}
theorem J_throw (hfl : l.stackTraces = false) (F : FX p s m args meth c cc nL ret RX8 G) (hT : ∀ x ∈ c.exceptionTable.toList, False) {ik ic is : Nat} {E tx : String} {mc ms : Nat} {Q : Option Value → St → Prop} {QX : String → St → Prop} (th : ThF ik ic is E tx)
    (hR : 5 < R.frames) (hR2 : (st.map fun v => v.category).sum + 82 ≤ R.locals) (hc : kc + 1 ≤ R.cells ∧ ks + 6 ≤ R.slots) (hm : kc + 1 ≤ mc ∧ ks + 6 ≤ ms) (h : QX E σ)
    (d0 : decode cc pc = .ok (.new ik, 3)) (d3 : decode cc (pc + 3) = .ok (.dup, 1)) (d4 : decode cc (pc + 4) = .ok (.ldc is, 2)) (d6 : decode cc (pc + 6) = .ok (.invokespecial ic, 3)) (d9 : decode cc (pc + 9) = .ok (.athrow, 1)) :
    J p l e R s m args below meth c nL G (vx_MQ below (QQ G Q) (XX G QX) args s mc ms (fr G)) kc ks pc L st σ := by
  intro ls H locs hl hP hS
  obtain ⟨t1, t2, t3, ⟨i, hi⟩, t5, t6, t7, t8⟩ := th
  obtain ⟨sa, hsa⟩ := F.2.2.2.2.2.2.2.2.2.1.2.2.1 i _ hi
  have hts := F.2.2.2.2.2.2.1
  have hx4 := F.2.2.2.2.2.2.2.2.2.2.2.1
  have hat : ∀ w ∈ vx_atS RX8 ic E nmX, w.before args s = true := vx_hat (fun w hw => hts w (t5 w hw)) t6 (vx_c (va_Nw.use rfl hx4.1.1) (vx_c (va_Nw.use rfl hx4.1.2.1) (vx_c (va_Nw.use rfl hx4.1.2.2) (vx_c (va_Nw.use rfl (hx4.2.1 E t3)) vx_n))))
  refine vx_throwS (names := nmX) (A := fr G) F.1 F.2.1 hfl F.2.2.2.2.2.1 t8 (by decide) (hts _ t1) (hts _ t2) hsa hat t7 F.2.2.2.2.2.2.2.2.2.2.1.1 F.2.2.2.2.2.2.2.2.2.2.1.2 hS (hl.1.trans F.2.2.2.2.1.symm) d0 d3 d4 d6 d9 (fun x h => (hT x h).elim) hR hR2 hc.1 hc.2 F.2.2.2.1 (fun t hal hz hk => ⟨⟨σ, h, hP.kept (fun k q hq => hk _ (hP k q hq).lt)⟩, Nat.le_trans hS.1 hz, fun q hq hA => by rw [hk q (Nat.lt_of_lt_of_le hq hS.1), hS.2.1 q hq hA]⟩) hS.2.2 hm.1 hm.2
theorem J_throwW (hfl : l.stackTraces = false) (F : FX p s m args meth c cc nL ret RX8 G) (hT : ∀ x ∈ c.exceptionTable.toList, False) {ik ic is : Nat} {E tx : String} {mc ms : Nat} {Q : Option Value → St → Prop} {QX : String → St → Prop} (th : ThF ik ic is E tx)
    (hR : 5 < R.frames) (hR2 : (st.map fun v => v.category).sum + 82 ≤ R.locals) (hc : kc + 1 ≤ R.cells ∧ ks + 6 ≤ R.slots) (hm : kc + 1 ≤ mc ∧ ks + 6 ≤ ms) (h : QX E σ)
    (d0 : decode cc pc = .ok (.new ik, 3)) (d3 : decode cc (pc + 3) = .ok (.dup, 1)) (d4 : decode cc (pc + 4) = .ok (.ldc_w is, 3)) (d6 : decode cc (pc + 7) = .ok (.invokespecial ic, 3)) (d9 : decode cc (pc + 10) = .ok (.athrow, 1)) :
    J p l e R s m args below meth c nL G (vx_MQ below (QQ G Q) (XX G QX) args s mc ms (fr G)) kc ks pc L st σ := by
  intro ls H locs hl hP hS
  obtain ⟨t1, t2, t3, ⟨i, hi⟩, t5, t6, t7, t8⟩ := th
  obtain ⟨sa, hsa⟩ := F.2.2.2.2.2.2.2.2.2.1.2.2.1 i _ hi
  have hts := F.2.2.2.2.2.2.1
  have hx4 := F.2.2.2.2.2.2.2.2.2.2.2.1
  have hat : ∀ w ∈ vx_atS RX8 ic E nmX, w.before args s = true := vx_hat (fun w hw => hts w (t5 w hw)) t6 (vx_c (va_Nw.use rfl hx4.1.1) (vx_c (va_Nw.use rfl hx4.1.2.1) (vx_c (va_Nw.use rfl hx4.1.2.2) (vx_c (va_Nw.use rfl (hx4.2.1 E t3)) vx_n))))
  refine vx_throwSW (names := nmX) (A := fr G) F.1 F.2.1 hfl F.2.2.2.2.2.1 t8 (by decide) (hts _ t1) (hts _ t2) hsa hat t7 F.2.2.2.2.2.2.2.2.2.2.1.1 F.2.2.2.2.2.2.2.2.2.2.1.2 hS (hl.1.trans F.2.2.2.2.1.symm) d0 d3 d4 d6 d9 (fun x h => (hT x h).elim) hR hR2 hc.1 hc.2 F.2.2.2.1 (fun t hal hz hk => ⟨⟨σ, h, hP.kept (fun k q hq => hk _ (hP k q hq).lt)⟩, Nat.le_trans hS.1 hz, fun q hq hA => by rw [hk q (Nat.lt_of_lt_of_le hq hS.1), hS.2.1 q hq hA]⟩) hS.2.2 hm.1 hm.2
end THROW
theorem tx4_IllegalArgumentException : ∀ w ∈ (vx_atS RX8 114 "java/lang/IllegalArgumentException" nmX).filter goodWord, w ∈ lw_tbl := by decide +kernel
theorem tx5_IllegalArgumentException : ∀ w ∈ (vx_atS RX8 114 "java/lang/IllegalArgumentException" nmX).filter goodWord, w ∈ TBL := fun w hw => List.mem_filter.mpr ⟨tx4_IllegalArgumentException w hw, (List.mem_filter.mp hw).2⟩
theorem tx6_IllegalArgumentException : ∀ w ∈ (vx_atS RX8 114 "java/lang/IllegalArgumentException" nmX).filter (fun w => !goodWord w), w ∈ [Cond.declares (Bundle.initS "java/lang/RuntimeException"), Cond.declares (Bundle.initS "java/lang/Exception"), Cond.declares (Bundle.initS Bundle.tN), Cond.castable "java/lang/IllegalArgumentException" "java/lang/IllegalArgumentException"] := by decide +kernel
theorem tx7_IllegalArgumentException : ∀ w ∈ vx_atS RX8 114 "java/lang/IllegalArgumentException" nmX, vx_ot w = true := by decide +kernel
theorem tx4_IllegalStateException : ∀ w ∈ (vx_atS RX8 162 "java/lang/IllegalStateException" nmX).filter goodWord, w ∈ lw_tbl := by decide +kernel
theorem tx5_IllegalStateException : ∀ w ∈ (vx_atS RX8 162 "java/lang/IllegalStateException" nmX).filter goodWord, w ∈ TBL := fun w hw => List.mem_filter.mpr ⟨tx4_IllegalStateException w hw, (List.mem_filter.mp hw).2⟩
theorem tx6_IllegalStateException : ∀ w ∈ (vx_atS RX8 162 "java/lang/IllegalStateException" nmX).filter (fun w => !goodWord w), w ∈ [Cond.declares (Bundle.initS "java/lang/RuntimeException"), Cond.declares (Bundle.initS "java/lang/Exception"), Cond.declares (Bundle.initS Bundle.tN), Cond.castable "java/lang/IllegalStateException" "java/lang/IllegalStateException"] := by decide +kernel
theorem tx7_IllegalStateException : ∀ w ∈ vx_atS RX8 162 "java/lang/IllegalStateException" nmX, vx_ot w = true := by decide +kernel
theorem tx4_IndexOutOfBoundsException : ∀ w ∈ (vx_atS RX8 359 "java/lang/IndexOutOfBoundsException" nmX).filter goodWord, w ∈ lw_tbl := by decide +kernel
theorem tx5_IndexOutOfBoundsException : ∀ w ∈ (vx_atS RX8 359 "java/lang/IndexOutOfBoundsException" nmX).filter goodWord, w ∈ TBL := fun w hw => List.mem_filter.mpr ⟨tx4_IndexOutOfBoundsException w hw, (List.mem_filter.mp hw).2⟩
theorem tx6_IndexOutOfBoundsException : ∀ w ∈ (vx_atS RX8 359 "java/lang/IndexOutOfBoundsException" nmX).filter (fun w => !goodWord w), w ∈ [Cond.declares (Bundle.initS "java/lang/RuntimeException"), Cond.declares (Bundle.initS "java/lang/Exception"), Cond.declares (Bundle.initS Bundle.tN), Cond.castable "java/lang/IndexOutOfBoundsException" "java/lang/IndexOutOfBoundsException"] := by decide +kernel
theorem tx7_IndexOutOfBoundsException : ∀ w ∈ vx_atS RX8 359 "java/lang/IndexOutOfBoundsException" nmX, vx_ot w = true := by decide +kernel
theorem th_X8_110_112 : ThF 110 114 112 "java/lang/IllegalArgumentException" "an act is refused" := ⟨tcl_110, tin_IllegalArgumentException, by decide, ⟨0, rfl⟩, tx5_IllegalArgumentException, tx6_IllegalArgumentException, List.forall_mem_cons.mpr ⟨by decide, List.forall_mem_cons.mpr ⟨by decide, tx7_IllegalArgumentException⟩⟩, by decide +kernel⟩
theorem th_X8_110_123 : ThF 110 114 123 "java/lang/IllegalArgumentException" "the text is wrong" := ⟨tcl_110, tin_IllegalArgumentException, by decide, ⟨1, rfl⟩, tx5_IllegalArgumentException, tx6_IllegalArgumentException, List.forall_mem_cons.mpr ⟨by decide, List.forall_mem_cons.mpr ⟨by decide, tx7_IllegalArgumentException⟩⟩, by decide +kernel⟩
theorem th_X8_110_135 : ThF 110 114 135 "java/lang/IllegalArgumentException" "no such place or point" := ⟨tcl_110, tin_IllegalArgumentException, by decide, ⟨2, rfl⟩, tx5_IllegalArgumentException, tx6_IllegalArgumentException, List.forall_mem_cons.mpr ⟨by decide, List.forall_mem_cons.mpr ⟨by decide, tx7_IllegalArgumentException⟩⟩, by decide +kernel⟩
theorem th_X8_110_144 : ThF 110 114 144 "java/lang/IllegalArgumentException" "no such place" := ⟨tcl_110, tin_IllegalArgumentException, by decide, ⟨3, rfl⟩, tx5_IllegalArgumentException, tx6_IllegalArgumentException, List.forall_mem_cons.mpr ⟨by decide, List.forall_mem_cons.mpr ⟨by decide, tx7_IllegalArgumentException⟩⟩, by decide +kernel⟩
theorem th_X8_110_156 : ThF 110 114 156 "java/lang/IllegalArgumentException" "no such value" := ⟨tcl_110, tin_IllegalArgumentException, by decide, ⟨4, rfl⟩, tx5_IllegalArgumentException, tx6_IllegalArgumentException, List.forall_mem_cons.mpr ⟨by decide, List.forall_mem_cons.mpr ⟨by decide, tx7_IllegalArgumentException⟩⟩, by decide +kernel⟩
theorem th_X8_110_217 : ThF 110 114 217 "java/lang/IllegalArgumentException" "no such zone" := ⟨tcl_110, tin_IllegalArgumentException, by decide, ⟨7, rfl⟩, tx5_IllegalArgumentException, tx6_IllegalArgumentException, List.forall_mem_cons.mpr ⟨by decide, List.forall_mem_cons.mpr ⟨by decide, tx7_IllegalArgumentException⟩⟩, by decide +kernel⟩
theorem th_X8_110_364 : ThF 110 114 364 "java/lang/IllegalArgumentException" "no such cell" := ⟨tcl_110, tin_IllegalArgumentException, by decide, ⟨11, rfl⟩, tx5_IllegalArgumentException, tx6_IllegalArgumentException, List.forall_mem_cons.mpr ⟨by decide, List.forall_mem_cons.mpr ⟨by decide, tx7_IllegalArgumentException⟩⟩, by decide +kernel⟩
theorem th_X8_158_160 : ThF 158 162 160 "java/lang/IllegalStateException" "the act is refused" := ⟨tcl_158, tin_IllegalStateException, by decide, ⟨5, rfl⟩, tx5_IllegalStateException, tx6_IllegalStateException, List.forall_mem_cons.mpr ⟨by decide, List.forall_mem_cons.mpr ⟨by decide, tx7_IllegalStateException⟩⟩, by decide +kernel⟩
theorem th_X8_158_169 : ThF 158 162 169 "java/lang/IllegalStateException" "no act is remembered" := ⟨tcl_158, tin_IllegalStateException, by decide, ⟨6, rfl⟩, tx5_IllegalStateException, tx6_IllegalStateException, List.forall_mem_cons.mpr ⟨by decide, List.forall_mem_cons.mpr ⟨by decide, tx7_IllegalStateException⟩⟩, by decide +kernel⟩
theorem th_X8_158_371 : ThF 158 162 371 "java/lang/IllegalStateException" "the node is not up" := ⟨tcl_158, tin_IllegalStateException, by decide, ⟨13, rfl⟩, tx5_IllegalStateException, tx6_IllegalStateException, List.forall_mem_cons.mpr ⟨by decide, List.forall_mem_cons.mpr ⟨by decide, tx7_IllegalStateException⟩⟩, by decide +kernel⟩
theorem th_X8_355_357 : ThF 355 359 357 "java/lang/IndexOutOfBoundsException" "no such node" := ⟨tcl_355, tin_IndexOutOfBoundsException, by decide, ⟨8, rfl⟩, tx5_IndexOutOfBoundsException, tx6_IndexOutOfBoundsException, List.forall_mem_cons.mpr ⟨by decide, List.forall_mem_cons.mpr ⟨by decide, tx7_IndexOutOfBoundsException⟩⟩, by decide +kernel⟩
theorem th_X8_355_360 : ThF 355 359 360 "java/lang/IndexOutOfBoundsException" "no such key" := ⟨tcl_355, tin_IndexOutOfBoundsException, by decide, ⟨9, rfl⟩, tx5_IndexOutOfBoundsException, tx6_IndexOutOfBoundsException, List.forall_mem_cons.mpr ⟨by decide, List.forall_mem_cons.mpr ⟨by decide, tx7_IndexOutOfBoundsException⟩⟩, by decide +kernel⟩
theorem th_X8_355_362 : ThF 355 359 362 "java/lang/IndexOutOfBoundsException" "no such reality" := ⟨tcl_355, tin_IndexOutOfBoundsException, by decide, ⟨10, rfl⟩, tx5_IndexOutOfBoundsException, tx6_IndexOutOfBoundsException, List.forall_mem_cons.mpr ⟨by decide, List.forall_mem_cons.mpr ⟨by decide, tx7_IndexOutOfBoundsException⟩⟩, by decide +kernel⟩
/-! NoSuchElementException: its constructor passes on by another entry of its pool, so the kit's row doesn't fit; the same way, with that entry (it follows the library's own proof of its sister, JvmDerived/BundleOwnThrow.lean) -/
abbrev nsN : String := "java/util/NoSuchElementException"
def nsA (own : String) (ic : Nat) : List Cond :=
  Bundle.throwableAtoms ++ Bundle.throwableSAtoms ++ (Bundle.passSAtoms nsN "java/lang/RuntimeException" 13 prog_30_method_4_code ++ Bundle.chainSAtoms "java/lang/RuntimeException" ["java/lang/Exception"]) ++
  [.methodLink own ic (Bundle.initS nsN), .instantiable nsN 6, .castable nsN nsN, .selects nsN Bundle.tFill0 Bundle.tFill0, .selects nsN Bundle.tFill Bundle.tFill,
   .lays nsN Bundle.tN "cause" "Ljava/lang/Throwable;", .lays nsN Bundle.tN "stackTrace" Bundle.steD, .lays nsN Bundle.tN "suppressedExceptions" Bundle.listD, .lays nsN Bundle.tN "detailMessage" "Ljava/lang/String;",
   .isRef (.static Bundle.tN "UNASSIGNED_STACK" Bundle.steD), .isRef (.static Bundle.tN "SUPPRESSED_SENTINEL" Bundle.listD),
   .fieldLink Bundle.tN 198 Bundle.tN "backtrace" "Ljava/lang/Object;", .lays Bundle.tN Bundle.tN "backtrace" "Ljava/lang/Object;", .lays nsN Bundle.tN "backtrace" "Ljava/lang/Object;"]
def nsB (own : String) (ic : Nat) : List Cond := (nsA own ic).filter vx_no
theorem nsx0 : decode prog_30_method_4_code 0 = .ok (.aload_n 0, 1) := by decide +kernel
theorem nsx1 : decode prog_30_method_4_code 1 = .ok (.aload_n 1, 1) := by decide +kernel
theorem nsx2 : decode prog_30_method_4_code 2 = .ok (.invokespecial 13, 3) := by decide +kernel
theorem nsx5 : decode prog_30_method_4_code 5 = .ok (.return_, 1) := by decide +kernel
section NSE
variable {p : Program} {l : Launch} {e : Env} {R : Room} {s : State} {m₀ : MethodId} {args : Array Value} {below : List Frame} {meth : Method} {c : Code} {W : State} {locs : List Loc} {cells slots : Nat}
set_option maxHeartbeats 1000000 in
theorem ns_ctor (X : Stand p l e R s m₀ args below meth c W locs cells slots) (hexec : p.tables.exec = Jvm.exec) (htr : e.platform.stackTraces = false) {own : String} {ic : Nat}
    (hown : s.vm.findClass own = some m₀.cls) (h : ∀ a ∈ nsA own ic, a.before args s = true)
    (hlocs : ∀ x ∈ locs, ∀ cell, s.heap[x.base]? = some cell → cell.vm.isStatics = false)
    {a : Addr} {cX : ClassId} {kX : Class} (hfoundX : s.vm.findClass nsN = some cX) (hkX : s.vm.classes[cX]? = some kX) (hcell : W.heap[a]? = some (freshCell cX kX)) (hnew : s.heap.size ≤ a)
    {msg : Value} (hmsg : msg.isRef = true)
    {g : JFrame} (hg : g.method = m₀) (hsize : g.locals.size = c.maxLocals) (hlocked : g.locked = none) (hentered : g.entered = []) {rest : List Value} (hstack : g.stack = msg :: .ref a :: .ref a :: rest)
    (hd6 : decode c.code g.pc = .ok (.invokespecial ic, 3)) (hd9 : decode c.code (g.pc + 3) = .ok (.athrow, 1)) (hout : ∀ x ∈ c.exceptionTable.toList, covers x (g.pc + 3) = false)
    (hRframes : 2 + 3 < R.frames) (hRlocals : 2 * g.monitorRoom + ((Value.ref a :: rest).map fun v => v.category).sum + (13 * (2 + 1) + 42) ≤ R.locals) (hlocks : meth.locks = false) :
    ∃ U : State, Steps p.tables e below (W.setTop g) U ∧ U.status = .running ∧ Ended U below (.threw a) ∧ s.WarmedH U.vm ∧ s.sameButNew ({ U with vm := s.vm } : State) locs cells slots ∧
      ∃ ce, U.heap[a]? = some ce ∧ ce.vm = .none ∧ s.vm.findClass nsN = some ce.cls := by
  have hcls : Bundle.fit nsN = true := by decide +kernel
  have hnames : ∀ n ∈ ["java/lang/RuntimeException", "java/lang/Exception"], Bundle.fit n = true := by decide +kernel
  have howns : e.platform.frameOwnsMonitors = true := by rw [X.admits.platform]
  have hfin : e.platform.finalization = false := by rw [X.admits.platform]
  have hpl : e.platform.magicAccessors = ({} : Platform).magicAccessors := by rw [X.admits.platform]
  have a' : ∀ x, x ∈ nsA own ic → x.holds args s none s [] = true := fun x hx => h x hx
  obtain ⟨T, Z0, L, -, Y⟩ := ThrowableC.of_atoms (args := args) howns hfin hpl (fun x hx => h x (by simp [nsA, hx]))
  obtain ⟨Z, M, LZ, LM, hnZ⟩ := Init0T.ofS_atoms (args := args) hpl L Y (fun x hx => h x (by simp [nsA, hx]))
  obtain ⟨P1, L1, hP1m, hs1⟩ := PassC.ofS_atoms (args := args) (s := s) hpl (X := nsN) (Y := "java/lang/RuntimeException") (Bundle.fit_spec hcls).1 (Bundle.fit_spec (hnames _ List.mem_cons_self)).2 nsx0 nsx1 nsx2 nsx5
      (fun x hx => h x (by simp [nsA, hx]))
  obtain ⟨P', Ps', hlen', L', hL', hm', hsup', hpass'⟩ := Bundle.chainS (args := args) hpl hnZ ["java/lang/Exception"] "java/lang/RuntimeException" (hnames _ List.mem_cons_self) (fun n hn => hnames n (List.mem_cons_of_mem _ hn)) (fun x hx => h x (by simp [nsA, hx]))
  have hlen : (P' :: Ps').length = 2 := by simp [hlen']
  have hL : ∀ P, P ∈ P' :: Ps' → P.LinksS e.platform s := by
    intro Q hQ
    rcases List.mem_cons.mp hQ with rfl | hQ
    · exact L'
    · exact hL' Q hQ
  have hfound : s.vm.findClass nsN = some P1.m.cls := findClass_of_methodNamed hP1m
  cases Option.some.inj (hfoundX.symm.trans hfound)
  obtain ⟨c1, kX', hc1, hk, hord, -, -, hn6⟩ := Cond.instantiable_spec (a' (.instantiable nsN 6) (by simp [nsA]))
  cases Option.some.inj (hc1.symm.trans hfound)
  cases Option.some.inj (hkX.symm.trans hk)
  have hsel0 : selectMethod e.platform s.vm P1.m.cls T.fill0 = .method T.fill0 := by
    obtain ⟨c2, r2, m2, q1, q2, q3, q4, -⟩ := Cond.selects_spec (a' (.selects nsN Bundle.tFill0 Bundle.tFill0) (by simp [nsA]))
    cases Option.some.inj (q1.symm.trans hfound)
    cases Option.some.inj (q2.symm.trans (State.methodFound?_of_named Y.fill0 (by decide)))
    cases Option.some.inj (q3.symm.trans Y.fill0)
    rw [Launch.admits_selectMethod X.admits]; exact q4
  have hselF : selectMethod e.platform s.vm P1.m.cls T.fill = .method T.fill := by
    obtain ⟨c2, r2, m2, q1, q2, q3, q4, -⟩ := Cond.selects_spec (a' (.selects nsN Bundle.tFill Bundle.tFill) (by simp [nsA]))
    cases Option.some.inj (q1.symm.trans hfound)
    cases Option.some.inj (q2.symm.trans (State.methodFound?_of_named Y.fill (by decide)))
    cases Option.some.inj (q3.symm.trans Y.fill)
    rw [Launch.admits_selectMethod X.admits]; exact q4
  obtain ⟨cellS0, hcS0, hiss⟩ := Y.statics
  obtain ⟨u0, hu0⟩ := Cond.staticRefV Y.unassigned L.unassignedStatic L.statics hcS0 hiss (a' (.isRef (.static Bundle.tN "UNASSIGNED_STACK" Bundle.steD)) (by simp [nsA]))
  obtain ⟨sen, hsen⟩ := Cond.staticRefV Y.sentinel L.sentinelStatic L.statics hcS0 hiss (a' (.isRef (.static Bundle.tN "SUPPRESSED_SENTINEL" Bundle.listD)) (by simp [nsA]))
  obtain ⟨ci198, i198, fB, hk198, hg198, ha198, hsB, -, hnB, htB, hffB⟩ := Cond.ownField (t := .object "java/lang/Object") Y.found L.cls (by decide +kernel) (a' (.fieldLink Bundle.tN 198 Bundle.tN "backtrace" "Ljava/lang/Object;") (by simp [nsA])) (a' (.lays Bundle.tN Bundle.tN "backtrace" "Ljava/lang/Object;") (by simp [nsA])) e.platform hpl
  obtain ⟨cellS, hcS', heS, -, hkeep⟩ := X.same.2.2.2.2.2 T.aS cellS0 hcS0
  have hcellS : W.heap[T.aS]? = some cellS := hcS'
  have hout' : ∀ i, (⟨T.aS, i⟩ : Loc) ∉ locs := fun i hmem => by
    have := hlocs _ hmem cellS0 hcS0
    rw [hiss] at this; cases this
  have hknownS : cellS.vm ≠ .unknown := by
    rw [heS]; intro hu
    rw [show cellS0.vm = .unknown from hu] at hiss
    cases hiss
  have hneS : T.aS ≠ a := Nat.ne_of_lt (Nat.lt_of_lt_of_le (Array.getElem?_eq_some_iff.mp hcS0).1 hnew)
  obtain ⟨iM, hffM⟩ := Y.msg
  obtain ⟨tyC, dC, hdC, hdnC⟩ := Cond.laysAt hfound hk Y.cause (a' (.lays nsN Bundle.tN "cause" "Ljava/lang/Throwable;") (by simp [nsA]))
  obtain ⟨tyS, dS, hdS, hdnS⟩ := Cond.laysAt hfound hk Y.stack (a' (.lays nsN Bundle.tN "stackTrace" Bundle.steD) (by simp [nsA]))
  obtain ⟨tyP, dP, hdP, hdnP⟩ := Cond.laysAt hfound hk Y.supp (a' (.lays nsN Bundle.tN "suppressedExceptions" Bundle.listD) (by simp [nsA]))
  obtain ⟨tyM, dM, hdM, hdnM⟩ := Cond.laysAt hfound hk hffM (a' (.lays nsN Bundle.tN "detailMessage" "Ljava/lang/String;") (by simp [nsA]))
  obtain ⟨tyB, dB, hdB, hdnB⟩ := Cond.laysAt hfound hk hffB (a' (.lays nsN Bundle.tN "backtrace" "Ljava/lang/Object;") (by simp [nsA]))
  have bC := Cond.laysApart hdB hdC hdnB hdnC (by rw [hnB, Y.causeName]; decide)
  have bS := Cond.laysApart hdB hdS hdnB hdnS (by rw [hnB, Y.stackName]; decide)
  have bP := Cond.laysApart hdB hdP hdnB hdnP (by rw [hnB, Y.suppName]; decide)
  have hskip : SkipFacts T e.platform s (fun u => u) u0 ((preparedCellV T.toThrowableT (freshCell P1.m.cls kX) a u0 sen).withEntry W.cur) :=
    ⟨{ ci198 := ci198, i198 := i198, fBack := fB }, ⟨hk198, hg198, ha198, hsB⟩, by
      have := fresh_default (c := P1.m.cls) tyB
      rw [htB] at this
      simpa [preparedCellV, Cell.setSlot, Cell.withEntry, Array.getElem?_setIfInBounds, bC, bS, bP, bC.symm, bS.symm, bP.symm, defaultValue] using this, fun _ _ => rfl⟩
  obtain ⟨tm, methC, cdC, kC, vm₁, hnC, -, -, -, -, -, -, -, hW₁, st1⟩ := Steps.initColdS (tb := p.tables) (e := e) (below := below) (s := s) (U := W) X.here hexec X.warmed hpl hown (t := Bundle.initS nsN) rfl rfl (Bundle.fit_spec hcls).2
    (a' (.methodLink own ic (Bundle.initS nsN)) (by simp [nsA])) (h (.instanceMethod (Bundle.initS nsN)) (by simp [nsA, Bundle.passSAtoms])) (bytes := prog_30_method_4_code) (maxL := 2) (h (.code (Bundle.initS nsN) prog_30_method_4_code 2 none) (by simp [nsA, Bundle.passSAtoms]))
    (f := g) hg (a := a) (msg := msg) (rest := .ref a :: rest) hstack hd6
  cases Option.some.inj (hnC.symm.trans hP1m)
  have X₁ := X.noted hW₁
  obtain ⟨vm₂, X₂, st2⟩ := X₁.ctorMessageOffV hexec (g := { g with stack := .ref a :: rest }) hg hsize T L Z LZ M LM (P1 :: (P' :: Ps'))
    (fun P hP => by rcases List.mem_cons.mp hP with rfl | hP; exact L1; exact hL P hP) ⟨Option.some.inj (hs1.symm.trans hm'), hsup', hpass'⟩ (u0 := u0) (sen := sen) (self := a) hmsg (cell := freshCell P1.m.cls kX) (cellS := cellS)
    hcell (fun _ => by simp) (by simp) rfl rfl hsel0 hselF hcellS hneS hknownS (by rw [hkeep _ (hout' _)]; exact hu0) (by rw [hkeep _ (hout' _)]; exact hsen)
    (Takes.of_laid hk hord tyC (by rw [Y.causeType]; rfl)) (Takes.of_laid hk hord tyS (by rw [Y.stackType]; exact fits_refV_array _ u0)) (Takes.of_laid hk hord tyP (by rw [Y.suppType]; exact fits_refV_object _ sen))
    (Takes.of_laid hk hord tyM (by rw [Y.msgType]; exact fits_refV_object _ ⟨msg, hmsg⟩)) Y.objLocals hskip htr [] hd6
    (by rw [List.length_cons, hlen]; omega) (by rw [List.length_cons, hlen]; exact hRlocals)
  obtain ⟨hwalk, hrun, hended, hWU, hsame⟩ := X₂.athrowLeaves hexec (g := { g with stack := .ref a :: rest, pc := g.pc + 3 }) hg hlocked hentered hout (a := a) (rest := rest) rfl hd9
  have hlt : a < ((W.setVm vm₁).setVm vm₂).heap.size := (Array.getElem?_eq_some_iff.mp hcell).1
  have hU := heapAt_setCell_self (s := (W.setVm vm₁).setVm vm₂) (plainBareV T.toThrowableT (freshCell P1.m.cls kX) a u0 sen msg) hlt
  refine ⟨_, st1 _ (fun acts => ?_), hrun, hended, hWU, hsame.weaken (fun y hy hlt' => ?_) (Nat.le_refl _) (Nat.le_refl _), _, hU, rfl, hfound⟩
  · rw [doInvoke_state]
    exact st2 _ hwalk
  · rcases List.mem_append.mp hy with h1 | h1
    · exact h1
    · exfalso
      have hb : y.base = a := by
        simp only [List.mem_cons, List.not_mem_nil, or_false] at h1
        rcases h1 with rfl | rfl | rfl | rfl | rfl <;> rfl
      rw [hb] at hlt'
      exact Nat.not_lt.mpr hnew hlt'
end NSE
theorem ns4 : ∀ w ∈ (nsB RX8 370).filter goodWord, w ∈ lw_tbl := by decide +kernel
theorem ns5 : ∀ w ∈ (nsB RX8 370).filter goodWord, w ∈ TBL := fun w hw => List.mem_filter.mpr ⟨ns4 w hw, (List.mem_filter.mp hw).2⟩
theorem ns6 : ∀ w ∈ (nsB RX8 370).filter (fun w => !goodWord w), w ∈ [Cond.declares (Bundle.initS "java/lang/RuntimeException"), Cond.declares (Bundle.initS "java/lang/Exception"), Cond.declares (Bundle.initS Bundle.tN), Cond.castable nsN nsN] := by decide +kernel
theorem ns7 : ∀ w ∈ nsB RX8 370, vx_ot w = true := by decide +kernel
theorem ns_own {args : Array Value} {s : State} {L : List Cond} (h1 : ∀ w ∈ L.filter vx_no, w.before args s = true)
    (h2 : (Cond.isRef (.static Bundle.tN "UNASSIGNED_STACK" Bundle.steD)).before args s = true) (h3 : (Cond.isRef (.static Bundle.tN "SUPPRESSED_SENTINEL" Bundle.listD)).before args s = true) (h4 : (Cond.laysStatic Bundle.tN "UNASSIGNED_STACK" Bundle.steD).before args s = true) (h5 : (Cond.laysStatic Bundle.tN "SUPPRESSED_SENTINEL" Bundle.listD).before args s = true) : ∀ w ∈ L, w.before args s = true := vx_own h1 h2 h3 h4 h5
section NSE2
variable {p : Program} {l : Launch} {e : Env} {R : Room} {s : State} {m : MethodId} {args : Array Value} {below : List Frame} {meth : Method} {c : Code} {cc : ByteArray} {nL : Nat} {ret : Option FieldType} {own : String} {G : Gp} {Qm : State → Prop} {kc ks pc : Nat} {L L' : List (Nat × Value)} {st stk : List Value} {σ : St}
theorem J_throwN (hfl : l.stackTraces = false) (F : FX p s m args meth c cc nL ret RX8 G) (hT : ∀ x ∈ c.exceptionTable.toList, False) {mc ms : Nat} {Q : Option Value → St → Prop} {QX : String → St → Prop}
    (hR : 5 < R.frames) (hR2 : (st.map fun v => v.category).sum + 82 ≤ R.locals) (hc : kc + 1 ≤ R.cells ∧ ks + 6 ≤ R.slots) (hm : kc + 1 ≤ mc ∧ ks + 6 ≤ ms) (h9 : QX nsN σ)
    (d0 : decode cc pc = .ok (.new 366, 3)) (d3 : decode cc (pc + 3) = .ok (.dup, 1)) (d4 : decode cc (pc + 4) = .ok (.ldc_w 368, 3)) (d7 : decode cc (pc + 7) = .ok (.invokespecial 370, 3)) (d10 : decode cc (pc + 10) = .ok (.athrow, 1)) :
    J p l e R s m args below meth c nL G (vx_MQ below (QQ G Q) (XX G QX) args s mc ms (fr G)) kc ks pc L st σ := by
  intro ls H locs hl hP hS
  obtain ⟨hexec, hb, -, hlocks, hml, hown, hts, -, hSx⟩ := id F
  obtain ⟨sa, hstr⟩ := hSx.2.1.2.2.1 12 _ rfl
  have hx4 := hSx.2.2.2.1
  have hat : ∀ w ∈ nsB RX8 370, w.before args s = true := vx_hat (fun w hw => hts w (ns5 w hw)) ns6 (vx_c (va_Nw.use rfl hx4.1.1) (vx_c (va_Nw.use rfl hx4.1.2.1) (vx_c (va_Nw.use rfl hx4.1.2.2) (vx_c (va_Nw.use rfl (hx4.2.1 nsN (by decide))) vx_n))))
  intro T hT' X
  have htr : e.platform.stackTraces = false := (show e.platform.stackTraces = l.stackTraces by rw [X.admits.platform]).trans hfl
  have Y := vx_rebase X (R' := { frames := R.frames, locals := R.locals, cells := 1, slots := 6 }) (Nat.le_refl _) (Nat.le_refl _) hc.1 hc.2
  obtain ⟨s', hA⟩ : ∃ z, z = (T.setVm s.vm).setFrames (.invoking m args :: below) := ⟨_, rfl⟩
  rw [← hA] at Y
  have hvm : s'.vm = s.vm := by rw [hA]; rfl
  have hhp : s'.heap = H := by rw [hA]; exact hT'
  have hW0 : s.WarmedH s'.vm := by rw [hvm]; exact State.WarmedH.refl s
  have hat' : ∀ w ∈ nsB RX8 370, w.before args s' = true := fun w hw => vx_ot_at hW0 hvm.symm (ns7 w hw) (hat w hw)
  have hk' : (Cond.classLink RX8 366 nsN).before args s' = true := vx_ot_at hW0 hvm.symm (by decide) (hts _ tcl_366)
  have hini' : (Cond.initialized nsN).before args s' = true := vx_ot_at hW0 hvm.symm (by decide) (hts _ tin_NoSuchElementException)
  have hU' : vx_Zq Bundle.tN "UNASSIGNED_STACK" Bundle.steD (fr G) s' s'.heap := by rw [hhp]; exact vx_Zq.moved hW0.alike (hSx.2.2.1.1.kept hS.2.1)
  have hN' : vx_Zq Bundle.tN "SUPPRESSED_SENTINEL" Bundle.listD (fr G) s' s'.heap := by rw [hhp]; exact vx_Zq.moved hW0.alike (hSx.2.2.1.2.kept hS.2.1)
  have h : ∀ w ∈ nsA RX8 370, w.before args s' = true := ns_own hat' (vx_isRefq hU'.1) (vx_isRefq hN'.1) hU'.2.word hN'.2.word
  have hown' : s'.vm.findClass RX8 = some m.cls := by rw [hvm]; exact hown
  have hins : (Cond.instantiable nsN 6).before args s' = true := h _ (by simp [nsA])
  obtain ⟨vm₁, cX, kX, hfX, hkX, -, -, X₁, st1⟩ := Y.newCold hexec (own := RX8) (C := nsN) (index := 366) (n := 6) hown' hk' hins hini'
    (g := F0 m pc ls st) rfl (by rw [hb]; exact d0) (Nat.le_refl _) (Nat.le_refl _)
  generalize hT1 : (T.setVm vm₁).pushCell { cls := cX, slots := kX.instanceTypes.map defaultValue, vm := .none } = T1 at X₁ st1
  have hcat : (Value.ref T.heap.size).category = 1 := rfl
  have hcellA : T1.heap[T.heap.size]? = some (freshCell cX kX) := by rw [← hT1]; exact State.heap_pushCell_size _ _
  have d3' : decode c.code (pc + 3) = .ok (.dup, 1) := by rw [hb]; exact d3
  have d4' : decode c.code (pc + 4) = .ok (.ldc_w 368, 3) := by rw [hb]; exact d4
  have hstr' : vk_R RX8 368 "no such what" sa s' := vk_R.warm hW0 hstr
  obtain ⟨U, hsteps, hrun, hend, hW, hsame, ce, hce, hcv, hO⟩ := ns_ctor X₁ hexec htr (own := RX8) (ic := 370) hown' h (fun x hx => nomatch hx) hfX hkX hcellA (by rw [hhp, hT']; exact Nat.le_refl _) (msg := .ref sa) rfl
    (g := { method := m, pc := pc + 7, locals := ls, stack := .ref sa :: .ref T.heap.size :: .ref T.heap.size :: st, locked := none }) rfl (hl.1.trans hml.symm) rfl rfl (rest := st) rfl
    (by rw [hb]; exact d7) (by rw [hb]; exact d10) (fun x h => (hT x h).elim) hR (by simp only [List.map_cons, List.sum_cons, hcat]; omega) hlocks
  obtain ⟨f1, f2⟩ := vx_frame hsame
  rw [hhp] at f1 f2
  have hWs : s.WarmedH U.vm := State.WarmedH.trans hW0 hW
  have hcl : s.vm.findClass nsN = some ce.cls := by
    rw [hvm] at hO
    exact hO
  have hall : s.sameButNew ({ U with vm := s.vm } : State) locs mc ms := by
    subst hA
    obtain ⟨e1, e2⟩ := hsame
    rw [State.setFrames_setFrames] at e1
    have h2 : (T.setVm s.vm).sameButNew ({ U with vm := s.vm } : State) [] (0 + 1) (0 + 6) := ⟨e1, e2⟩
    have h3 := X.same.trans h2
    rw [List.append_nil] at h3
    exact h3.mono hm.1 hm.2
  have f3 : ∀ q : Nat, q < H.size → U.heap[q]? = H[q]? := fun q hq => f2 q hq (fun z hz => nomatch hz)
  refine ⟨U, ?_, .threw T.heap.size, hrun, hend, Or.inr ⟨T.heap.size, rfl, nsN, ce, locs, ⟨⟨σ, h9, hP.kept (fun k q hq => f3 _ (hP k q hq).lt)⟩, Nat.le_trans hS.1 f1, fun q hq hA => by rw [f3 q (Nat.lt_of_lt_of_le hq hS.1), hS.2.1 q hq hA]⟩, hce, hcv, hcl, hWs, hall, hS.2.2⟩⟩
  refine st1 _ ?_
  show Steps p.tables e below (T1.setTop { method := m, pc := pc + 3, locals := ls, stack := .ref T.heap.size :: st, locked := none }) _
  jvm_step X₁.here [X₁.here.top, hexec, d3', Value.category]
  exact X₁.ldcStringW hexec (own := RX8) (text := "no such what") (index := 368) (a := sa) hown' hstr'.1 hstr'.2
    (g := { method := m, pc := pc + 4, locals := ls, stack := .ref T.heap.size :: .ref T.heap.size :: st, locked := none }) rfl d4' _ hsteps
end NSE2
section TEXTS
variable {p : Program} {l : Launch} {e : Env} {R : Room} {s : State} {m : MethodId} {args : Array Value} {below : List Frame} {meth : Method} {c : Code} {cc : ByteArray} {nL : Nat} {ret : Option FieldType} {own : String} {G : Gp} {Qm : State → Prop} {kc ks pc : Nat} {L L' : List (Nat × Value)} {st stk : List Value} {σ : St}
theorem va_ldcSW (hexec : p.tables.exec = Jvm.exec) (hb : c.code = cc) {H : Heap} {locs : List Loc} {ls : Array Slot} {Q : State → Prop} {tx : String} {index q : Nat} (hown : s.vm.findClass own = some m.cls) (hZ : vk_R own index tx q s) (hdg : decode cc pc = .ok (.ldc_w index, 3))
    (k : W p l e R s m args below meth c H locs kc ks Q (F0 m (pc + 3) ls (.ref q :: st))) : W p l e R s m args below meth c H locs kc ks Q (F0 m pc ls st) := by
  intro T hT X
  obtain ⟨t, a1, b1⟩ := k T hT X
  refine ⟨t, ?_, b1⟩
  obtain ⟨kk, cf, i, a', hk, hcf, hcp, -, hr, hev'⟩ := Cond.stringRef_spec hown hZ.1
  cases hZ.2.symm.trans hev'
  obtain ⟨k', hk', he⟩ := X.warmed.alike.2.2 _ _ hk
  have hr' : k'.resolved[index]? = some (some (.string q)) := by
    rcases X.warmed.entry hk hk' index with h | ⟨h, -⟩
    · rw [h]; exact hr
    · rw [hr] at h; cases h
  jvm_step X.here [X.here.top, hexec, hb, hdg, ldc_w.wp_string (e := e) (s := T) (f := F0 m pc ls st) X.here.top hk' (by rw [he]; exact hcf) hcp hr']
  exact a1
theorem J_ldsw (F : FX p s m args meth c cc nL ret own G) {w : Nat} {q : Nat × String} (t : List (Nat × String)) (ht : (t = txR ∧ own = RX3) ∨ (t = txM ∧ own = RX9)) (hq : t[w]? = some q) (d : decode cc pc = .ok (.ldc_w q.1, 3)) (k : J p l e R s m args below meth c nL G Qm kc ks (pc + 3) L (.ref (gx G w) :: st) σ) : J p l e R s m args below meth c nL G Qm kc ks pc L st σ :=
  fun ls H locs hl hP hS => va_ldcSW (tx := q.2) F.1 F.2.1 F.2.2.2.2.2.1 (by rcases ht with ⟨rfl, rfl⟩ | ⟨rfl, rfl⟩; exact F.2.2.2.2.2.2.2.2.2.1.1 w q hq; exact F.2.2.2.2.2.2.2.2.2.1.2.1 w q hq) d (k ls H locs hl hP hS)
/-- a call on a text -/
theorem J_callT (F : FX p s m args meth c cc nL ret own G) {y : MethodName} {cy : ByteArray} {nL' fm lo i w : Nat} {ret' : Option FieldType} {As : List Value} {Q' : Option Value → St → Prop} (hM : Cn l y cy nL' ret' fm lo G (.ref (gx G w) :: As) σ Q') (hw : w < 12) (hy : y.cls = RJ0)
    (hlk : Cond.methodLink own i y ∈ TBL) (hin : Cond.instanceMethod y ∈ TBL) (hse : Cond.selects RJ0 y y ∈ TBL) (hco : Cond.code y cy nL' ret' ∈ TBL) (hd : y.cls ≠ "java/lang/invoke/MethodHandle" ∧ y.cls ≠ "java/lang/invoke/VarHandle" ∧ (parseMethodDescriptor y.desc).map (fun d => d.parameters.length) = some As.length) (hR : fm + 1 ≤ R.frames ∧ 8 + (nL' + 11) + lo ≤ R.locals) (hst : (st.map fun v => v.category).sum ≤ 8) (hkc : kc ≤ R.cells ∧ ks ≤ R.slots) (hs : stk = As.reverse ++ .ref (gx G w) :: st) (d : decode cc pc = .ok (.invokevirtual i, 3)) (k : ∀ v σ', Q' v σ' → J p l e R s m args below meth c nL G Qm kc ks (pc + 3) L (v.toList ++ st) σ') : J p l e R s m args below meth c nL G Qm kc ks pc L stk σ := by
  intro ls H locs hl hP hS
  have hts := F.2.2.2.2.2.2.1
  have cb : CallB R s args own i y cy nL' ret' (.code y cy nL' ret' :: TBL) (rmF fm lo) 0 0 As.length := callB_of As.length hts (tb_GoodIn hco) rfl rfl rfl (by rw [hy]; exact hts _ ini_RJ0) (hts _ hlk) hd hR
  have hre := vk_recv F.2.2.2.2.2.2.2.2.2.1.2.2.2 hw hS
  have hr := va_runV (g := F0 m pc ls stk) (rest := st) (As := As) (H := H) (locs := locs) (cells := kc) (slots := ks) (p := p) (e := e) (below := below) (meth := meth) ⟨F.1, F.2.1, F.2.2.2.2.1, F.2.2.2.2.2.1, hts⟩ hM ⟨cb, hts _ hin, hts _ hse⟩ ⟨fun a U g mk q => ⟨q.1, q.2.calling⟩, hre, fun U hU hW => ⟨rfl, by rw [hU]; exact hP, va_K.moved hW.alike F.2.2.2.2.2.2.2.1, by rw [hU]; exact (F.2.2.2.2.2.2.2.2.kept hS.1 hS.2.1).warm hW⟩⟩ rfl rfl hl.1 hs (by simpa [JFrame.monitorRoom] using hst) d hkc
  intro T hT' X
  obtain ⟨v, st₀, t, T', L9, h0, X', hL, e1, e2, ⟨⟨v', σ', hv, hq, hP'⟩, hF⟩, hst'⟩ := hr T hT' X
  cases hv
  obtain ⟨t2, a1, b1⟩ := k _ σ' hq ls T'.heap (locs ++ L9) hl (by rw [e1]; exact hP') (by rw [e1]; exact hS.calls h0 hF hL) T' rfl X'
  exact ⟨t2, hst' t2 a1, b1⟩
theorem J_gsZ (F : FX p s m args meth c cc nL ret RJ0 G) (d : decode cc pc = .ok (.getstatic 38, 3)) (k : J p l e R s m args below meth c nL G Qm kc ks (pc + 3) L (.int 1 :: st) σ) : J p l e R s m args below meth c nL G Qm kc ks pc L st σ :=
  fun ls H locs hl hP hS => va_gets (C := RJ0) (n := "COMPACT_STRINGS") (d := "Z") (A := fr G) F.1 F.2.1 F.2.2.2.2.2.2.2.2.2.2.2.2.1 hS F.2.2.2.2.2.1 (F.2.2.2.2.2.2.1 _ tf_38) (fun _ h => h) d (k ls H locs hl hP hS)
theorem J_gsQ (F : FX p s m args meth c cc nL ret RJ0 G) (d : decode cc pc = .ok (.getstatic 1053, 3)) (k : ∀ v : Value, v = .null ∨ (∃ t : Nat, v = .ref t) → J p l e R s m args below meth c nL G Qm kc ks (pc + 3) L (v :: st) σ) : J p l e R s m args below meth c nL G Qm kc ks pc L st σ := by
  intro ls H locs hl hP hS
  rcases F.2.2.2.2.2.2.2.2.2.2.2.2.2 with h | ⟨t, h⟩
  · exact va_gets (A := fr G) F.1 F.2.1 h hS F.2.2.2.2.2.1 (F.2.2.2.2.2.2.1 _ tf_1053) (fun _ h => h) d (k _ (Or.inl rfl) ls H locs hl hP hS)
  · exact va_gets (A := fr G) F.1 F.2.1 h hS F.2.2.2.2.2.1 (F.2.2.2.2.2.2.1 _ tf_1053) (fun _ h => h) d (k _ (Or.inr ⟨t, rfl⟩) ls H locs hl hP hS)
theorem J_gfC (F : FX p s m args meth c cc nL ret RJ0 G) {w : Nat} (hw : w < 12) (d : decode cc pc = .ok (.getfield 15, 3)) (k : J p l e R s m args below meth c nL G Qm kc ks (pc + 3) L (.int 0 :: st) σ) : J p l e R s m args below meth c nL G Qm kc ks pc L (.ref (gx G w) :: st) σ :=
  fun ls H locs hl hP hS => vk_getf F.1 F.2.1 (F.2.2.2.2.2.2.2.2.2.1.2.2.2.1 w hw).2.1 hS F.2.2.2.2.2.1 (F.2.2.2.2.2.2.1 _ tf_15) (fun _ h => h) d (k ls H locs hl hP hS)
theorem J_gfB (F : FX p s m args meth c cc nL ret RJ0 G) {w : Nat} (hw : w < 12) (d : decode cc pc = .ok (.getfield 9, 3)) (k : J p l e R s m args below meth c nL G Qm kc ks (pc + 3) L (.ref (gy G w) :: st) σ) : J p l e R s m args below meth c nL G Qm kc ks pc L (.ref (gx G w) :: st) σ :=
  fun ls H locs hl hP hS => vk_getf F.1 F.2.1 (F.2.2.2.2.2.2.2.2.2.1.2.2.2.1 w hw).2.2.1 hS F.2.2.2.2.2.1 (F.2.2.2.2.2.2.1 _ tf_9) (fun _ h => h) d (k ls H locs hl hP hS)
theorem J_tlen (F : FX p s m args meth c cc nL ret own G) {w : Nat} (hw : w < 12) (d : decode cc pc = .ok (.arraylength, 1)) (k : J p l e R s m args below meth c nL G Qm kc ks (pc + 1) L (.int (nI (litL.getD w 0)) :: st) σ) : J p l e R s m args below meth c nL G Qm kc ks pc L (.ref (gy G w) :: st) σ :=
  fun ls H locs hl hP hS => va_tlen F.1 F.2.1 (F.2.2.2.2.2.2.2.2.2.1.2.2.2.1 w hw).2.2.2 hS rfl d (k ls H locs hl hP hS)
theorem J_tb (F : FX p s m args meth c cc nL ret own G) {w : Nat} {i : Int32} (hw : w < 12) (hin : vp_in i (litL.getD w 0)) (d : decode cc pc = .ok (.baload, 1)) (k : J p l e R s m args below meth c nL G Qm kc ks (pc + 1) L (.int ((litB.getD w []).getD i.toNatClampNeg 0) :: st) σ) : J p l e R s m args below meth c nL G Qm kc ks pc L (.int i :: .ref (gy G w) :: st) σ :=
  fun ls H locs hl hP hS => va_tb F.1 F.2.1 (F.2.2.2.2.2.2.2.2.2.1.2.2.2.1 w hw).2.2.2 hS hin rfl d (k ls H locs hl hP hS)
theorem J_i2c (F : FX p s m args meth c cc nL ret own G) {x : Int32} (d : decode cc pc = .ok (.i2c, 1)) (k : J p l e R s m args below meth c nL G Qm kc ks (pc + 1) L (.int (x.toUInt32 % 65536).toInt32 :: st) σ) : J p l e R s m args below meth c nL G Qm kc ks pc L (.int x :: st) σ :=
  fun ls H locs hl hP hS => lv_i2c F.1 F.2.1 d rfl (k ls H locs hl hP hS)
theorem J_rett {ty : FieldType} (F : FX p s m args meth c cc nL (some ty) own G) {Q : Option Value → St → Prop} {v : Int32} (hn : narrow ty (.int v) = .int v) (hq : Q (some (.int v)) σ) (d : decode cc pc = .ok (.ireturn, 1)) : J p l e R s m args below meth c nL G (MQ below (QQ G Q) args s 0 0 (fr G)) 0 0 pc L [.int v] σ :=
  fun ls H locs hl hP hS => W.zret F.1 F.2.1 F.2.2.1 hn (fun t ht _ => ⟨⟨_, σ, rfl, hq, by rw [ht]; exact hP⟩, hS.F ht⟩) hS.2.2 d F.2.2.2.1
theorem J_alnV (F : FX p s m args meth c cc nL ret own G) {q : Fin 4} {i : Nat} {v : Value} (hv : v = .null ∨ ∃ t : Nat, v = .ref t) (j : Nat) (d : decode cc pc = .ok (.aload_n q, 1)) (hi : (q : Nat) = i) (hj : L[j]? = some (i, v)) (k : J p l e R s m args below meth c nL G Qm kc ks (pc + 1) L (v :: st) σ) : J p l e R s m args below meth c nL G Qm kc ks pc L st σ := by
  intro ls H locs hl hP hS
  rcases hv with rfl | ⟨t, rfl⟩
  · exact lv_aload_nN F.1 F.2.1 d hi (lv_at hl j hj) (k ls H locs hl hP hS)
  · exact lv_aload_n F.1 F.2.1 d hi (lv_at hl j hj) (k ls H locs hl hP hS)
end TEXTS
theorem getD_mem {α : Type} {l : List α} {i : Nat} {d : α} (h : i < l.length) : l.getD i d ∈ l := by
  rw [List.getD_eq_getElem?_getD, List.getElem?_eq_getElem h]
  exact List.getElem_mem h
theorem lit_ok : ∀ w, w < 12 → (litL.getD w 0 = (litB.getD w []).length ∧ litL.getD w 0 < 2 ^ 31 ∧ ∀ b ∈ litB.getD w [], ((b &&& nI 255).toUInt32 % 65536).toInt32 = b ∧ narrow .char (.int b) = .int b) := by decide +kernel

theorem dJ0_coder_7d493_0 : decode cJ0_coder_7d493 0 = .ok (.getstatic 38, 3) := by decide +kernel
theorem dJ0_coder_7d493_3 : decode cJ0_coder_7d493 3 = .ok (.ifCond .eq 10, 3) := by decide +kernel
theorem dJ0_coder_7d493_6 : decode cJ0_coder_7d493 6 = .ok (.aload_n 0, 1) := by decide +kernel
theorem dJ0_coder_7d493_7 : decode cJ0_coder_7d493 7 = .ok (.getfield 15, 3) := by decide +kernel
theorem dJ0_coder_7d493_10 : decode cJ0_coder_7d493 10 = .ok (.goto 4, 3) := by decide +kernel
theorem dJ0_coder_7d493_13 : decode cJ0_coder_7d493 13 = .ok (.iconst 1, 1) := by decide +kernel
theorem dJ0_coder_7d493_14 : decode cJ0_coder_7d493 14 = .ok (.ireturn, 1) := by decide +kernel
theorem dJ0_isLatin1_aae02_0 : decode cJ0_isLatin1_aae02 0 = .ok (.getstatic 38, 3) := by decide +kernel
theorem dJ0_isLatin1_aae02_3 : decode cJ0_isLatin1_aae02 3 = .ok (.ifCond .eq 14, 3) := by decide +kernel
theorem dJ0_isLatin1_aae02_6 : decode cJ0_isLatin1_aae02 6 = .ok (.aload_n 0, 1) := by decide +kernel
theorem dJ0_isLatin1_aae02_7 : decode cJ0_isLatin1_aae02 7 = .ok (.getfield 15, 3) := by decide +kernel
theorem dJ0_isLatin1_aae02_10 : decode cJ0_isLatin1_aae02 10 = .ok (.ifCond .ne 7, 3) := by decide +kernel
theorem dJ0_isLatin1_aae02_13 : decode cJ0_isLatin1_aae02 13 = .ok (.iconst 1, 1) := by decide +kernel
theorem dJ0_isLatin1_aae02_14 : decode cJ0_isLatin1_aae02 14 = .ok (.goto 4, 3) := by decide +kernel
theorem dJ0_isLatin1_aae02_17 : decode cJ0_isLatin1_aae02 17 = .ok (.iconst 0, 1) := by decide +kernel
theorem dJ0_isLatin1_aae02_18 : decode cJ0_isLatin1_aae02 18 = .ok (.ireturn, 1) := by decide +kernel
theorem dJ0_length_8abf5_0 : decode cJ0_length_8abf5 0 = .ok (.aload_n 0, 1) := by decide +kernel
theorem dJ0_length_8abf5_1 : decode cJ0_length_8abf5 1 = .ok (.getfield 9, 3) := by decide +kernel
theorem dJ0_length_8abf5_4 : decode cJ0_length_8abf5 4 = .ok (.arraylength, 1) := by decide +kernel
theorem dJ0_length_8abf5_5 : decode cJ0_length_8abf5 5 = .ok (.aload_n 0, 1) := by decide +kernel
theorem dJ0_length_8abf5_6 : decode cJ0_length_8abf5 6 = .ok (.invokevirtual 335, 3) := by decide +kernel
theorem dJ0_length_8abf5_9 : decode cJ0_length_8abf5 9 = .ok (.ishr, 1) := by decide +kernel
theorem dJ0_length_8abf5_10 : decode cJ0_length_8abf5 10 = .ok (.ireturn, 1) := by decide +kernel
theorem dJ0_charAt_5068e_0 : decode cJ0_charAt_5068e 0 = .ok (.aload_n 0, 1) := by decide +kernel
theorem dJ0_charAt_5068e_1 : decode cJ0_charAt_5068e 1 = .ok (.invokevirtual 492, 3) := by decide +kernel
theorem dJ0_charAt_5068e_4 : decode cJ0_charAt_5068e 4 = .ok (.ifCond .eq 12, 3) := by decide +kernel
theorem dJ0_charAt_5068e_7 : decode cJ0_charAt_5068e 7 = .ok (.aload_n 0, 1) := by decide +kernel
theorem dJ0_charAt_5068e_8 : decode cJ0_charAt_5068e 8 = .ok (.getfield 9, 3) := by decide +kernel
theorem dJ0_charAt_5068e_11 : decode cJ0_charAt_5068e 11 = .ok (.iload_n 1, 1) := by decide +kernel
theorem dJ0_charAt_5068e_12 : decode cJ0_charAt_5068e 12 = .ok (.invokestatic 495, 3) := by decide +kernel
theorem dJ0_charAt_5068e_15 : decode cJ0_charAt_5068e 15 = .ok (.ireturn, 1) := by decide +kernel
theorem dJ0_charAt_5068e_16 : decode cJ0_charAt_5068e 16 = .ok (.aload_n 0, 1) := by decide +kernel
theorem dJ0_charAt_5068e_17 : decode cJ0_charAt_5068e 17 = .ok (.getfield 9, 3) := by decide +kernel
theorem dJ0_charAt_5068e_20 : decode cJ0_charAt_5068e 20 = .ok (.iload_n 1, 1) := by decide +kernel
theorem dJ0_charAt_5068e_21 : decode cJ0_charAt_5068e 21 = .ok (.invokestatic 498, 3) := by decide +kernel
theorem dJ0_charAt_5068e_24 : decode cJ0_charAt_5068e 24 = .ok (.ireturn, 1) := by decide +kernel
theorem dJ1_charAt_3b067_0 : decode cJ1_charAt_3b067 0 = .ok (.iload_n 1, 1) := by decide +kernel
theorem dJ1_charAt_3b067_1 : decode cJ1_charAt_3b067 1 = .ok (.aload_n 0, 1) := by decide +kernel
theorem dJ1_charAt_3b067_2 : decode cJ1_charAt_3b067 2 = .ok (.arraylength, 1) := by decide +kernel
theorem dJ1_charAt_3b067_3 : decode cJ1_charAt_3b067 3 = .ok (.invokestatic 9, 3) := by decide +kernel
theorem dJ1_charAt_3b067_6 : decode cJ1_charAt_3b067 6 = .ok (.aload_n 0, 1) := by decide +kernel
theorem dJ1_charAt_3b067_7 : decode cJ1_charAt_3b067 7 = .ok (.iload_n 1, 1) := by decide +kernel
theorem dJ1_charAt_3b067_8 : decode cJ1_charAt_3b067 8 = .ok (.baload, 1) := by decide +kernel
theorem dJ1_charAt_3b067_9 : decode cJ1_charAt_3b067 9 = .ok (.sipush 255, 3) := by decide +kernel
theorem dJ1_charAt_3b067_12 : decode cJ1_charAt_3b067 12 = .ok (.iand, 1) := by decide +kernel
theorem dJ1_charAt_3b067_13 : decode cJ1_charAt_3b067 13 = .ok (.i2c, 1) := by decide +kernel
theorem dJ1_charAt_3b067_14 : decode cJ1_charAt_3b067 14 = .ok (.ireturn, 1) := by decide +kernel
theorem dJ0_checkIndex_df160_0 : decode cJ0_checkIndex_df160 0 = .ok (.iload_n 0, 1) := by decide +kernel
theorem dJ0_checkIndex_df160_1 : decode cJ0_checkIndex_df160 1 = .ok (.iload_n 1, 1) := by decide +kernel
theorem dJ0_checkIndex_df160_2 : decode cJ0_checkIndex_df160 2 = .ok (.getstatic 1053, 3) := by decide +kernel
theorem dJ0_checkIndex_df160_5 : decode cJ0_checkIndex_df160 5 = .ok (.invokestatic 1059, 3) := by decide +kernel
theorem dJ0_checkIndex_df160_8 : decode cJ0_checkIndex_df160 8 = .ok (.pop, 1) := by decide +kernel
theorem dJ0_checkIndex_df160_9 : decode cJ0_checkIndex_df160 9 = .ok (.return_, 1) := by decide +kernel
theorem dJ3_checkIndex_8e157_0 : decode cJ3_checkIndex_8e157 0 = .ok (.iload_n 0, 1) := by decide +kernel
theorem dJ3_checkIndex_8e157_1 : decode cJ3_checkIndex_8e157 1 = .ok (.ifCond .lt 8, 3) := by decide +kernel
theorem dJ3_checkIndex_8e157_4 : decode cJ3_checkIndex_8e157 4 = .ok (.iload_n 0, 1) := by decide +kernel
theorem dJ3_checkIndex_8e157_5 : decode cJ3_checkIndex_8e157 5 = .ok (.iload_n 1, 1) := by decide +kernel
theorem dJ3_checkIndex_8e157_6 : decode cJ3_checkIndex_8e157 6 = .ok (.if_icmp .lt 10, 3) := by decide +kernel
theorem dJ3_checkIndex_8e157_9 : decode cJ3_checkIndex_8e157 9 = .ok (.aload_n 2, 1) := by decide +kernel
theorem dJ3_checkIndex_8e157_10 : decode cJ3_checkIndex_8e157 10 = .ok (.iload_n 0, 1) := by decide +kernel
theorem dJ3_checkIndex_8e157_11 : decode cJ3_checkIndex_8e157 11 = .ok (.iload_n 1, 1) := by decide +kernel
theorem dJ3_checkIndex_8e157_12 : decode cJ3_checkIndex_8e157 12 = .ok (.invokestatic 95, 3) := by decide +kernel
theorem dJ3_checkIndex_8e157_15 : decode cJ3_checkIndex_8e157 15 = .ok (.athrow, 1) := by decide +kernel
theorem dJ3_checkIndex_8e157_16 : decode cJ3_checkIndex_8e157 16 = .ok (.iload_n 0, 1) := by decide +kernel
theorem dJ3_checkIndex_8e157_17 : decode cJ3_checkIndex_8e157 17 = .ok (.ireturn, 1) := by decide +kernel
theorem C_coder (l : Launch) (G : Gp) {w : Nat} (hw : w < 12) {σ : St} : Cn l yJ0_coder_7d493 cJ0_coder_7d493 1 (some .byte) 0 0 G [.ref (gx G w)] σ (fun v σ' => v = some (.int 0) ∧ σ' = σ) := by
  refine Cn_of (L := [(0, .ref (gx G w))]) RJ0 (by decide) rfl (Nat.le_of_ble_eq_true rfl) rfl ?_
  intro p e s m below meth c F
  refine J_gsZ F dJ0_coder_7d493_0 ?_
  refine J_zeq F (tgt := 13) dJ0_coder_7d493_3 (by decide) (fun h => absurd h (by decide)) (fun _ => ?_)
  refine J_aln F 0 dJ0_coder_7d493_6 rfl rfl ?_
  refine J_gfC F hw dJ0_coder_7d493_7 ?_
  refine J_goto F (tgt := 14) dJ0_coder_7d493_10 (by decide) ?_
  exact J_rett F (by decide) ⟨rfl, rfl⟩ dJ0_coder_7d493_14
theorem C_lat (l : Launch) (G : Gp) {w : Nat} (hw : w < 12) {σ : St} : Cn l yJ0_isLatin1_aae02 cJ0_isLatin1_aae02 1 (some .boolean) 0 0 G [.ref (gx G w)] σ (fun v σ' => v = some (.int 1) ∧ σ' = σ) := by
  refine Cn_of (L := [(0, .ref (gx G w))]) RJ0 (by decide) rfl (Nat.le_of_ble_eq_true rfl) rfl ?_
  intro p e s m below meth c F
  refine J_gsZ F dJ0_isLatin1_aae02_0 ?_
  refine J_zeq F (tgt := 17) dJ0_isLatin1_aae02_3 (by decide) (fun h => absurd h (by decide)) (fun _ => ?_)
  refine J_aln F 0 dJ0_isLatin1_aae02_6 rfl rfl ?_
  refine J_gfC F hw dJ0_isLatin1_aae02_7 ?_
  refine J_zne F (tgt := 17) dJ0_isLatin1_aae02_10 (by decide) (fun h => absurd rfl h) (fun _ => ?_)
  refine J_ic F (v := 1) dJ0_isLatin1_aae02_13 (by decide) ?_
  refine J_goto F (tgt := 18) dJ0_isLatin1_aae02_14 (by decide) ?_
  exact J_rett F (by decide) ⟨rfl, rfl⟩ dJ0_isLatin1_aae02_18
theorem C_slen (l : Launch) (G : Gp) {w : Nat} (hw : w < 12) {σ : St} : Cn l yJ0_length_8abf5 cJ0_length_8abf5 1 (some .int) 1 20 G [.ref (gx G w)] σ (fun v σ' => v = some (.int (nI (litL.getD w 0))) ∧ σ' = σ) := by
  refine Cn_of (L := [(0, .ref (gx G w))]) RJ0 (by decide) rfl (Nat.le_of_ble_eq_true rfl) rfl ?_
  intro p e s m below meth c F
  refine J_aln F 0 dJ0_length_8abf5_0 rfl rfl ?_
  refine J_gfB F hw dJ0_length_8abf5_1 ?_
  refine J_tlen F hw dJ0_length_8abf5_4 ?_
  refine J_aln F 0 dJ0_length_8abf5_5 rfl rfl ?_
  refine J_callT F (As := []) (st := [.int (nI (litL.getD w 0))]) (C_coder l G hw) hw rfl tm_coder li_J0_coder_7d493 ls_J0_coder_7d493 lc_J0_coder_7d493 hd_J0_coder_7d493 (by decide) (Nat.le_of_ble_eq_true rfl) (by decide) rfl dJ0_length_8abf5_6 (fun v σ' h => ?_)
  obtain ⟨rfl, h⟩ := h
  subst σ'
  refine J_ishr F dJ0_length_8abf5_9 ?_
  exact J_rett F rfl ⟨by rw [show ((0 : Int32) &&& 31) = nI 0 by decide, pk_shrN (lit_ok w hw).2.1 (nI 0) 0 (by decide), Nat.pow_zero, Nat.div_one], rfl⟩ dJ0_length_8abf5_10
theorem C_pci (l : Launch) (G : Gp) {i n : Int32} {v : Value} (hv : v = .null ∨ ∃ t : Nat, v = .ref t) (h1 : ¬ i < 0) (h2 : i < n) {σ : St} : Cn l yJ3_checkIndex_8e157 cJ3_checkIndex_8e157 3 (some .int) 0 0 G [.int i, .int n, v] σ (fun v σ' => (∃ r, v = some (.int r)) ∧ σ' = σ) := by
  refine Cn_of (L := [(0, .int i), (1, .int n), (2, v)]) RJ3 (by decide) rfl (by rcases hv with rfl | ⟨t, rfl⟩ <;> exact Nat.le_of_ble_eq_true rfl) (by rcases hv with rfl | ⟨t, rfl⟩ <;> rfl) ?_
  intro p e s m below meth c F
  refine J_iln F 0 dJ3_checkIndex_8e157_0 rfl rfl ?_
  refine J_zlt F (tgt := 9) dJ3_checkIndex_8e157_1 (by decide) (fun h => absurd h h1) (fun _ => ?_)
  refine J_iln F 0 dJ3_checkIndex_8e157_4 rfl rfl ?_
  refine J_iln F 1 dJ3_checkIndex_8e157_5 rfl rfl ?_
  refine J_clt F (tgt := 16) dJ3_checkIndex_8e157_6 (by decide) (fun _ => ?_) (fun h => absurd h2 h)
  refine J_iln F 0 dJ3_checkIndex_8e157_16 rfl rfl ?_
  exact J_rett F rfl ⟨⟨_, rfl⟩, rfl⟩ dJ3_checkIndex_8e157_17
theorem C_sci (l : Launch) (G : Gp) {i n : Int32} (h1 : ¬ i < 0) (h2 : i < n) {σ : St} : Cn l yJ0_checkIndex_df160 cJ0_checkIndex_df160 2 none 1 22 G [.int i, .int n] σ (fun v σ' => v = none ∧ σ' = σ) := by
  refine Cn_of (L := [(0, .int i), (1, .int n)]) RJ0 (by decide) rfl (Nat.le_of_ble_eq_true rfl) rfl ?_
  intro p e s m below meth c F
  refine J_iln F 0 dJ0_checkIndex_df160_0 rfl rfl ?_
  refine J_iln F 1 dJ0_checkIndex_df160_1 rfl rfl ?_
  refine J_gsQ F dJ0_checkIndex_df160_2 (fun v hv => ?_)
  refine J_callS F (As := [.int i, .int n, v]) (st := []) (C_pci l G hv h1 h2) tm_ci3 li_J3_checkIndex_8e157 ini_RJ3 lc_J3_checkIndex_8e157 hd_J3_checkIndex_8e157 (by decide) (Nat.le_of_ble_eq_true rfl) (by decide) rfl dJ0_checkIndex_df160_5 (fun v σ' h => ?_)
  obtain ⟨⟨r, rfl⟩, h⟩ := h
  subst σ'
  refine J_pop F dJ0_checkIndex_df160_8 rfl ?_
  exact J_retv F ⟨rfl, rfl⟩ dJ0_checkIndex_df160_9
theorem lt_of_in {i : Int32} {n : Nat} (hn : n < 2 ^ 31) (h : vp_in i n) : ¬ i < 0 ∧ i < nI n := by
  obtain ⟨j, hj, rfl⟩ := vp_in_of h hn
  exact ⟨nI_pos (by omega), nI_lt hj hn⟩
theorem C_lch (l : Launch) (G : Gp) {w : Nat} {i : Int32} (hw : w < 12) (hin : vp_in i (litL.getD w 0)) {σ : St} : Cn l yJ1_charAt_3b067 cJ1_charAt_3b067 2 (some .char) 2 43 G [.ref (gy G w), .int i] σ (fun v σ' => v = some (.int ((litB.getD w []).getD i.toNatClampNeg 0)) ∧ σ' = σ) := by
  have hi := lt_of_in (lit_ok w hw).2.1 hin
  refine Cn_of (L := [(0, .ref (gy G w)), (1, .int i)]) RJ1 (by decide) rfl (Nat.le_of_ble_eq_true rfl) rfl ?_
  intro p e s m below meth c F
  refine J_iln F 1 dJ1_charAt_3b067_0 rfl rfl ?_
  refine J_aln F 0 dJ1_charAt_3b067_1 rfl rfl ?_
  refine J_tlen F hw dJ1_charAt_3b067_2 ?_
  refine J_callS F (As := [.int i, .int (nI (litL.getD w 0))]) (st := []) (C_sci l G hi.1 hi.2) tm_ci0 li_J0_checkIndex_df160 ini_RJ0 lc_J0_checkIndex_df160 hd_J0_checkIndex_df160 (by decide) (Nat.le_of_ble_eq_true rfl) (by decide) rfl dJ1_charAt_3b067_3 (fun v σ' h => ?_)
  obtain ⟨rfl, h⟩ := h
  subst σ'
  refine J_aln F 0 dJ1_charAt_3b067_6 rfl rfl ?_
  refine J_iln F 1 dJ1_charAt_3b067_7 rfl rfl ?_
  refine J_tb F hw hin dJ1_charAt_3b067_8 ?_
  refine J_si F (v := nI 255) dJ1_charAt_3b067_9 (by decide) ?_
  refine J_iand F dJ1_charAt_3b067_12 ?_
  refine J_i2c F dJ1_charAt_3b067_13 ?_
  have hm : (litB.getD w []).getD i.toNatClampNeg 0 ∈ litB.getD w [] := by
    have hlt : i.toNatClampNeg < (litB.getD w []).length := by
      rw [← (lit_ok w hw).1]
      exact Nat.not_le.mp fun q => hin (Or.inr q)
    exact getD_mem hlt
  have hb := (lit_ok w hw).2.2 _ hm
  rw [hb.1]
  exact J_rett F hb.2 ⟨rfl, rfl⟩ dJ1_charAt_3b067_14
theorem C_sch (l : Launch) (G : Gp) {w : Nat} {i : Int32} (hw : w < 12) (hin : vp_in i (litL.getD w 0)) {σ : St} : Cn l yJ0_charAt_5068e cJ0_charAt_5068e 2 (some .char) 3 64 G [.ref (gx G w), .int i] σ (fun v σ' => v = some (.int ((litB.getD w []).getD i.toNatClampNeg 0)) ∧ σ' = σ) := by
  refine Cn_of (L := [(0, .ref (gx G w)), (1, .int i)]) RJ0 (by decide) rfl (Nat.le_of_ble_eq_true rfl) rfl ?_
  intro p e s m below meth c F
  refine J_aln F 0 dJ0_charAt_5068e_0 rfl rfl ?_
  refine J_callT F (As := []) (st := []) (C_lat l G hw) hw rfl tm_lat li_J0_isLatin1_aae02 ls_J0_isLatin1_aae02 lc_J0_isLatin1_aae02 hd_J0_isLatin1_aae02 (by decide) (Nat.le_of_ble_eq_true rfl) (by decide) rfl dJ0_charAt_5068e_1 (fun v σ' h => ?_)
  obtain ⟨rfl, h⟩ := h
  subst σ'
  refine J_zeq F (tgt := 16) dJ0_charAt_5068e_4 (by decide) (fun h => absurd h (by decide)) (fun _ => ?_)
  refine J_aln F 0 dJ0_charAt_5068e_7 rfl rfl ?_
  refine J_gfB F hw dJ0_charAt_5068e_8 ?_
  refine J_iln F 1 dJ0_charAt_5068e_11 rfl rfl ?_
  refine J_callS F (As := [.ref (gy G w), .int i]) (st := []) (C_lch l G hw hin) tm_ch1 li_J1_charAt_3b067 ini_RJ1 lc_J1_charAt_3b067 hd_J1_charAt_3b067 (by decide) (Nat.le_of_ble_eq_true rfl) (by decide) rfl dJ0_charAt_5068e_12 (fun v σ' h => ?_)
  obtain ⟨rfl, h⟩ := h
  subst σ'
  have hm : (litB.getD w []).getD i.toNatClampNeg 0 ∈ litB.getD w [] := by
    have hlt : i.toNatClampNeg < (litB.getD w []).length := by
      rw [← (lit_ok w hw).1]
      exact Nat.not_le.mp fun q => hin (Or.inr q)
    exact getD_mem hlt
  exact J_rett F ((lit_ok w hw).2.2 _ hm).2 ⟨rfl, rfl⟩ dJ0_charAt_5068e_15
section TEXTS2
variable {p : Program} {l : Launch} {e : Env} {R : Room} {s : State} {m : MethodId} {args : Array Value} {below : List Frame} {meth : Method} {c : Code} {cc : ByteArray} {nL : Nat} {ret : Option FieldType} {own : String} {G : Gp} {Qm : State → Prop} {kc ks pc : Nat} {L L' : List (Nat × Value)} {st stk : List Value} {σ : St}
theorem J_slen (F : FX p s m args meth c cc nL ret own G) {w i : Nat} (hw : w < 12) (hlk : Cond.methodLink own i yJ0_length_8abf5 ∈ TBL) (h1 : 2 ≤ R.frames ∧ 40 ≤ R.locals) (h2 : (st.map fun v => v.category).sum ≤ 8) (hkc : kc ≤ R.cells ∧ ks ≤ R.slots) (d : decode cc pc = .ok (.invokevirtual i, 3)) (k : J p l e R s m args below meth c nL G Qm kc ks (pc + 3) L (.int (nI (litL.getD w 0)) :: st) σ) : J p l e R s m args below meth c nL G Qm kc ks pc L (.ref (gx G w) :: st) σ :=
  J_callT F (As := []) (st := st) (C_slen l G hw) hw rfl hlk li_J0_length_8abf5 ls_J0_length_8abf5 lc_J0_length_8abf5 hd_J0_length_8abf5 h1 h2 hkc rfl d (fun v σ' h => by obtain ⟨rfl, h⟩ := h; subst σ'; exact k)
theorem J_char (F : FX p s m args meth c cc nL ret own G) {w i : Nat} {x : Int32} (hw : w < 12) (hin : vp_in x (litL.getD w 0)) (hlk : Cond.methodLink own i yJ0_charAt_5068e ∈ TBL) (h1 : 4 ≤ R.frames ∧ 85 ≤ R.locals) (h2 : (st.map fun v => v.category).sum ≤ 8) (hkc : kc ≤ R.cells ∧ ks ≤ R.slots) (d : decode cc pc = .ok (.invokevirtual i, 3)) (k : J p l e R s m args below meth c nL G Qm kc ks (pc + 3) L (.int ((litB.getD w []).getD x.toNatClampNeg 0) :: st) σ) : J p l e R s m args below meth c nL G Qm kc ks pc L (.int x :: .ref (gx G w) :: st) σ :=
  J_callT F (As := [.int x]) (st := st) (C_sch l G hw hin) hw rfl hlk li_J0_charAt_5068e ls_J0_charAt_5068e lc_J0_charAt_5068e hd_J0_charAt_5068e h1 h2 hkc rfl d (fun v σ' h => by obtain ⟨rfl, h⟩ := h; subst σ'; exact k)
end TEXTS2
