theorem dX9_isNode_0 : decode cX9_isNode 0 = .ok (.iload_n 0, 1) := by decide +kernel
theorem dX9_isNode_1 : decode cX9_isNode 1 = .ok (.iconst 0, 1) := by decide +kernel
theorem dX9_isNode_2 : decode cX9_isNode 2 = .ok (.bipush 9, 2) := by decide +kernel
theorem dX9_isNode_4 : decode cX9_isNode 4 = .ok (.invokestatic 77, 3) := by decide +kernel
theorem dX9_isNode_7 : decode cX9_isNode 7 = .ok (.ireturn, 1) := by decide +kernel
set_option maxRecDepth 20000 in
set_option maxHeartbeats 4000000 in
theorem C_X9_isNode (l : Launch) (G : Gp) (x0 : Int32)  {σ : St} {Q : Int32 → Prop} (h : wp_X9_isNode σ x0 Q) : Cn l yX9_isNode cX9_isNode 1 (some .boolean) 1 22 G [.int x0] σ (qI (fun r σ' => σ' = σ ∧ Q r)) := by
  refine Cn_of (L := [(0, .int x0)]) RX9 (by decide) rfl (Nat.le_of_ble_eq_true rfl) rfl ?_
  intro p e s m below meth c F
  unfold wp_X9_isNode at h
  refine J_iln F 0 dX9_isNode_0 rfl rfl ?_
  refine J_ic F dX9_isNode_1 ki_0 ?_
  refine J_bi F dX9_isNode_2 kb_9 ?_
  refine J_callSi F (As := [.int x0, .int (nI 0), .int (nI 9)]) (st := []) (C_X9_isIn l G x0 (nI 0) (nI 9)  h) lm_X9_77 li_X9_isIn ini_X9 lc_X9_isIn hd_X9_isIn (by decide) (Nat.le_of_ble_eq_true rfl) (by decide) rfl dX9_isNode_4 (fun r_1 σ_2 hh => ?_)
  clear h
  obtain ⟨e9, h⟩ := hh
  subst σ_2
  obtain ⟨h_3, h⟩ := h
  exact J_retz F h_3 ⟨_, rfl, rfl, h⟩ dX9_isNode_7
theorem dX9_go_0 : decode cX9_go 0 = .ok (.aload_n 0, 1) := by decide +kernel
theorem dX9_go_1 : decode cX9_go 1 = .ok (.iload_n 1, 1) := by decide +kernel
theorem dX9_go_2 : decode cX9_go 2 = .ok (.invokestatic 354, 3) := by decide +kernel
theorem dX9_go_5 : decode cX9_go 5 = .ok (.ifCond .ne 7, 3) := by decide +kernel
theorem dX9_go_8 : decode cX9_go 8 = .ok (.iconst 1, 1) := by decide +kernel
theorem dX9_go_9 : decode cX9_go 9 = .ok (.goto 17, 3) := by decide +kernel
theorem dX9_go_12 : decode cX9_go 12 = .ok (.iload_n 2, 1) := by decide +kernel
theorem dX9_go_13 : decode cX9_go 13 = .ok (.iconst 0, 1) := by decide +kernel
theorem dX9_go_14 : decode cX9_go 14 = .ok (.iconst 2, 1) := by decide +kernel
theorem dX9_go_15 : decode cX9_go 15 = .ok (.invokestatic 77, 3) := by decide +kernel
theorem dX9_go_18 : decode cX9_go 18 = .ok (.ifCond .ne 7, 3) := by decide +kernel
theorem dX9_go_21 : decode cX9_go 21 = .ok (.iconst 2, 1) := by decide +kernel
theorem dX9_go_22 : decode cX9_go 22 = .ok (.goto 4, 3) := by decide +kernel
theorem dX9_go_25 : decode cX9_go 25 = .ok (.iconst 0, 1) := by decide +kernel
theorem dX9_go_26 : decode cX9_go 26 = .ok (.putfield 54, 3) := by decide +kernel
theorem dX9_go_29 : decode cX9_go 29 = .ok (.aload_n 0, 1) := by decide +kernel
theorem dX9_go_30 : decode cX9_go 30 = .ok (.getfield 54, 3) := by decide +kernel
theorem dX9_go_33 : decode cX9_go 33 = .ok (.ifCond .le 5, 3) := by decide +kernel
theorem dX9_go_36 : decode cX9_go 36 = .ok (.iconst 0, 1) := by decide +kernel
theorem dX9_go_37 : decode cX9_go 37 = .ok (.ireturn, 1) := by decide +kernel
theorem dX9_go_38 : decode cX9_go 38 = .ok (.aload_n 0, 1) := by decide +kernel
theorem dX9_go_39 : decode cX9_go 39 = .ok (.invokevirtual 330, 3) := by decide +kernel
theorem dX9_go_42 : decode cX9_go 42 = .ok (.aload_n 0, 1) := by decide +kernel
theorem dX9_go_43 : decode cX9_go 43 = .ok (.aload_n 0, 1) := by decide +kernel
theorem dX9_go_44 : decode cX9_go 44 = .ok (.iload_n 1, 1) := by decide +kernel
theorem dX9_go_45 : decode cX9_go 45 = .ok (.iload_n 2, 1) := by decide +kernel
theorem dX9_go_46 : decode cX9_go 46 = .ok (.invokevirtual 280, 3) := by decide +kernel
theorem dX9_go_49 : decode cX9_go 49 = .ok (.iconst 3, 1) := by decide +kernel
theorem dX9_go_50 : decode cX9_go 50 = .ok (.invokevirtual 342, 3) := by decide +kernel
theorem dX9_go_53 : decode cX9_go 53 = .ok (.ifCond .eq 11, 3) := by decide +kernel
theorem dX9_go_56 : decode cX9_go 56 = .ok (.aload_n 0, 1) := by decide +kernel
theorem dX9_go_57 : decode cX9_go 57 = .ok (.iconst 1, 1) := by decide +kernel
theorem dX9_go_58 : decode cX9_go 58 = .ok (.invokevirtual 92, 3) := by decide +kernel
theorem dX9_go_61 : decode cX9_go 61 = .ok (.goto 4, 3) := by decide +kernel
theorem dX9_go_64 : decode cX9_go 64 = .ok (.iconst 0, 1) := by decide +kernel
theorem dX9_go_65 : decode cX9_go 65 = .ok (.ireturn, 1) := by decide +kernel
set_option maxRecDepth 20000 in
set_option maxHeartbeats 4000000 in
theorem wk_X9_go_26 {p : Program} {l : Launch} {e : Env} {s : State} {m : MethodId} {args : Array Value} {below : List Frame} {meth : Method} {c : Code} {G : Gp} {σ : St} {x1 : Int32} {x2 : Int32} {t1 : Int32}  {Q : Int32 → St → Prop} (F : FX p s m args meth c cX9_go 3 (some .int) RX9 G)   (h : wp_X9_go_26 σ x1 x2 t1 Q) : J p l e (rmF 8 186) s m args below meth c 3 G (MQ below (QQ G (qI Q)) args s 0 0 (fr G)) 0 0 26 [(0, .ref (gb G + 244)), (1, .int x1), (2, .int x2)] [.int t1, .ref (gb G + 244)] σ := by
  unfold wp_X9_go_26 at h
  refine J_pfi F (ci := 9) 0 rfl inX9 tyX9 tyX9_ok nmX9 ly_244 (by decide) (by decide) rfl lf_X9_54 rfl rfl (tyX9_ok 0 (by decide)) rfl rfl dX9_go_26 ?_
  refine J_st (fun σ_1 eσ_1 => ?_)
  have h := h σ_1 eσ_1
  refine J_aln F 0 dX9_go_29 rfl rfl ?_
  refine J_gfi F (ci := 9) 0 rfl inX9 ly_244 (by decide) (by decide) rfl lf_X9_54 rfl dX9_go_30 ?_
  refine J_zle F (tgt := 38) dX9_go_33 (by decide) (fun c_2 => ?_) (fun c_2 => ?_)
  · have h := h.1 c_2
    refine J_aln F 0 dX9_go_38 rfl rfl ?_
    refine J_callVv F (As := []) (st := []) (C_X9_putsAside l G   h) (ci := 9) ly_244 (by decide) rfl rfl lm_X9_330 li_X9_putsAside ls_X9_putsAside ini_X9 lc_X9_putsAside hd_X9_putsAside (by decide) (Nat.le_of_ble_eq_true rfl) (by decide) rfl dX9_go_39 (fun σ_3 h => ?_)
    refine J_aln F 0 dX9_go_42 rfl rfl ?_
    refine J_aln F 0 dX9_go_43 rfl rfl ?_
    refine J_iln F 1 dX9_go_44 rfl rfl ?_
    refine J_iln F 2 dX9_go_45 rfl rfl ?_
    refine J_callVi F (As := [.int x1, .int x2]) (st := [.ref (gb G + 244)]) (C_X9_go0 l G x1 x2  h) (ci := 9) ly_244 (by decide) rfl rfl lm_X9_280 li_X9_go0 ls_X9_go0 ini_X9 lc_X9_go0 hd_X9_go0 (by decide) (Nat.le_of_ble_eq_true rfl) (by decide) rfl dX9_go_46 (fun r_4 σ_5 h => ?_)
    refine J_ic F dX9_go_49 ki_3 ?_
    refine J_callVi F (As := [.int r_4, .int (nI 3)]) (st := []) (C_X9_isDone l G r_4 (nI 3)  h) (ci := 9) ly_244 (by decide) rfl rfl lm_X9_342 li_X9_isDone ls_X9_isDone ini_X9 lc_X9_isDone hd_X9_isDone (by decide) (Nat.le_of_ble_eq_true rfl) (by decide) rfl dX9_go_50 (fun r_6 σ_7 h => ?_)
    refine J_zeq F (tgt := 64) dX9_go_53 (by decide) (fun c_8 => ?_) (fun c_8 => ?_)
    · have h := h.1 c_8
      refine J_ic F dX9_go_64 ki_0 ?_
      exact J_reti F ⟨_, rfl, h⟩ dX9_go_65
    · have h := h.2 c_8
      refine J_aln F 0 dX9_go_56 rfl rfl ?_
      refine J_ic F dX9_go_57 ki_1 ?_
      refine J_callVi F (As := [.int (nI 1)]) (st := []) (C_X9_countOf l G (nI 1)  h) (ci := 9) ly_244 (by decide) rfl rfl lm_X9_92 li_X9_countOf ls_X9_countOf ini_X9 lc_X9_countOf hd_X9_countOf (by decide) (Nat.le_of_ble_eq_true rfl) (by decide) rfl dX9_go_58 (fun r_9 σ_10 hh => ?_)
      clear h
      obtain ⟨e9, h⟩ := hh
      subst σ_10
      refine J_goto F (tgt := 65) dX9_go_61 (by decide) ?_
      exact J_reti F ⟨_, rfl, h⟩ dX9_go_65
  · have h := h.2 c_2
    refine J_ic F dX9_go_36 ki_0 ?_
    exact J_reti F ⟨_, rfl, h⟩ dX9_go_37
set_option maxRecDepth 20000 in
set_option maxHeartbeats 4000000 in
theorem C_X9_go (l : Launch) (G : Gp) (x1 : Int32) (x2 : Int32)  {σ : St} {Q : Int32 → St → Prop} (h : wp_X9_go σ x1 x2 Q) : Cn l yX9_go cX9_go 3 (some .int) 8 186 G [.ref (gb G + 244), .int x1, .int x2] σ (qI Q) := by
  refine Cn_of (L := [(0, .ref (gb G + 244)), (1, .int x1), (2, .int x2)]) RX9 (by decide) rfl (Nat.le_of_ble_eq_true rfl) rfl ?_
  intro p e s m below meth c F
  unfold wp_X9_go at h
  refine J_aln F 0 dX9_go_0 rfl rfl ?_
  refine J_iln F 1 dX9_go_1 rfl rfl ?_
  refine J_callSi F (As := [.int x1]) (st := [.ref (gb G + 244)]) (C_X9_isNode l G x1  h) lm_X9_354 li_X9_isNode ini_X9 lc_X9_isNode hd_X9_isNode (by decide) (Nat.le_of_ble_eq_true rfl) (by decide) rfl dX9_go_2 (fun r_11 σ_12 hh => ?_)
  clear h
  obtain ⟨e9, h⟩ := hh
  subst σ_12
  refine J_zne F (tgt := 12) dX9_go_5 (by decide) (fun c_13 => ?_) (fun c_13 => ?_)
  · have h := h.1 c_13
    refine J_iln F 2 dX9_go_12 rfl rfl ?_
    refine J_ic F dX9_go_13 ki_0 ?_
    refine J_ic F dX9_go_14 ki_2 ?_
    refine J_callSi F (As := [.int x2, .int (nI 0), .int (nI 2)]) (st := [.ref (gb G + 244)]) (C_X9_isIn l G x2 (nI 0) (nI 2)  h) lm_X9_77 li_X9_isIn ini_X9 lc_X9_isIn hd_X9_isIn (by decide) (Nat.le_of_ble_eq_true rfl) (by decide) rfl dX9_go_15 (fun r_14 σ_15 hh => ?_)
    clear h
    obtain ⟨e9, h⟩ := hh
    subst σ_15
    refine J_zne F (tgt := 25) dX9_go_18 (by decide) (fun c_16 => ?_) (fun c_16 => ?_)
    · have h := h.1 c_16
      refine J_ic F dX9_go_25 ki_0 ?_
      exact wk_X9_go_26 F  h
    · have h := h.2 c_16
      refine J_ic F dX9_go_21 ki_2 ?_
      refine J_goto F (tgt := 26) dX9_go_22 (by decide) ?_
      exact wk_X9_go_26 F  h
  · have h := h.2 c_13
    refine J_ic F dX9_go_8 ki_1 ?_
    refine J_goto F (tgt := 26) dX9_go_9 (by decide) ?_
    exact wk_X9_go_26 F  h
theorem dX9_tidy_0 : decode cX9_tidy 0 = .ok (.aload_n 0, 1) := by decide +kernel
theorem dX9_tidy_1 : decode cX9_tidy 1 = .ok (.invokevirtual 330, 3) := by decide +kernel
theorem dX9_tidy_4 : decode cX9_tidy 4 = .ok (.aload_n 0, 1) := by decide +kernel
theorem dX9_tidy_5 : decode cX9_tidy 5 = .ok (.invokevirtual 358, 3) := by decide +kernel
theorem dX9_tidy_8 : decode cX9_tidy 8 = .ok (.istore_n 1, 1) := by decide +kernel
theorem dX9_tidy_9 : decode cX9_tidy 9 = .ok (.aload_n 0, 1) := by decide +kernel
theorem dX9_tidy_10 : decode cX9_tidy 10 = .ok (.aload_n 0, 1) := by decide +kernel
theorem dX9_tidy_11 : decode cX9_tidy 11 = .ok (.invokevirtual 312, 3) := by decide +kernel
theorem dX9_tidy_14 : decode cX9_tidy 14 = .ok (.iconst 1, 1) := by decide +kernel
theorem dX9_tidy_15 : decode cX9_tidy 15 = .ok (.invokevirtual 342, 3) := by decide +kernel
theorem dX9_tidy_18 : decode cX9_tidy 18 = .ok (.ifCond .eq 12, 3) := by decide +kernel
theorem dX9_tidy_21 : decode cX9_tidy 21 = .ok (.iload_n 1, 1) := by decide +kernel
theorem dX9_tidy_22 : decode cX9_tidy 22 = .ok (.aload_n 0, 1) := by decide +kernel
theorem dX9_tidy_23 : decode cX9_tidy 23 = .ok (.invokevirtual 358, 3) := by decide +kernel
theorem dX9_tidy_26 : decode cX9_tidy 26 = .ok (.isub, 1) := by decide +kernel
theorem dX9_tidy_27 : decode cX9_tidy 27 = .ok (.goto 4, 3) := by decide +kernel
theorem dX9_tidy_30 : decode cX9_tidy 30 = .ok (.iconst 0, 1) := by decide +kernel
theorem dX9_tidy_31 : decode cX9_tidy 31 = .ok (.ireturn, 1) := by decide +kernel
set_option maxRecDepth 20000 in
set_option maxHeartbeats 4000000 in
theorem C_X9_tidy (l : Launch) (G : Gp)   {σ : St} {Q : Int32 → St → Prop} (h : wp_X9_tidy σ  Q) : Cn l yX9_tidy cX9_tidy 2 (some .int) 5 117 G [.ref (gb G + 244)] σ (qI Q) := by
  refine Cn_of (L := [(0, .ref (gb G + 244))]) RX9 (by decide) rfl (Nat.le_of_ble_eq_true rfl) rfl ?_
  intro p e s m below meth c F
  unfold wp_X9_tidy at h
  refine J_aln F 0 dX9_tidy_0 rfl rfl ?_
  refine J_callVv F (As := []) (st := []) (C_X9_putsAside l G   h) (ci := 9) ly_244 (by decide) rfl rfl lm_X9_330 li_X9_putsAside ls_X9_putsAside ini_X9 lc_X9_putsAside hd_X9_putsAside (by decide) (Nat.le_of_ble_eq_true rfl) (by decide) rfl dX9_tidy_1 (fun σ_1 h => ?_)
  refine J_aln F 0 dX9_tidy_4 rfl rfl ?_
  refine J_callVi F (As := []) (st := []) (C_X9_allZones l G   h) (ci := 9) ly_244 (by decide) rfl rfl lm_X9_358 li_X9_allZones ls_X9_allZones ini_X9 lc_X9_allZones hd_X9_allZones (by decide) (Nat.le_of_ble_eq_true rfl) (by decide) rfl dX9_tidy_5 (fun r_2 σ_3 h => ?_)
  refine J_isn F (L' := [(1, .int r_2), (0, .ref (gb G + 244))]) dX9_tidy_8 rfl (by decide) rfl ?_
  refine J_aln F 1 dX9_tidy_9 rfl rfl ?_
  refine J_aln F 1 dX9_tidy_10 rfl rfl ?_
  refine J_callVi F (As := []) (st := [.ref (gb G + 244)]) (C_X9_tidy0 l G   h) (ci := 9) ly_244 (by decide) rfl rfl lm_X9_312 li_X9_tidy0 ls_X9_tidy0 ini_X9 lc_X9_tidy0 hd_X9_tidy0 (by decide) (Nat.le_of_ble_eq_true rfl) (by decide) rfl dX9_tidy_11 (fun r_4 σ_5 h => ?_)
  refine J_ic F dX9_tidy_14 ki_1 ?_
  refine J_callVi F (As := [.int r_4, .int (nI 1)]) (st := []) (C_X9_isDone l G r_4 (nI 1)  h) (ci := 9) ly_244 (by decide) rfl rfl lm_X9_342 li_X9_isDone ls_X9_isDone ini_X9 lc_X9_isDone hd_X9_isDone (by decide) (Nat.le_of_ble_eq_true rfl) (by decide) rfl dX9_tidy_15 (fun r_6 σ_7 h => ?_)
  refine J_zeq F (tgt := 30) dX9_tidy_18 (by decide) (fun c_8 => ?_) (fun c_8 => ?_)
  · have h := h.1 c_8
    refine J_ic F dX9_tidy_30 ki_0 ?_
    exact J_reti F ⟨_, rfl, h⟩ dX9_tidy_31
  · have h := h.2 c_8
    refine J_iln F 0 dX9_tidy_21 rfl rfl ?_
    refine J_aln F 1 dX9_tidy_22 rfl rfl ?_
    refine J_callVi F (As := []) (st := [.int r_2]) (C_X9_allZones l G   h) (ci := 9) ly_244 (by decide) rfl rfl lm_X9_358 li_X9_allZones ls_X9_allZones ini_X9 lc_X9_allZones hd_X9_allZones (by decide) (Nat.le_of_ble_eq_true rfl) (by decide) rfl dX9_tidy_23 (fun r_9 σ_10 h => ?_)
    refine J_isub F dX9_tidy_26 ?_
    refine J_goto F (tgt := 31) dX9_tidy_27 (by decide) ?_
    exact J_reti F ⟨_, rfl, h⟩ dX9_tidy_31
theorem dX9_isKey_0 : decode cX9_isKey 0 = .ok (.iload_n 0, 1) := by decide +kernel
theorem dX9_isKey_1 : decode cX9_isKey 1 = .ok (.iconst 0, 1) := by decide +kernel
theorem dX9_isKey_2 : decode cX9_isKey 2 = .ok (.bipush 99, 2) := by decide +kernel
theorem dX9_isKey_4 : decode cX9_isKey 4 = .ok (.invokestatic 77, 3) := by decide +kernel
theorem dX9_isKey_7 : decode cX9_isKey 7 = .ok (.ireturn, 1) := by decide +kernel
set_option maxRecDepth 20000 in
set_option maxHeartbeats 4000000 in
theorem C_X9_isKey (l : Launch) (G : Gp) (x0 : Int32)  {σ : St} {Q : Int32 → Prop} (h : wp_X9_isKey σ x0 Q) : Cn l yX9_isKey cX9_isKey 1 (some .boolean) 1 22 G [.int x0] σ (qI (fun r σ' => σ' = σ ∧ Q r)) := by
  refine Cn_of (L := [(0, .int x0)]) RX9 (by decide) rfl (Nat.le_of_ble_eq_true rfl) rfl ?_
  intro p e s m below meth c F
  unfold wp_X9_isKey at h
  refine J_iln F 0 dX9_isKey_0 rfl rfl ?_
  refine J_ic F dX9_isKey_1 ki_0 ?_
  refine J_bi F dX9_isKey_2 kb_99 ?_
  refine J_callSi F (As := [.int x0, .int (nI 0), .int (nI 99)]) (st := []) (C_X9_isIn l G x0 (nI 0) (nI 99)  h) lm_X9_77 li_X9_isIn ini_X9 lc_X9_isIn hd_X9_isIn (by decide) (Nat.le_of_ble_eq_true rfl) (by decide) rfl dX9_isKey_4 (fun r_1 σ_2 hh => ?_)
  clear h
  obtain ⟨e9, h⟩ := hh
  subst σ_2
  obtain ⟨h_3, h⟩ := h
  exact J_retz F h_3 ⟨_, rfl, rfl, h⟩ dX9_isKey_7
theorem dX9_put_0 : decode cX9_put 0 = .ok (.aload_n 0, 1) := by decide +kernel
theorem dX9_put_1 : decode cX9_put 1 = .ok (.iload_n 1, 1) := by decide +kernel
theorem dX9_put_2 : decode cX9_put 2 = .ok (.invokestatic 361, 3) := by decide +kernel
theorem dX9_put_5 : decode cX9_put 5 = .ok (.ifCond .ne 7, 3) := by decide +kernel
theorem dX9_put_8 : decode cX9_put 8 = .ok (.iconst 1, 1) := by decide +kernel
theorem dX9_put_9 : decode cX9_put 9 = .ok (.goto 19, 3) := by decide +kernel
theorem dX9_put_12 : decode cX9_put 12 = .ok (.iload_n 2, 1) := by decide +kernel
theorem dX9_put_13 : decode cX9_put 13 = .ok (.iconst 0, 1) := by decide +kernel
theorem dX9_put_14 : decode cX9_put 14 = .ok (.sipush 999, 3) := by decide +kernel
theorem dX9_put_17 : decode cX9_put 17 = .ok (.invokestatic 77, 3) := by decide +kernel
theorem dX9_put_20 : decode cX9_put 20 = .ok (.ifCond .ne 7, 3) := by decide +kernel
theorem dX9_put_23 : decode cX9_put 23 = .ok (.iconst 2, 1) := by decide +kernel
theorem dX9_put_24 : decode cX9_put 24 = .ok (.goto 4, 3) := by decide +kernel
theorem dX9_put_27 : decode cX9_put 27 = .ok (.iconst 0, 1) := by decide +kernel
theorem dX9_put_28 : decode cX9_put 28 = .ok (.putfield 54, 3) := by decide +kernel
theorem dX9_put_31 : decode cX9_put 31 = .ok (.aload_n 0, 1) := by decide +kernel
theorem dX9_put_32 : decode cX9_put 32 = .ok (.getfield 54, 3) := by decide +kernel
theorem dX9_put_35 : decode cX9_put 35 = .ok (.ifCond .le 5, 3) := by decide +kernel
theorem dX9_put_38 : decode cX9_put 38 = .ok (.iconst 0, 1) := by decide +kernel
theorem dX9_put_39 : decode cX9_put 39 = .ok (.ireturn, 1) := by decide +kernel
theorem dX9_put_40 : decode cX9_put 40 = .ok (.aload_n 0, 1) := by decide +kernel
theorem dX9_put_41 : decode cX9_put 41 = .ok (.invokevirtual 330, 3) := by decide +kernel
theorem dX9_put_44 : decode cX9_put 44 = .ok (.aload_n 0, 1) := by decide +kernel
theorem dX9_put_45 : decode cX9_put 45 = .ok (.aload_n 0, 1) := by decide +kernel
theorem dX9_put_46 : decode cX9_put 46 = .ok (.iload_n 1, 1) := by decide +kernel
theorem dX9_put_47 : decode cX9_put 47 = .ok (.iload_n 2, 1) := by decide +kernel
theorem dX9_put_48 : decode cX9_put 48 = .ok (.invokevirtual 283, 3) := by decide +kernel
theorem dX9_put_51 : decode cX9_put 51 = .ok (.iconst 3, 1) := by decide +kernel
theorem dX9_put_52 : decode cX9_put 52 = .ok (.invokevirtual 342, 3) := by decide +kernel
theorem dX9_put_55 : decode cX9_put 55 = .ok (.ifCond .eq 11, 3) := by decide +kernel
theorem dX9_put_58 : decode cX9_put 58 = .ok (.aload_n 0, 1) := by decide +kernel
theorem dX9_put_59 : decode cX9_put 59 = .ok (.iload_n 1, 1) := by decide +kernel
theorem dX9_put_60 : decode cX9_put 60 = .ok (.invokevirtual 227, 3) := by decide +kernel
theorem dX9_put_63 : decode cX9_put 63 = .ok (.goto 4, 3) := by decide +kernel
theorem dX9_put_66 : decode cX9_put 66 = .ok (.iconst 0, 1) := by decide +kernel
theorem dX9_put_67 : decode cX9_put 67 = .ok (.ireturn, 1) := by decide +kernel
set_option maxRecDepth 20000 in
set_option maxHeartbeats 4000000 in
theorem wk_X9_put_28 {p : Program} {l : Launch} {e : Env} {s : State} {m : MethodId} {args : Array Value} {below : List Frame} {meth : Method} {c : Code} {G : Gp} {σ : St} {x1 : Int32} {x2 : Int32} {t1 : Int32}  {Q : Int32 → St → Prop} (F : FX p s m args meth c cX9_put 3 (some .int) RX9 G)   (h : wp_X9_put_28 σ x1 x2 t1 Q) : J p l e (rmF 8 184) s m args below meth c 3 G (MQ below (QQ G (qI Q)) args s 0 0 (fr G)) 0 0 28 [(0, .ref (gb G + 244)), (1, .int x1), (2, .int x2)] [.int t1, .ref (gb G + 244)] σ := by
  unfold wp_X9_put_28 at h
  refine J_pfi F (ci := 9) 0 rfl inX9 tyX9 tyX9_ok nmX9 ly_244 (by decide) (by decide) rfl lf_X9_54 rfl rfl (tyX9_ok 0 (by decide)) rfl rfl dX9_put_28 ?_
  refine J_st (fun σ_1 eσ_1 => ?_)
  have h := h σ_1 eσ_1
  refine J_aln F 0 dX9_put_31 rfl rfl ?_
  refine J_gfi F (ci := 9) 0 rfl inX9 ly_244 (by decide) (by decide) rfl lf_X9_54 rfl dX9_put_32 ?_
  refine J_zle F (tgt := 40) dX9_put_35 (by decide) (fun c_2 => ?_) (fun c_2 => ?_)
  · have h := h.1 c_2
    refine J_aln F 0 dX9_put_40 rfl rfl ?_
    refine J_callVv F (As := []) (st := []) (C_X9_putsAside l G   h) (ci := 9) ly_244 (by decide) rfl rfl lm_X9_330 li_X9_putsAside ls_X9_putsAside ini_X9 lc_X9_putsAside hd_X9_putsAside (by decide) (Nat.le_of_ble_eq_true rfl) (by decide) rfl dX9_put_41 (fun σ_3 h => ?_)
    refine J_aln F 0 dX9_put_44 rfl rfl ?_
    refine J_aln F 0 dX9_put_45 rfl rfl ?_
    refine J_iln F 1 dX9_put_46 rfl rfl ?_
    refine J_iln F 2 dX9_put_47 rfl rfl ?_
    refine J_callVi F (As := [.int x1, .int x2]) (st := [.ref (gb G + 244)]) (C_X9_put0 l G x1 x2  h) (ci := 9) ly_244 (by decide) rfl rfl lm_X9_283 li_X9_put0 ls_X9_put0 ini_X9 lc_X9_put0 hd_X9_put0 (by decide) (Nat.le_of_ble_eq_true rfl) (by decide) rfl dX9_put_48 (fun r_4 σ_5 h => ?_)
    refine J_ic F dX9_put_51 ki_3 ?_
    refine J_callVi F (As := [.int r_4, .int (nI 3)]) (st := []) (C_X9_isDone l G r_4 (nI 3)  h) (ci := 9) ly_244 (by decide) rfl rfl lm_X9_342 li_X9_isDone ls_X9_isDone ini_X9 lc_X9_isDone hd_X9_isDone (by decide) (Nat.le_of_ble_eq_true rfl) (by decide) rfl dX9_put_52 (fun r_6 σ_7 h => ?_)
    refine J_zeq F (tgt := 66) dX9_put_55 (by decide) (fun c_8 => ?_) (fun c_8 => ?_)
    · have h := h.1 c_8
      refine J_ic F dX9_put_66 ki_0 ?_
      exact J_reti F ⟨_, rfl, h⟩ dX9_put_67
    · have h := h.2 c_8
      refine J_aln F 0 dX9_put_58 rfl rfl ?_
      refine J_iln F 1 dX9_put_59 rfl rfl ?_
      refine J_callVi F (As := [.int x1]) (st := []) (C_X9_heldIn l G x1  h) (ci := 9) ly_244 (by decide) rfl rfl lm_X9_227 li_X9_heldIn ls_X9_heldIn ini_X9 lc_X9_heldIn hd_X9_heldIn (by decide) (Nat.le_of_ble_eq_true rfl) (by decide) rfl dX9_put_60 (fun r_9 σ_10 hh => ?_)
      clear h
      obtain ⟨e9, h⟩ := hh
      subst σ_10
      refine J_goto F (tgt := 67) dX9_put_63 (by decide) ?_
      exact J_reti F ⟨_, rfl, h⟩ dX9_put_67
  · have h := h.2 c_2
    refine J_ic F dX9_put_38 ki_0 ?_
    exact J_reti F ⟨_, rfl, h⟩ dX9_put_39
set_option maxRecDepth 20000 in
set_option maxHeartbeats 4000000 in
theorem C_X9_put (l : Launch) (G : Gp) (x1 : Int32) (x2 : Int32)  {σ : St} {Q : Int32 → St → Prop} (h : wp_X9_put σ x1 x2 Q) : Cn l yX9_put cX9_put 3 (some .int) 8 184 G [.ref (gb G + 244), .int x1, .int x2] σ (qI Q) := by
  refine Cn_of (L := [(0, .ref (gb G + 244)), (1, .int x1), (2, .int x2)]) RX9 (by decide) rfl (Nat.le_of_ble_eq_true rfl) rfl ?_
  intro p e s m below meth c F
  unfold wp_X9_put at h
  refine J_aln F 0 dX9_put_0 rfl rfl ?_
  refine J_iln F 1 dX9_put_1 rfl rfl ?_
  refine J_callSi F (As := [.int x1]) (st := [.ref (gb G + 244)]) (C_X9_isKey l G x1  h) lm_X9_361 li_X9_isKey ini_X9 lc_X9_isKey hd_X9_isKey (by decide) (Nat.le_of_ble_eq_true rfl) (by decide) rfl dX9_put_2 (fun r_11 σ_12 hh => ?_)
  clear h
  obtain ⟨e9, h⟩ := hh
  subst σ_12
  refine J_zne F (tgt := 12) dX9_put_5 (by decide) (fun c_13 => ?_) (fun c_13 => ?_)
  · have h := h.1 c_13
    refine J_iln F 2 dX9_put_12 rfl rfl ?_
    refine J_ic F dX9_put_13 ki_0 ?_
    refine J_si F dX9_put_14 ks_999 ?_
    refine J_callSi F (As := [.int x2, .int (nI 0), .int (nI 999)]) (st := [.ref (gb G + 244)]) (C_X9_isIn l G x2 (nI 0) (nI 999)  h) lm_X9_77 li_X9_isIn ini_X9 lc_X9_isIn hd_X9_isIn (by decide) (Nat.le_of_ble_eq_true rfl) (by decide) rfl dX9_put_17 (fun r_14 σ_15 hh => ?_)
    clear h
    obtain ⟨e9, h⟩ := hh
    subst σ_15
    refine J_zne F (tgt := 27) dX9_put_20 (by decide) (fun c_16 => ?_) (fun c_16 => ?_)
    · have h := h.1 c_16
      refine J_ic F dX9_put_27 ki_0 ?_
      exact wk_X9_put_28 F  h
    · have h := h.2 c_16
      refine J_ic F dX9_put_23 ki_2 ?_
      refine J_goto F (tgt := 28) dX9_put_24 (by decide) ?_
      exact wk_X9_put_28 F  h
  · have h := h.2 c_13
    refine J_ic F dX9_put_8 ki_1 ?_
    refine J_goto F (tgt := 28) dX9_put_9 (by decide) ?_
    exact wk_X9_put_28 F  h
theorem dX9_cut_0 : decode cX9_cut 0 = .ok (.aload_n 0, 1) := by decide +kernel
theorem dX9_cut_1 : decode cX9_cut 1 = .ok (.iload_n 1, 1) := by decide +kernel
theorem dX9_cut_2 : decode cX9_cut 2 = .ok (.invokestatic 361, 3) := by decide +kernel
theorem dX9_cut_5 : decode cX9_cut 5 = .ok (.ifCond .eq 7, 3) := by decide +kernel
theorem dX9_cut_8 : decode cX9_cut 8 = .ok (.iconst 0, 1) := by decide +kernel
theorem dX9_cut_9 : decode cX9_cut 9 = .ok (.goto 4, 3) := by decide +kernel
theorem dX9_cut_12 : decode cX9_cut 12 = .ok (.iconst 1, 1) := by decide +kernel
theorem dX9_cut_13 : decode cX9_cut 13 = .ok (.putfield 54, 3) := by decide +kernel
theorem dX9_cut_16 : decode cX9_cut 16 = .ok (.aload_n 0, 1) := by decide +kernel
theorem dX9_cut_17 : decode cX9_cut 17 = .ok (.getfield 54, 3) := by decide +kernel
theorem dX9_cut_20 : decode cX9_cut 20 = .ok (.ifCond .le 5, 3) := by decide +kernel
theorem dX9_cut_23 : decode cX9_cut 23 = .ok (.iconst 0, 1) := by decide +kernel
theorem dX9_cut_24 : decode cX9_cut 24 = .ok (.ireturn, 1) := by decide +kernel
theorem dX9_cut_25 : decode cX9_cut 25 = .ok (.aload_n 0, 1) := by decide +kernel
theorem dX9_cut_26 : decode cX9_cut 26 = .ok (.invokevirtual 330, 3) := by decide +kernel
theorem dX9_cut_29 : decode cX9_cut 29 = .ok (.aload_n 0, 1) := by decide +kernel
theorem dX9_cut_30 : decode cX9_cut 30 = .ok (.getfield 7, 3) := by decide +kernel
theorem dX9_cut_33 : decode cX9_cut 33 = .ok (.sipush 138, 3) := by decide +kernel
theorem dX9_cut_36 : decode cX9_cut 36 = .ok (.iload_n 1, 1) := by decide +kernel
theorem dX9_cut_37 : decode cX9_cut 37 = .ok (.iadd, 1) := by decide +kernel
theorem dX9_cut_38 : decode cX9_cut 38 = .ok (.iaload, 1) := by decide +kernel
theorem dX9_cut_39 : decode cX9_cut 39 = .ok (.istore_n 2, 1) := by decide +kernel
theorem dX9_cut_40 : decode cX9_cut 40 = .ok (.aload_n 0, 1) := by decide +kernel
theorem dX9_cut_41 : decode cX9_cut 41 = .ok (.aload_n 0, 1) := by decide +kernel
theorem dX9_cut_42 : decode cX9_cut 42 = .ok (.iload_n 1, 1) := by decide +kernel
theorem dX9_cut_43 : decode cX9_cut 43 = .ok (.invokevirtual 322, 3) := by decide +kernel
theorem dX9_cut_46 : decode cX9_cut 46 = .ok (.iconst 2, 1) := by decide +kernel
theorem dX9_cut_47 : decode cX9_cut 47 = .ok (.invokevirtual 342, 3) := by decide +kernel
theorem dX9_cut_50 : decode cX9_cut 50 = .ok (.ifCond .eq 7, 3) := by decide +kernel
theorem dX9_cut_53 : decode cX9_cut 53 = .ok (.iload_n 2, 1) := by decide +kernel
theorem dX9_cut_54 : decode cX9_cut 54 = .ok (.goto 4, 3) := by decide +kernel
theorem dX9_cut_57 : decode cX9_cut 57 = .ok (.iconst 0, 1) := by decide +kernel
theorem dX9_cut_58 : decode cX9_cut 58 = .ok (.ireturn, 1) := by decide +kernel
set_option maxRecDepth 20000 in
set_option maxHeartbeats 4000000 in
theorem wk_X9_cut_13 {p : Program} {l : Launch} {e : Env} {s : State} {m : MethodId} {args : Array Value} {below : List Frame} {meth : Method} {c : Code} {G : Gp} {σ : St} {x1 : Int32} {t1 : Int32}  {Q : Int32 → St → Prop} (F : FX p s m args meth c cX9_cut 3 (some .int) RX9 G)   (h : wp_X9_cut_13 σ x1 t1 Q) : J p l e (rmF 2 43) s m args below meth c 3 G (MQ below (QQ G (qI Q)) args s 0 0 (fr G)) 0 0 13 [(0, .ref (gb G + 244)), (1, .int x1)] [.int t1, .ref (gb G + 244)] σ := by
  unfold wp_X9_cut_13 at h
  refine J_pfi F (ci := 9) 0 rfl inX9 tyX9 tyX9_ok nmX9 ly_244 (by decide) (by decide) rfl lf_X9_54 rfl rfl (tyX9_ok 0 (by decide)) rfl rfl dX9_cut_13 ?_
  refine J_st (fun σ_1 eσ_1 => ?_)
  have h := h σ_1 eσ_1
  refine J_aln F 0 dX9_cut_16 rfl rfl ?_
  refine J_gfi F (ci := 9) 0 rfl inX9 ly_244 (by decide) (by decide) rfl lf_X9_54 rfl dX9_cut_17 ?_
  refine J_zle F (tgt := 25) dX9_cut_20 (by decide) (fun c_2 => ?_) (fun c_2 => ?_)
  · have h := h.1 c_2
    refine J_aln F 0 dX9_cut_25 rfl rfl ?_
    refine J_callVv F (As := []) (st := []) (C_X9_putsAside l G   h) (ci := 9) ly_244 (by decide) rfl rfl lm_X9_330 li_X9_putsAside ls_X9_putsAside ini_X9 lc_X9_putsAside hd_X9_putsAside (by decide) (Nat.le_of_ble_eq_true rfl) (by decide) rfl dX9_cut_26 (fun σ_3 h => ?_)
    refine J_aln F 0 dX9_cut_29 rfl rfl ?_
    refine J_gfa F (ci := 9) 1 rfl inX9 ly_244 (by decide) (by decide) rfl lf_X9_7 rfl dX9_cut_30 ?_
    refine J_si F dX9_cut_33 ks_138 ?_
    refine J_iln F 1 dX9_cut_36 rfl rfl ?_
    refine J_iadd F dX9_cut_37 ?_
    obtain ⟨h_4, h⟩ := h
    refine J_iald F ly_245 h_4 dX9_cut_38 ?_
    refine J_top (fun x2_5 ex2_5 => ?_)
    have h := h x2_5 ex2_5
    refine J_isn F (L' := [(2, .int x2_5), (0, .ref (gb G + 244)), (1, .int x1)]) dX9_cut_39 rfl (by decide) rfl ?_
    refine J_aln F 1 dX9_cut_40 rfl rfl ?_
    refine J_aln F 1 dX9_cut_41 rfl rfl ?_
    refine J_iln F 2 dX9_cut_42 rfl rfl ?_
    refine J_callVi F (As := [.int x1]) (st := [.ref (gb G + 244)]) (C_X9_cut0 l G x1  h) (ci := 9) ly_244 (by decide) rfl rfl lm_X9_322 li_X9_cut0 ls_X9_cut0 ini_X9 lc_X9_cut0 hd_X9_cut0 (by decide) (Nat.le_of_ble_eq_true rfl) (by decide) rfl dX9_cut_43 (fun r_6 σ_7 h => ?_)
    refine J_ic F dX9_cut_46 ki_2 ?_
    refine J_callVi F (As := [.int r_6, .int (nI 2)]) (st := []) (C_X9_isDone l G r_6 (nI 2)  h) (ci := 9) ly_244 (by decide) rfl rfl lm_X9_342 li_X9_isDone ls_X9_isDone ini_X9 lc_X9_isDone hd_X9_isDone (by decide) (Nat.le_of_ble_eq_true rfl) (by decide) rfl dX9_cut_47 (fun r_8 σ_9 h => ?_)
    refine J_zeq F (tgt := 57) dX9_cut_50 (by decide) (fun c_10 => ?_) (fun c_10 => ?_)
    · have h := h.1 c_10
      refine J_ic F dX9_cut_57 ki_0 ?_
      exact J_reti F ⟨_, rfl, h⟩ dX9_cut_58
    · have h := h.2 c_10
      refine J_iln F 0 dX9_cut_53 rfl rfl ?_
      refine J_goto F (tgt := 58) dX9_cut_54 (by decide) ?_
      exact J_reti F ⟨_, rfl, h⟩ dX9_cut_58
  · have h := h.2 c_2
    refine J_ic F dX9_cut_23 ki_0 ?_
    exact J_reti F ⟨_, rfl, h⟩ dX9_cut_24
set_option maxRecDepth 20000 in
set_option maxHeartbeats 4000000 in
theorem C_X9_cut (l : Launch) (G : Gp) (x1 : Int32)  {σ : St} {Q : Int32 → St → Prop} (h : wp_X9_cut σ x1 Q) : Cn l yX9_cut cX9_cut 3 (some .int) 2 43 G [.ref (gb G + 244), .int x1] σ (qI Q) := by
  refine Cn_of (L := [(0, .ref (gb G + 244)), (1, .int x1)]) RX9 (by decide) rfl (Nat.le_of_ble_eq_true rfl) rfl ?_
  intro p e s m below meth c F
  unfold wp_X9_cut at h
  refine J_aln F 0 dX9_cut_0 rfl rfl ?_
  refine J_iln F 1 dX9_cut_1 rfl rfl ?_
  refine J_callSi F (As := [.int x1]) (st := [.ref (gb G + 244)]) (C_X9_isKey l G x1  h) lm_X9_361 li_X9_isKey ini_X9 lc_X9_isKey hd_X9_isKey (by decide) (Nat.le_of_ble_eq_true rfl) (by decide) rfl dX9_cut_2 (fun r_11 σ_12 hh => ?_)
  clear h
  obtain ⟨e9, h⟩ := hh
  subst σ_12
  refine J_zeq F (tgt := 12) dX9_cut_5 (by decide) (fun c_13 => ?_) (fun c_13 => ?_)
  · have h := h.1 c_13
    refine J_ic F dX9_cut_12 ki_1 ?_
    exact wk_X9_cut_13 F  h
  · have h := h.2 c_13
    refine J_ic F dX9_cut_8 ki_0 ?_
    refine J_goto F (tgt := 13) dX9_cut_9 (by decide) ?_
    exact wk_X9_cut_13 F  h
theorem dX9_mend_0 : decode cX9_mend 0 = .ok (.aload_n 0, 1) := by decide +kernel
theorem dX9_mend_1 : decode cX9_mend 1 = .ok (.invokevirtual 330, 3) := by decide +kernel
theorem dX9_mend_4 : decode cX9_mend 4 = .ok (.aload_n 0, 1) := by decide +kernel
theorem dX9_mend_5 : decode cX9_mend 5 = .ok (.invokevirtual 327, 3) := by decide +kernel
theorem dX9_mend_8 : decode cX9_mend 8 = .ok (.istore_n 1, 1) := by decide +kernel
theorem dX9_mend_9 : decode cX9_mend 9 = .ok (.aload_n 0, 1) := by decide +kernel
theorem dX9_mend_10 : decode cX9_mend 10 = .ok (.iconst 0, 1) := by decide +kernel
theorem dX9_mend_11 : decode cX9_mend 11 = .ok (.iconst 0, 1) := by decide +kernel
theorem dX9_mend_12 : decode cX9_mend 12 = .ok (.invokevirtual 342, 3) := by decide +kernel
theorem dX9_mend_15 : decode cX9_mend 15 = .ok (.ifCond .eq 7, 3) := by decide +kernel
theorem dX9_mend_18 : decode cX9_mend 18 = .ok (.iload_n 1, 1) := by decide +kernel
theorem dX9_mend_19 : decode cX9_mend 19 = .ok (.goto 4, 3) := by decide +kernel
theorem dX9_mend_22 : decode cX9_mend 22 = .ok (.iconst 0, 1) := by decide +kernel
theorem dX9_mend_23 : decode cX9_mend 23 = .ok (.ireturn, 1) := by decide +kernel
set_option maxRecDepth 20000 in
set_option maxHeartbeats 4000000 in
theorem C_X9_mend (l : Launch) (G : Gp)   {σ : St} {Q : Int32 → St → Prop} (h : wp_X9_mend σ  Q) : Cn l yX9_mend cX9_mend 2 (some .int) 8 183 G [.ref (gb G + 244)] σ (qI Q) := by
  refine Cn_of (L := [(0, .ref (gb G + 244))]) RX9 (by decide) rfl (Nat.le_of_ble_eq_true rfl) rfl ?_
  intro p e s m below meth c F
  unfold wp_X9_mend at h
  refine J_aln F 0 dX9_mend_0 rfl rfl ?_
  refine J_callVv F (As := []) (st := []) (C_X9_putsAside l G   h) (ci := 9) ly_244 (by decide) rfl rfl lm_X9_330 li_X9_putsAside ls_X9_putsAside ini_X9 lc_X9_putsAside hd_X9_putsAside (by decide) (Nat.le_of_ble_eq_true rfl) (by decide) rfl dX9_mend_1 (fun σ_1 h => ?_)
  refine J_aln F 0 dX9_mend_4 rfl rfl ?_
  refine J_callVi F (As := []) (st := []) (C_X9_mend0 l G   h) (ci := 9) ly_244 (by decide) rfl rfl lm_X9_327 li_X9_mend0 ls_X9_mend0 ini_X9 lc_X9_mend0 hd_X9_mend0 (by decide) (Nat.le_of_ble_eq_true rfl) (by decide) rfl dX9_mend_5 (fun r_2 σ_3 h => ?_)
  refine J_isn F (L' := [(1, .int r_2), (0, .ref (gb G + 244))]) dX9_mend_8 rfl (by decide) rfl ?_
  refine J_aln F 1 dX9_mend_9 rfl rfl ?_
  refine J_ic F dX9_mend_10 ki_0 ?_
  refine J_ic F dX9_mend_11 ki_0 ?_
  refine J_callVi F (As := [.int (nI 0), .int (nI 0)]) (st := []) (C_X9_isDone l G (nI 0) (nI 0)  h) (ci := 9) ly_244 (by decide) rfl rfl lm_X9_342 li_X9_isDone ls_X9_isDone ini_X9 lc_X9_isDone hd_X9_isDone (by decide) (Nat.le_of_ble_eq_true rfl) (by decide) rfl dX9_mend_12 (fun r_4 σ_5 h => ?_)
  refine J_zeq F (tgt := 22) dX9_mend_15 (by decide) (fun c_6 => ?_) (fun c_6 => ?_)
  · have h := h.1 c_6
    refine J_ic F dX9_mend_22 ki_0 ?_
    exact J_reti F ⟨_, rfl, h⟩ dX9_mend_23
  · have h := h.2 c_6
    refine J_iln F 0 dX9_mend_18 rfl rfl ?_
    refine J_goto F (tgt := 23) dX9_mend_19 (by decide) ?_
    exact J_reti F ⟨_, rfl, h⟩ dX9_mend_23
theorem dX9_undo_0 : decode cX9_undo 0 = .ok (.aload_n 0, 1) := by decide +kernel
theorem dX9_undo_1 : decode cX9_undo 1 = .ok (.aload_n 0, 1) := by decide +kernel
theorem dX9_undo_2 : decode cX9_undo 2 = .ok (.getfield 230, 3) := by decide +kernel
theorem dX9_undo_5 : decode cX9_undo 5 = .ok (.ifCond .ne 7, 3) := by decide +kernel
theorem dX9_undo_8 : decode cX9_undo 8 = .ok (.iconst 1, 1) := by decide +kernel
theorem dX9_undo_9 : decode cX9_undo 9 = .ok (.goto 4, 3) := by decide +kernel
theorem dX9_undo_12 : decode cX9_undo 12 = .ok (.iconst 0, 1) := by decide +kernel
theorem dX9_undo_13 : decode cX9_undo 13 = .ok (.putfield 54, 3) := by decide +kernel
theorem dX9_undo_16 : decode cX9_undo 16 = .ok (.aload_n 0, 1) := by decide +kernel
theorem dX9_undo_17 : decode cX9_undo 17 = .ok (.getfield 54, 3) := by decide +kernel
theorem dX9_undo_20 : decode cX9_undo 20 = .ok (.ifCond .le 5, 3) := by decide +kernel
theorem dX9_undo_23 : decode cX9_undo 23 = .ok (.iconst 0, 1) := by decide +kernel
theorem dX9_undo_24 : decode cX9_undo 24 = .ok (.ireturn, 1) := by decide +kernel
theorem dX9_undo_25 : decode cX9_undo 25 = .ok (.aload_n 0, 1) := by decide +kernel
theorem dX9_undo_26 : decode cX9_undo 26 = .ok (.dup, 1) := by decide +kernel
theorem dX9_undo_27 : decode cX9_undo 27 = .ok (.getfield 230, 3) := by decide +kernel
theorem dX9_undo_30 : decode cX9_undo 30 = .ok (.iconst 1, 1) := by decide +kernel
theorem dX9_undo_31 : decode cX9_undo 31 = .ok (.isub, 1) := by decide +kernel
theorem dX9_undo_32 : decode cX9_undo 32 = .ok (.putfield 230, 3) := by decide +kernel
theorem dX9_undo_35 : decode cX9_undo 35 = .ok (.iconst 0, 1) := by decide +kernel
theorem dX9_undo_36 : decode cX9_undo 36 = .ok (.istore_n 1, 1) := by decide +kernel
theorem dX9_undo_37 : decode cX9_undo 37 = .ok (.iload_n 1, 1) := by decide +kernel
theorem dX9_undo_38 : decode cX9_undo 38 = .ok (.sipush 6682, 3) := by decide +kernel
theorem dX9_undo_41 : decode cX9_undo 41 = .ok (.if_icmp .ge 30, 3) := by decide +kernel
theorem dX9_undo_44 : decode cX9_undo 44 = .ok (.aload_n 0, 1) := by decide +kernel
theorem dX9_undo_45 : decode cX9_undo 45 = .ok (.getfield 7, 3) := by decide +kernel
theorem dX9_undo_48 : decode cX9_undo 48 = .ok (.iload_n 1, 1) := by decide +kernel
theorem dX9_undo_49 : decode cX9_undo 49 = .ok (.aload_n 0, 1) := by decide +kernel
theorem dX9_undo_50 : decode cX9_undo 50 = .ok (.getfield 20, 3) := by decide +kernel
theorem dX9_undo_53 : decode cX9_undo 53 = .ok (.sipush 6682, 3) := by decide +kernel
theorem dX9_undo_56 : decode cX9_undo 56 = .ok (.aload_n 0, 1) := by decide +kernel
theorem dX9_undo_57 : decode cX9_undo 57 = .ok (.getfield 230, 3) := by decide +kernel
theorem dX9_undo_60 : decode cX9_undo 60 = .ok (.imul, 1) := by decide +kernel
theorem dX9_undo_61 : decode cX9_undo 61 = .ok (.iload_n 1, 1) := by decide +kernel
theorem dX9_undo_62 : decode cX9_undo 62 = .ok (.iadd, 1) := by decide +kernel
theorem dX9_undo_63 : decode cX9_undo 63 = .ok (.iaload, 1) := by decide +kernel
theorem dX9_undo_64 : decode cX9_undo 64 = .ok (.iastore, 1) := by decide +kernel
theorem dX9_undo_65 : decode cX9_undo 65 = .ok (.iinc 1 1, 3) := by decide +kernel
theorem dX9_undo_68 : decode cX9_undo 68 = .ok (.goto (-31), 3) := by decide +kernel
theorem dX9_undo_71 : decode cX9_undo 71 = .ok (.aload_n 0, 1) := by decide +kernel
theorem dX9_undo_72 : decode cX9_undo 72 = .ok (.getfield 230, 3) := by decide +kernel
theorem dX9_undo_75 : decode cX9_undo 75 = .ok (.ireturn, 1) := by decide +kernel
set_option maxRecDepth 20000 in
set_option maxHeartbeats 4000000 in
theorem wk_X9_undo_37 {p : Program} {l : Launch} {e : Env} {s : State} {m : MethodId} {args : Array Value} {below : List Frame} {meth : Method} {c : Code} {G : Gp}   {Q : Int32 → St → Prop} (F : FX p s m args meth c cX9_undo 2 (some .int) RX9 G)   : ∀ (n9 : Nat) (σ : St) (x1 : Int32), LP2 (wp_X9_undo_37 Q) n9 σ x1 → J p l e (rmF 0 0) s m args below meth c 2 G (MQ below (QQ G (qI Q)) args s 0 0 (fr G)) 0 0 37 [(0, .ref (gb G + 244)), (1, .int x1)] [] σ := by
  intro n9
  induction n9 with
  | zero => intro σ x1 h; exact h.elim
  | succ n9 i37 =>
    intro σ x1 h
    have h : wp_X9_undo_37 Q (LP2 (wp_X9_undo_37 Q) n9) σ x1 := h
    unfold wp_X9_undo_37 at h
    refine J_iln F 1 dX9_undo_37 rfl rfl ?_
    refine J_si F dX9_undo_38 ks_6682 ?_
    refine J_cge F (tgt := 71) dX9_undo_41 (by decide) (fun c_1 => ?_) (fun c_1 => ?_)
    · have h := h.1 c_1
      refine J_aln F 0 dX9_undo_71 rfl rfl ?_
      refine J_gfi F (ci := 9) 5 rfl inX9 ly_244 (by decide) (by decide) rfl lf_X9_230 rfl dX9_undo_72 ?_
      exact J_reti F ⟨_, rfl, h⟩ dX9_undo_75
    · have h := h.2 c_1
      refine J_aln F 0 dX9_undo_44 rfl rfl ?_
      refine J_gfa F (ci := 9) 1 rfl inX9 ly_244 (by decide) (by decide) rfl lf_X9_7 rfl dX9_undo_45 ?_
      refine J_iln F 1 dX9_undo_48 rfl rfl ?_
      refine J_aln F 0 dX9_undo_49 rfl rfl ?_
      refine J_gfa F (ci := 9) 4 rfl inX9 ly_244 (by decide) (by decide) rfl lf_X9_20 rfl dX9_undo_50 ?_
      refine J_si F dX9_undo_53 ks_6682 ?_
      refine J_aln F 0 dX9_undo_56 rfl rfl ?_
      refine J_gfi F (ci := 9) 5 rfl inX9 ly_244 (by decide) (by decide) rfl lf_X9_230 rfl dX9_undo_57 ?_
      refine J_imul F dX9_undo_60 ?_
      refine J_iln F 1 dX9_undo_61 rfl rfl ?_
      refine J_iadd F dX9_undo_62 ?_
      obtain ⟨h_2, h⟩ := h
      refine J_iald F ly_248 h_2 dX9_undo_63 ?_
      obtain ⟨h_3, h⟩ := h
      refine J_iast F ly_245 h_3 dX9_undo_64 ?_
      refine J_st (fun σ_4 eσ_4 => ?_)
      have h := h σ_4 eσ_4
      obtain ⟨x1_5, ex1_5⟩ : ∃ z : Int32, z = x1 + (nI 1) := ⟨_, rfl⟩
      have h := h x1_5 ex1_5
      refine J_iinc F (v := x1_5) (L' := [(1, .int x1_5), (0, .ref (gb G + 244))]) 1 dX9_undo_65 rfl (by rw [ki_1, ex1_5]) (by decide) rfl ?_
      refine J_goto F (tgt := 37) dX9_undo_68 (by decide) ?_
      refine J_sub [1, 0] rfl ?_
      exact i37 _ _ h
set_option maxRecDepth 20000 in
set_option maxHeartbeats 4000000 in
theorem wk_X9_undo_13 {p : Program} {l : Launch} {e : Env} {s : State} {m : MethodId} {args : Array Value} {below : List Frame} {meth : Method} {c : Code} {G : Gp} {σ : St} {t1 : Int32}  {Q : Int32 → St → Prop} (F : FX p s m args meth c cX9_undo 2 (some .int) RX9 G)   (h : wp_X9_undo_13 σ t1 Q) : J p l e (rmF 0 0) s m args below meth c 2 G (MQ below (QQ G (qI Q)) args s 0 0 (fr G)) 0 0 13 [(0, .ref (gb G + 244))] [.int t1, .ref (gb G + 244)] σ := by
  unfold wp_X9_undo_13 at h
  refine J_pfi F (ci := 9) 0 rfl inX9 tyX9 tyX9_ok nmX9 ly_244 (by decide) (by decide) rfl lf_X9_54 rfl rfl (tyX9_ok 0 (by decide)) rfl rfl dX9_undo_13 ?_
  refine J_st (fun σ_6 eσ_6 => ?_)
  have h := h σ_6 eσ_6
  refine J_aln F 0 dX9_undo_16 rfl rfl ?_
  refine J_gfi F (ci := 9) 0 rfl inX9 ly_244 (by decide) (by decide) rfl lf_X9_54 rfl dX9_undo_17 ?_
  refine J_zle F (tgt := 25) dX9_undo_20 (by decide) (fun c_7 => ?_) (fun c_7 => ?_)
  · have h := h.1 c_7
    refine J_aln F 0 dX9_undo_25 rfl rfl ?_
    refine J_dup F dX9_undo_26 rfl ?_
    refine J_gfi F (ci := 9) 5 rfl inX9 ly_244 (by decide) (by decide) rfl lf_X9_230 rfl dX9_undo_27 ?_
    refine J_ic F dX9_undo_30 ki_1 ?_
    refine J_isub F dX9_undo_31 ?_
    refine J_pfi F (ci := 9) 5 rfl inX9 tyX9 tyX9_ok nmX9 ly_244 (by decide) (by decide) rfl lf_X9_230 rfl rfl (tyX9_ok 5 (by decide)) rfl rfl dX9_undo_32 ?_
    refine J_st (fun σ_8 eσ_8 => ?_)
    have h := h σ_8 eσ_8
    refine J_ic F dX9_undo_35 ki_0 ?_
    refine J_isn F (L' := [(1, .int (nI 0)), (0, .ref (gb G + 244))]) dX9_undo_36 rfl (by decide) rfl ?_
    refine J_sub [1, 0] rfl ?_
    obtain ⟨n9, h⟩ := h
    exact wk_X9_undo_37 F  n9 _ _ h
  · have h := h.2 c_7
    refine J_ic F dX9_undo_23 ki_0 ?_
    exact J_reti F ⟨_, rfl, h⟩ dX9_undo_24
set_option maxRecDepth 20000 in
set_option maxHeartbeats 4000000 in
theorem C_X9_undo (l : Launch) (G : Gp)   {σ : St} {Q : Int32 → St → Prop} (h : wp_X9_undo σ  Q) : Cn l yX9_undo cX9_undo 2 (some .int) 0 0 G [.ref (gb G + 244)] σ (qI Q) := by
  refine Cn_of (L := [(0, .ref (gb G + 244))]) RX9 (by decide) rfl (Nat.le_of_ble_eq_true rfl) rfl ?_
  intro p e s m below meth c F
  unfold wp_X9_undo at h
  refine J_aln F 0 dX9_undo_0 rfl rfl ?_
  refine J_aln F 0 dX9_undo_1 rfl rfl ?_
  refine J_gfi F (ci := 9) 5 rfl inX9 ly_244 (by decide) (by decide) rfl lf_X9_230 rfl dX9_undo_2 ?_
  refine J_zne F (tgt := 12) dX9_undo_5 (by decide) (fun c_9 => ?_) (fun c_9 => ?_)
  · have h := h.1 c_9
    refine J_ic F dX9_undo_12 ki_0 ?_
    exact wk_X9_undo_13 F  h
  · have h := h.2 c_9
    refine J_ic F dX9_undo_8 ki_1 ?_
    refine J_goto F (tgt := 13) dX9_undo_9 (by decide) ?_
    exact wk_X9_undo_13 F  h
theorem dX9_node_0 : decode cX9_node 0 = .ok (.aload_n 0, 1) := by decide +kernel
theorem dX9_node_1 : decode cX9_node 1 = .ok (.iload_n 1, 1) := by decide +kernel
theorem dX9_node_2 : decode cX9_node 2 = .ok (.invokestatic 354, 3) := by decide +kernel
theorem dX9_node_5 : decode cX9_node 5 = .ok (.ifCond .ne 7, 3) := by decide +kernel
theorem dX9_node_8 : decode cX9_node 8 = .ok (.iconst 1, 1) := by decide +kernel
theorem dX9_node_9 : decode cX9_node 9 = .ok (.goto 17, 3) := by decide +kernel
theorem dX9_node_12 : decode cX9_node 12 = .ok (.iload_n 2, 1) := by decide +kernel
theorem dX9_node_13 : decode cX9_node 13 = .ok (.iconst 0, 1) := by decide +kernel
theorem dX9_node_14 : decode cX9_node 14 = .ok (.iconst 2, 1) := by decide +kernel
theorem dX9_node_15 : decode cX9_node 15 = .ok (.invokestatic 77, 3) := by decide +kernel
theorem dX9_node_18 : decode cX9_node 18 = .ok (.ifCond .ne 7, 3) := by decide +kernel
theorem dX9_node_21 : decode cX9_node 21 = .ok (.iconst 2, 1) := by decide +kernel
theorem dX9_node_22 : decode cX9_node 22 = .ok (.goto 4, 3) := by decide +kernel
theorem dX9_node_25 : decode cX9_node 25 = .ok (.iconst 0, 1) := by decide +kernel
theorem dX9_node_26 : decode cX9_node 26 = .ok (.putfield 54, 3) := by decide +kernel
theorem dX9_node_29 : decode cX9_node 29 = .ok (.aload_n 0, 1) := by decide +kernel
theorem dX9_node_30 : decode cX9_node 30 = .ok (.getfield 54, 3) := by decide +kernel
theorem dX9_node_33 : decode cX9_node 33 = .ok (.ifCond .le 5, 3) := by decide +kernel
theorem dX9_node_36 : decode cX9_node 36 = .ok (.iconst 0, 1) := by decide +kernel
theorem dX9_node_37 : decode cX9_node 37 = .ok (.ireturn, 1) := by decide +kernel
theorem dX9_node_38 : decode cX9_node 38 = .ok (.iload_n 2, 1) := by decide +kernel
theorem dX9_node_39 : decode cX9_node 39 = .ok (.ifCond .ne 12, 3) := by decide +kernel
theorem dX9_node_42 : decode cX9_node 42 = .ok (.aload_n 0, 1) := by decide +kernel
theorem dX9_node_43 : decode cX9_node 43 = .ok (.getfield 7, 3) := by decide +kernel
theorem dX9_node_46 : decode cX9_node 46 = .ok (.iconst 0, 1) := by decide +kernel
theorem dX9_node_47 : decode cX9_node 47 = .ok (.iload_n 1, 1) := by decide +kernel
theorem dX9_node_48 : decode cX9_node 48 = .ok (.iadd, 1) := by decide +kernel
theorem dX9_node_49 : decode cX9_node 49 = .ok (.iaload, 1) := by decide +kernel
theorem dX9_node_50 : decode cX9_node 50 = .ok (.ireturn, 1) := by decide +kernel
theorem dX9_node_51 : decode cX9_node 51 = .ok (.aload_n 0, 1) := by decide +kernel
theorem dX9_node_52 : decode cX9_node 52 = .ok (.iload_n 1, 1) := by decide +kernel
theorem dX9_node_53 : decode cX9_node 53 = .ok (.iconst 0, 1) := by decide +kernel
theorem dX9_node_54 : decode cX9_node 54 = .ok (.invokevirtual 57, 3) := by decide +kernel
theorem dX9_node_57 : decode cX9_node 57 = .ok (.ifCond .eq 5, 3) := by decide +kernel
theorem dX9_node_60 : decode cX9_node 60 = .ok (.iconst (-1), 1) := by decide +kernel
theorem dX9_node_61 : decode cX9_node 61 = .ok (.ireturn, 1) := by decide +kernel
theorem dX9_node_62 : decode cX9_node 62 = .ok (.iload_n 2, 1) := by decide +kernel
theorem dX9_node_63 : decode cX9_node 63 = .ok (.iconst 1, 1) := by decide +kernel
theorem dX9_node_64 : decode cX9_node 64 = .ok (.if_icmp .ne 15, 3) := by decide +kernel
theorem dX9_node_67 : decode cX9_node 67 = .ok (.aload_n 0, 1) := by decide +kernel
theorem dX9_node_68 : decode cX9_node 68 = .ok (.getfield 7, 3) := by decide +kernel
theorem dX9_node_71 : decode cX9_node 71 = .ok (.bipush 10, 2) := by decide +kernel
theorem dX9_node_73 : decode cX9_node 73 = .ok (.iload_n 1, 1) := by decide +kernel
theorem dX9_node_74 : decode cX9_node 74 = .ok (.iadd, 1) := by decide +kernel
theorem dX9_node_75 : decode cX9_node 75 = .ok (.iaload, 1) := by decide +kernel
theorem dX9_node_76 : decode cX9_node 76 = .ok (.goto 12, 3) := by decide +kernel
theorem dX9_node_79 : decode cX9_node 79 = .ok (.aload_n 0, 1) := by decide +kernel
theorem dX9_node_80 : decode cX9_node 80 = .ok (.getfield 7, 3) := by decide +kernel
theorem dX9_node_83 : decode cX9_node 83 = .ok (.bipush 20, 2) := by decide +kernel
theorem dX9_node_85 : decode cX9_node 85 = .ok (.iload_n 1, 1) := by decide +kernel
theorem dX9_node_86 : decode cX9_node 86 = .ok (.iadd, 1) := by decide +kernel
theorem dX9_node_87 : decode cX9_node 87 = .ok (.iaload, 1) := by decide +kernel
theorem dX9_node_88 : decode cX9_node 88 = .ok (.ireturn, 1) := by decide +kernel
set_option maxRecDepth 20000 in
set_option maxHeartbeats 4000000 in
theorem wk_X9_node_26 {p : Program} {l : Launch} {e : Env} {s : State} {m : MethodId} {args : Array Value} {below : List Frame} {meth : Method} {c : Code} {G : Gp} {σ : St} {x1 : Int32} {x2 : Int32} {t1 : Int32}  {Q : Int32 → St → Prop} (F : FX p s m args meth c cX9_node 3 (some .int) RX9 G)   (h : wp_X9_node_26 σ x1 x2 t1 Q) : J p l e (rmF 2 42) s m args below meth c 3 G (MQ below (QQ G (qI Q)) args s 0 0 (fr G)) 0 0 26 [(0, .ref (gb G + 244)), (1, .int x1), (2, .int x2)] [.int t1, .ref (gb G + 244)] σ := by
  unfold wp_X9_node_26 at h
  refine J_pfi F (ci := 9) 0 rfl inX9 tyX9 tyX9_ok nmX9 ly_244 (by decide) (by decide) rfl lf_X9_54 rfl rfl (tyX9_ok 0 (by decide)) rfl rfl dX9_node_26 ?_
  refine J_st (fun σ_1 eσ_1 => ?_)
  have h := h σ_1 eσ_1
  refine J_aln F 0 dX9_node_29 rfl rfl ?_
  refine J_gfi F (ci := 9) 0 rfl inX9 ly_244 (by decide) (by decide) rfl lf_X9_54 rfl dX9_node_30 ?_
  refine J_zle F (tgt := 38) dX9_node_33 (by decide) (fun c_2 => ?_) (fun c_2 => ?_)
  · have h := h.1 c_2
    refine J_iln F 2 dX9_node_38 rfl rfl ?_
    refine J_zne F (tgt := 51) dX9_node_39 (by decide) (fun c_3 => ?_) (fun c_3 => ?_)
    · have h := h.1 c_3
      refine J_aln F 0 dX9_node_51 rfl rfl ?_
      refine J_iln F 1 dX9_node_52 rfl rfl ?_
      refine J_ic F dX9_node_53 ki_0 ?_
      refine J_callVi F (As := [.int x1, .int (nI 0)]) (st := []) (C_X9_isState l G x1 (nI 0)  h) (ci := 9) ly_244 (by decide) rfl rfl lm_X9_57 li_X9_isState ls_X9_isState ini_X9 lc_X9_isState hd_X9_isState (by decide) (Nat.le_of_ble_eq_true rfl) (by decide) rfl dX9_node_54 (fun r_4 σ_5 hh => ?_)
      clear h
      obtain ⟨e9, h⟩ := hh
      subst σ_5
      refine J_zeq F (tgt := 62) dX9_node_57 (by decide) (fun c_6 => ?_) (fun c_6 => ?_)
      · have h := h.1 c_6
        refine J_iln F 2 dX9_node_62 rfl rfl ?_
        refine J_ic F dX9_node_63 ki_1 ?_
        refine J_cne F (tgt := 79) dX9_node_64 (by decide) (fun c_7 => ?_) (fun c_7 => ?_)
        · have h := h.1 c_7
          refine J_aln F 0 dX9_node_79 rfl rfl ?_
          refine J_gfa F (ci := 9) 1 rfl inX9 ly_244 (by decide) (by decide) rfl lf_X9_7 rfl dX9_node_80 ?_
          refine J_bi F dX9_node_83 kb_20 ?_
          refine J_iln F 1 dX9_node_85 rfl rfl ?_
          refine J_iadd F dX9_node_86 ?_
          obtain ⟨h_8, h⟩ := h
          refine J_iald F ly_245 h_8 dX9_node_87 ?_
          exact J_reti F ⟨_, rfl, h⟩ dX9_node_88
        · have h := h.2 c_7
          refine J_aln F 0 dX9_node_67 rfl rfl ?_
          refine J_gfa F (ci := 9) 1 rfl inX9 ly_244 (by decide) (by decide) rfl lf_X9_7 rfl dX9_node_68 ?_
          refine J_bi F dX9_node_71 kb_10 ?_
          refine J_iln F 1 dX9_node_73 rfl rfl ?_
          refine J_iadd F dX9_node_74 ?_
          obtain ⟨h_9, h⟩ := h
          refine J_iald F ly_245 h_9 dX9_node_75 ?_
          refine J_goto F (tgt := 88) dX9_node_76 (by decide) ?_
          exact J_reti F ⟨_, rfl, h⟩ dX9_node_88
      · have h := h.2 c_6
        refine J_ic F dX9_node_60 ki_m1 ?_
        exact J_reti F ⟨_, rfl, h⟩ dX9_node_61
    · have h := h.2 c_3
      refine J_aln F 0 dX9_node_42 rfl rfl ?_
      refine J_gfa F (ci := 9) 1 rfl inX9 ly_244 (by decide) (by decide) rfl lf_X9_7 rfl dX9_node_43 ?_
      refine J_ic F dX9_node_46 ki_0 ?_
      refine J_iln F 1 dX9_node_47 rfl rfl ?_
      refine J_iadd F dX9_node_48 ?_
      obtain ⟨h_10, h⟩ := h
      refine J_iald F ly_245 h_10 dX9_node_49 ?_
      exact J_reti F ⟨_, rfl, h⟩ dX9_node_50
  · have h := h.2 c_2
    refine J_ic F dX9_node_36 ki_0 ?_
    exact J_reti F ⟨_, rfl, h⟩ dX9_node_37
set_option maxRecDepth 20000 in
set_option maxHeartbeats 4000000 in
theorem C_X9_node (l : Launch) (G : Gp) (x1 : Int32) (x2 : Int32)  {σ : St} {Q : Int32 → St → Prop} (h : wp_X9_node σ x1 x2 Q) : Cn l yX9_node cX9_node 3 (some .int) 2 42 G [.ref (gb G + 244), .int x1, .int x2] σ (qI Q) := by
  refine Cn_of (L := [(0, .ref (gb G + 244)), (1, .int x1), (2, .int x2)]) RX9 (by decide) rfl (Nat.le_of_ble_eq_true rfl) rfl ?_
  intro p e s m below meth c F
  unfold wp_X9_node at h
  refine J_aln F 0 dX9_node_0 rfl rfl ?_
  refine J_iln F 1 dX9_node_1 rfl rfl ?_
  refine J_callSi F (As := [.int x1]) (st := [.ref (gb G + 244)]) (C_X9_isNode l G x1  h) lm_X9_354 li_X9_isNode ini_X9 lc_X9_isNode hd_X9_isNode (by decide) (Nat.le_of_ble_eq_true rfl) (by decide) rfl dX9_node_2 (fun r_11 σ_12 hh => ?_)
  clear h
  obtain ⟨e9, h⟩ := hh
  subst σ_12
  refine J_zne F (tgt := 12) dX9_node_5 (by decide) (fun c_13 => ?_) (fun c_13 => ?_)
  · have h := h.1 c_13
    refine J_iln F 2 dX9_node_12 rfl rfl ?_
    refine J_ic F dX9_node_13 ki_0 ?_
    refine J_ic F dX9_node_14 ki_2 ?_
    refine J_callSi F (As := [.int x2, .int (nI 0), .int (nI 2)]) (st := [.ref (gb G + 244)]) (C_X9_isIn l G x2 (nI 0) (nI 2)  h) lm_X9_77 li_X9_isIn ini_X9 lc_X9_isIn hd_X9_isIn (by decide) (Nat.le_of_ble_eq_true rfl) (by decide) rfl dX9_node_15 (fun r_14 σ_15 hh => ?_)
    clear h
    obtain ⟨e9, h⟩ := hh
    subst σ_15
    refine J_zne F (tgt := 25) dX9_node_18 (by decide) (fun c_16 => ?_) (fun c_16 => ?_)
    · have h := h.1 c_16
      refine J_ic F dX9_node_25 ki_0 ?_
      exact wk_X9_node_26 F  h
    · have h := h.2 c_16
      refine J_ic F dX9_node_21 ki_2 ?_
      refine J_goto F (tgt := 26) dX9_node_22 (by decide) ?_
      exact wk_X9_node_26 F  h
  · have h := h.2 c_13
    refine J_ic F dX9_node_8 ki_1 ?_
    refine J_goto F (tgt := 26) dX9_node_9 (by decide) ?_
    exact wk_X9_node_26 F  h
theorem dX9_isReality_0 : decode cX9_isReality 0 = .ok (.iload_n 1, 1) := by decide +kernel
theorem dX9_isReality_1 : decode cX9_isReality 1 = .ok (.iconst 0, 1) := by decide +kernel
theorem dX9_isReality_2 : decode cX9_isReality 2 = .ok (.aload_n 0, 1) := by decide +kernel
theorem dX9_isReality_3 : decode cX9_isReality 3 = .ok (.getfield 7, 3) := by decide +kernel
theorem dX9_isReality_6 : decode cX9_isReality 6 = .ok (.bipush 37, 2) := by decide +kernel
theorem dX9_isReality_8 : decode cX9_isReality 8 = .ok (.iaload, 1) := by decide +kernel
theorem dX9_isReality_9 : decode cX9_isReality 9 = .ok (.iconst 1, 1) := by decide +kernel
theorem dX9_isReality_10 : decode cX9_isReality 10 = .ok (.isub, 1) := by decide +kernel
theorem dX9_isReality_11 : decode cX9_isReality 11 = .ok (.invokestatic 77, 3) := by decide +kernel
theorem dX9_isReality_14 : decode cX9_isReality 14 = .ok (.ireturn, 1) := by decide +kernel
set_option maxRecDepth 20000 in
set_option maxHeartbeats 4000000 in
theorem C_X9_isReality (l : Launch) (G : Gp) (x1 : Int32)  {σ : St} {Q : Int32 → Prop} (h : wp_X9_isReality σ x1 Q) : Cn l yX9_isReality cX9_isReality 2 (some .boolean) 1 22 G [.ref (gb G + 244), .int x1] σ (qI (fun r σ' => σ' = σ ∧ Q r)) := by
  refine Cn_of (L := [(0, .ref (gb G + 244)), (1, .int x1)]) RX9 (by decide) rfl (Nat.le_of_ble_eq_true rfl) rfl ?_
  intro p e s m below meth c F
  unfold wp_X9_isReality at h
  refine J_iln F 1 dX9_isReality_0 rfl rfl ?_
  refine J_ic F dX9_isReality_1 ki_0 ?_
  refine J_aln F 0 dX9_isReality_2 rfl rfl ?_
  refine J_gfa F (ci := 9) 1 rfl inX9 ly_244 (by decide) (by decide) rfl lf_X9_7 rfl dX9_isReality_3 ?_
  refine J_bi F dX9_isReality_6 kb_37 ?_
  refine J_ialdc F ly_245 (by decide) (by decide) dX9_isReality_8 ?_
  refine J_ic F dX9_isReality_9 ki_1 ?_
  refine J_isub F dX9_isReality_10 ?_
  refine J_callSi F (As := [.int x1, .int (nI 0), .int ((σ 245 37) - (nI 1))]) (st := []) (C_X9_isIn l G x1 (nI 0) ((σ 245 37) - (nI 1))  h) lm_X9_77 li_X9_isIn ini_X9 lc_X9_isIn hd_X9_isIn (by decide) (Nat.le_of_ble_eq_true rfl) (by decide) rfl dX9_isReality_11 (fun r_1 σ_2 hh => ?_)
  clear h
  obtain ⟨e9, h⟩ := hh
  subst σ_2
  obtain ⟨h_3, h⟩ := h
  exact J_retz F h_3 ⟨_, rfl, rfl, h⟩ dX9_isReality_14
theorem dX9_loadOf_0 : decode cX9_loadOf 0 = .ok (.iconst 0, 1) := by decide +kernel
theorem dX9_loadOf_1 : decode cX9_loadOf 1 = .ok (.istore_n 3, 1) := by decide +kernel
theorem dX9_loadOf_2 : decode cX9_loadOf 2 = .ok (.iconst 0, 1) := by decide +kernel
theorem dX9_loadOf_3 : decode cX9_loadOf 3 = .ok (.istore 4, 2) := by decide +kernel
theorem dX9_loadOf_5 : decode cX9_loadOf 5 = .ok (.iload 4, 2) := by decide +kernel
theorem dX9_loadOf_7 : decode cX9_loadOf 7 = .ok (.bipush 100, 2) := by decide +kernel
theorem dX9_loadOf_9 : decode cX9_loadOf 9 = .ok (.if_icmp .ge 38, 3) := by decide +kernel
theorem dX9_loadOf_12 : decode cX9_loadOf 12 = .ok (.iload_n 3, 1) := by decide +kernel
theorem dX9_loadOf_13 : decode cX9_loadOf 13 = .ok (.aload_n 0, 1) := by decide +kernel
theorem dX9_loadOf_14 : decode cX9_loadOf 14 = .ok (.iload 4, 2) := by decide +kernel
theorem dX9_loadOf_16 : decode cX9_loadOf 16 = .ok (.iload_n 2, 1) := by decide +kernel
theorem dX9_loadOf_17 : decode cX9_loadOf 17 = .ok (.invokevirtual 165, 3) := by decide +kernel
theorem dX9_loadOf_20 : decode cX9_loadOf 20 = .ok (.ifCond .eq 18, 3) := by decide +kernel
theorem dX9_loadOf_23 : decode cX9_loadOf 23 = .ok (.aload_n 0, 1) := by decide +kernel
theorem dX9_loadOf_24 : decode cX9_loadOf 24 = .ok (.iload 4, 2) := by decide +kernel
theorem dX9_loadOf_26 : decode cX9_loadOf 26 = .ok (.iload_n 2, 1) := by decide +kernel
theorem dX9_loadOf_27 : decode cX9_loadOf 27 = .ok (.invokevirtual 168, 3) := by decide +kernel
theorem dX9_loadOf_30 : decode cX9_loadOf 30 = .ok (.iload_n 1, 1) := by decide +kernel
theorem dX9_loadOf_31 : decode cX9_loadOf 31 = .ok (.if_icmp .ne 7, 3) := by decide +kernel
theorem dX9_loadOf_34 : decode cX9_loadOf 34 = .ok (.iconst 1, 1) := by decide +kernel
theorem dX9_loadOf_35 : decode cX9_loadOf 35 = .ok (.goto 4, 3) := by decide +kernel
theorem dX9_loadOf_38 : decode cX9_loadOf 38 = .ok (.iconst 0, 1) := by decide +kernel
theorem dX9_loadOf_39 : decode cX9_loadOf 39 = .ok (.iadd, 1) := by decide +kernel
theorem dX9_loadOf_40 : decode cX9_loadOf 40 = .ok (.istore_n 3, 1) := by decide +kernel
theorem dX9_loadOf_41 : decode cX9_loadOf 41 = .ok (.iinc 4 1, 3) := by decide +kernel
theorem dX9_loadOf_44 : decode cX9_loadOf 44 = .ok (.goto (-39), 3) := by decide +kernel
theorem dX9_loadOf_47 : decode cX9_loadOf 47 = .ok (.iload_n 3, 1) := by decide +kernel
theorem dX9_loadOf_48 : decode cX9_loadOf 48 = .ok (.ireturn, 1) := by decide +kernel
set_option maxRecDepth 20000 in
set_option maxHeartbeats 4000000 in
theorem wk_X9_loadOf_5 {p : Program} {l : Launch} {e : Env} {s : State} {m : MethodId} {args : Array Value} {below : List Frame} {meth : Method} {c : Code} {G : Gp} {x1 : Int32} {x2 : Int32}  {Q : Int32 → St → Prop} (F : FX p s m args meth c cX9_loadOf 5 (some .int) RX9 G)   : ∀ (n9 : Nat) (σ : St) (x3 : Int32) (x4 : Int32), LP3 (wp_X9_loadOf_5 x1 x2 Q) n9 σ x3 x4 → J p l e (rmF 6 137) s m args below meth c 5 G (MQ below (QQ G (qI Q)) args s 0 0 (fr G)) 0 0 5 [(0, .ref (gb G + 244)), (1, .int x1), (2, .int x2), (3, .int x3), (4, .int x4)] [] σ := by
  intro n9
  induction n9 with
  | zero => intro σ x3 x4 h; exact h.elim
  | succ n9 i5 =>
    intro σ x3 x4 h
    have h : wp_X9_loadOf_5 x1 x2 Q (LP3 (wp_X9_loadOf_5 x1 x2 Q) n9) σ x3 x4 := h
    unfold wp_X9_loadOf_5 at h
    refine J_il F 4 dX9_loadOf_5 rfl ?_
    refine J_bi F dX9_loadOf_7 kb_100 ?_
    refine J_cge F (tgt := 47) dX9_loadOf_9 (by decide) (fun c_1 => ?_) (fun c_1 => ?_)
    · have h := h.1 c_1
      refine J_iln F 3 dX9_loadOf_47 rfl rfl ?_
      exact J_reti F ⟨_, rfl, h⟩ dX9_loadOf_48
    · have h := h.2 c_1
      refine J_iln F 3 dX9_loadOf_12 rfl rfl ?_
      refine J_aln F 0 dX9_loadOf_13 rfl rfl ?_
      refine J_il F 4 dX9_loadOf_14 rfl ?_
      refine J_iln F 2 dX9_loadOf_16 rfl rfl ?_
      refine J_callVi F (As := [.int x4, .int x2]) (st := [.int x3]) (C_X9_isHeld l G x4 x2  h) (ci := 9) ly_244 (by decide) rfl rfl lm_X9_165 li_X9_isHeld ls_X9_isHeld ini_X9 lc_X9_isHeld hd_X9_isHeld (by decide) (Nat.le_of_ble_eq_true rfl) (by decide) rfl dX9_loadOf_17 (fun r_2 σ_3 hh => ?_)
      clear h
      obtain ⟨e9, h⟩ := hh
      subst σ_3
      refine J_zeq F (tgt := 38) dX9_loadOf_20 (by decide) (fun c_4 => ?_) (fun c_4 => ?_)
      · have h := h.1 c_4
        refine J_ic F dX9_loadOf_38 ki_0 ?_
        refine J_iadd F dX9_loadOf_39 ?_
        refine J_top (fun x3_5 ex3_5 => ?_)
        have h := h x3_5 ex3_5
        refine J_isn F (L' := [(3, .int x3_5), (0, .ref (gb G + 244)), (1, .int x1), (2, .int x2), (4, .int x4)]) dX9_loadOf_40 rfl (by decide) rfl ?_
        obtain ⟨x4_6, ex4_6⟩ : ∃ z : Int32, z = x4 + (nI 1) := ⟨_, rfl⟩
        have h := h x4_6 ex4_6
        refine J_iinc F (v := x4_6) (L' := [(4, .int x4_6), (3, .int x3_5), (0, .ref (gb G + 244)), (1, .int x1), (2, .int x2)]) 4 dX9_loadOf_41 rfl (by rw [ki_1, ex4_6]) (by decide) rfl ?_
        refine J_goto F (tgt := 5) dX9_loadOf_44 (by decide) ?_
        refine J_sub [2, 3, 4, 1, 0] rfl ?_
        exact i5 _ _ _ h
      · have h := h.2 c_4
        refine J_aln F 0 dX9_loadOf_23 rfl rfl ?_
        refine J_il F 4 dX9_loadOf_24 rfl ?_
        refine J_iln F 2 dX9_loadOf_26 rfl rfl ?_
        refine J_callVi F (As := [.int x4, .int x2]) (st := [.int x3]) (C_X9_keeperOf l G x4 x2  h) (ci := 9) ly_244 (by decide) rfl rfl lm_X9_168 li_X9_keeperOf ls_X9_keeperOf ini_X9 lc_X9_keeperOf hd_X9_keeperOf (by decide) (Nat.le_of_ble_eq_true rfl) (by decide) rfl dX9_loadOf_27 (fun r_7 σ_8 h => ?_)
        refine J_iln F 1 dX9_loadOf_30 rfl rfl ?_
        refine J_cne F (tgt := 38) dX9_loadOf_31 (by decide) (fun c_9 => ?_) (fun c_9 => ?_)
        · have h := h.1 c_9
          refine J_ic F dX9_loadOf_38 ki_0 ?_
          refine J_iadd F dX9_loadOf_39 ?_
          refine J_top (fun x3_10 ex3_10 => ?_)
          have h := h x3_10 ex3_10
          refine J_isn F (L' := [(3, .int x3_10), (0, .ref (gb G + 244)), (1, .int x1), (2, .int x2), (4, .int x4)]) dX9_loadOf_40 rfl (by decide) rfl ?_
          obtain ⟨x4_11, ex4_11⟩ : ∃ z : Int32, z = x4 + (nI 1) := ⟨_, rfl⟩
          have h := h x4_11 ex4_11
          refine J_iinc F (v := x4_11) (L' := [(4, .int x4_11), (3, .int x3_10), (0, .ref (gb G + 244)), (1, .int x1), (2, .int x2)]) 4 dX9_loadOf_41 rfl (by rw [ki_1, ex4_11]) (by decide) rfl ?_
          refine J_goto F (tgt := 5) dX9_loadOf_44 (by decide) ?_
          refine J_sub [2, 3, 4, 1, 0] rfl ?_
          exact i5 _ _ _ h
        · have h := h.2 c_9
          refine J_ic F dX9_loadOf_34 ki_1 ?_
          refine J_goto F (tgt := 39) dX9_loadOf_35 (by decide) ?_
          refine J_iadd F dX9_loadOf_39 ?_
          refine J_top (fun x3_12 ex3_12 => ?_)
          have h := h x3_12 ex3_12
          refine J_isn F (L' := [(3, .int x3_12), (0, .ref (gb G + 244)), (1, .int x1), (2, .int x2), (4, .int x4)]) dX9_loadOf_40 rfl (by decide) rfl ?_
          obtain ⟨x4_13, ex4_13⟩ : ∃ z : Int32, z = x4 + (nI 1) := ⟨_, rfl⟩
          have h := h x4_13 ex4_13
          refine J_iinc F (v := x4_13) (L' := [(4, .int x4_13), (3, .int x3_12), (0, .ref (gb G + 244)), (1, .int x1), (2, .int x2)]) 4 dX9_loadOf_41 rfl (by rw [ki_1, ex4_13]) (by decide) rfl ?_
          refine J_goto F (tgt := 5) dX9_loadOf_44 (by decide) ?_
          refine J_sub [2, 3, 4, 1, 0] rfl ?_
          exact i5 _ _ _ h
set_option maxRecDepth 20000 in
set_option maxHeartbeats 4000000 in
theorem C_X9_loadOf (l : Launch) (G : Gp) (x1 : Int32) (x2 : Int32)  {σ : St} {Q : Int32 → St → Prop} (h : wp_X9_loadOf σ x1 x2 Q) : Cn l yX9_loadOf cX9_loadOf 5 (some .int) 6 137 G [.ref (gb G + 244), .int x1, .int x2] σ (qI Q) := by
  refine Cn_of (L := [(0, .ref (gb G + 244)), (1, .int x1), (2, .int x2)]) RX9 (by decide) rfl (Nat.le_of_ble_eq_true rfl) rfl ?_
  intro p e s m below meth c F
  unfold wp_X9_loadOf at h
  refine J_ic F dX9_loadOf_0 ki_0 ?_
  refine J_isn F (L' := [(3, .int (nI 0)), (0, .ref (gb G + 244)), (1, .int x1), (2, .int x2)]) dX9_loadOf_1 rfl (by decide) rfl ?_
  refine J_ic F dX9_loadOf_2 ki_0 ?_
  refine J_is F (L' := [(4, .int (nI 0)), (3, .int (nI 0)), (0, .ref (gb G + 244)), (1, .int x1), (2, .int x2)]) dX9_loadOf_3 (by decide) rfl ?_
  refine J_sub [2, 3, 4, 1, 0] rfl ?_
  obtain ⟨n9, h⟩ := h
  exact wk_X9_loadOf_5 F  n9 _ _ _ h
theorem dX9_members_0 : decode cX9_members 0 = .ok (.iconst 0, 1) := by decide +kernel
theorem dX9_members_1 : decode cX9_members 1 = .ok (.istore_n 1, 1) := by decide +kernel
theorem dX9_members_2 : decode cX9_members 2 = .ok (.iconst 0, 1) := by decide +kernel
theorem dX9_members_3 : decode cX9_members 3 = .ok (.istore_n 2, 1) := by decide +kernel
theorem dX9_members_4 : decode cX9_members 4 = .ok (.iload_n 2, 1) := by decide +kernel
theorem dX9_members_5 : decode cX9_members 5 = .ok (.bipush 10, 2) := by decide +kernel
theorem dX9_members_7 : decode cX9_members 7 = .ok (.if_icmp .ge 17, 3) := by decide +kernel
theorem dX9_members_10 : decode cX9_members 10 = .ok (.iload_n 1, 1) := by decide +kernel
theorem dX9_members_11 : decode cX9_members 11 = .ok (.iload_n 0, 1) := by decide +kernel
theorem dX9_members_12 : decode cX9_members 12 = .ok (.iload_n 2, 1) := by decide +kernel
theorem dX9_members_13 : decode cX9_members 13 = .ok (.ishr, 1) := by decide +kernel
theorem dX9_members_14 : decode cX9_members 14 = .ok (.iconst 1, 1) := by decide +kernel
theorem dX9_members_15 : decode cX9_members 15 = .ok (.iand, 1) := by decide +kernel
theorem dX9_members_16 : decode cX9_members 16 = .ok (.iadd, 1) := by decide +kernel
theorem dX9_members_17 : decode cX9_members 17 = .ok (.istore_n 1, 1) := by decide +kernel
theorem dX9_members_18 : decode cX9_members 18 = .ok (.iinc 2 1, 3) := by decide +kernel
theorem dX9_members_21 : decode cX9_members 21 = .ok (.goto (-17), 3) := by decide +kernel
theorem dX9_members_24 : decode cX9_members 24 = .ok (.iload_n 1, 1) := by decide +kernel
theorem dX9_members_25 : decode cX9_members 25 = .ok (.ireturn, 1) := by decide +kernel
set_option maxRecDepth 20000 in
set_option maxHeartbeats 4000000 in
theorem wk_X9_members_4 {p : Program} {l : Launch} {e : Env} {s : State} {m : MethodId} {args : Array Value} {below : List Frame} {meth : Method} {c : Code} {G : Gp} {σ : St} {x0 : Int32}  {Q : Int32 → Prop} (F : FX p s m args meth c cX9_members 3 (some .int) RX9 G)   : ∀ (n9 : Nat) (x1 : Int32) (x2 : Int32), LP2 (wp_X9_members_4 σ x0 Q) n9 x1 x2 → J p l e (rmF 0 0) s m args below meth c 3 G (MQ below (QQ G (qI (fun r σ' => σ' = σ ∧ Q r))) args s 0 0 (fr G)) 0 0 4 [(0, .int x0), (1, .int x1), (2, .int x2)] [] σ := by
  intro n9
  induction n9 with
  | zero => intro x1 x2 h; exact h.elim
  | succ n9 i4 =>
    intro x1 x2 h
    have h : wp_X9_members_4 σ x0 Q (LP2 (wp_X9_members_4 σ x0 Q) n9) x1 x2 := h
    unfold wp_X9_members_4 at h
    refine J_iln F 2 dX9_members_4 rfl rfl ?_
    refine J_bi F dX9_members_5 kb_10 ?_
    refine J_cge F (tgt := 24) dX9_members_7 (by decide) (fun c_1 => ?_) (fun c_1 => ?_)
    · have h := h.1 c_1
      refine J_iln F 1 dX9_members_24 rfl rfl ?_
      exact J_reti F ⟨_, rfl, rfl, h⟩ dX9_members_25
    · have h := h.2 c_1
      refine J_iln F 1 dX9_members_10 rfl rfl ?_
      refine J_iln F 0 dX9_members_11 rfl rfl ?_
      refine J_iln F 2 dX9_members_12 rfl rfl ?_
      refine J_ishr F dX9_members_13 ?_
      refine J_ic F dX9_members_14 ki_1 ?_
      refine J_iand F dX9_members_15 ?_
      refine J_iadd F dX9_members_16 ?_
      refine J_top (fun x1_2 ex1_2 => ?_)
      have h := h x1_2 ex1_2
      refine J_isn F (L' := [(1, .int x1_2), (0, .int x0), (2, .int x2)]) dX9_members_17 rfl (by decide) rfl ?_
      obtain ⟨x2_3, ex2_3⟩ : ∃ z : Int32, z = x2 + (nI 1) := ⟨_, rfl⟩
      have h := h x2_3 ex2_3
      refine J_iinc F (v := x2_3) (L' := [(2, .int x2_3), (1, .int x1_2), (0, .int x0)]) 2 dX9_members_18 rfl (by rw [ki_1, ex2_3]) (by decide) rfl ?_
      refine J_goto F (tgt := 4) dX9_members_21 (by decide) ?_
      refine J_sub [2, 1, 0] rfl ?_
      exact i4 _ _ h
set_option maxRecDepth 20000 in
set_option maxHeartbeats 4000000 in
theorem C_X9_members (l : Launch) (G : Gp) (x0 : Int32)  {σ : St} {Q : Int32 → Prop} (h : wp_X9_members σ x0 Q) : Cn l yX9_members cX9_members 3 (some .int) 0 0 G [.int x0] σ (qI (fun r σ' => σ' = σ ∧ Q r)) := by
  refine Cn_of (L := [(0, .int x0)]) RX9 (by decide) rfl (Nat.le_of_ble_eq_true rfl) rfl ?_
  intro p e s m below meth c F
  unfold wp_X9_members at h
  refine J_ic F dX9_members_0 ki_0 ?_
  refine J_isn F (L' := [(1, .int (nI 0)), (0, .int x0)]) dX9_members_1 rfl (by decide) rfl ?_
  refine J_ic F dX9_members_2 ki_0 ?_
  refine J_isn F (L' := [(2, .int (nI 0)), (1, .int (nI 0)), (0, .int x0)]) dX9_members_3 rfl (by decide) rfl ?_
  refine J_sub [2, 1, 0] rfl ?_
  obtain ⟨n9, h⟩ := h
  exact wk_X9_members_4 F  n9 _ _ h
theorem dX9_hubOf_0 : decode cX9_hubOf 0 = .ok (.iconst (-1), 1) := by decide +kernel
theorem dX9_hubOf_1 : decode cX9_hubOf 1 = .ok (.istore_n 1, 1) := by decide +kernel
theorem dX9_hubOf_2 : decode cX9_hubOf 2 = .ok (.iconst 0, 1) := by decide +kernel
theorem dX9_hubOf_3 : decode cX9_hubOf 3 = .ok (.istore_n 2, 1) := by decide +kernel
theorem dX9_hubOf_4 : decode cX9_hubOf 4 = .ok (.iload_n 2, 1) := by decide +kernel
theorem dX9_hubOf_5 : decode cX9_hubOf 5 = .ok (.bipush 10, 2) := by decide +kernel
theorem dX9_hubOf_7 : decode cX9_hubOf 7 = .ok (.if_icmp .ge 47, 3) := by decide +kernel
theorem dX9_hubOf_10 : decode cX9_hubOf 10 = .ok (.aload_n 0, 1) := by decide +kernel
theorem dX9_hubOf_11 : decode cX9_hubOf 11 = .ok (.iload_n 2, 1) := by decide +kernel
theorem dX9_hubOf_12 : decode cX9_hubOf 12 = .ok (.iconst 1, 1) := by decide +kernel
theorem dX9_hubOf_13 : decode cX9_hubOf 13 = .ok (.invokevirtual 57, 3) := by decide +kernel
theorem dX9_hubOf_16 : decode cX9_hubOf 16 = .ok (.ifCond .ne 6, 3) := by decide +kernel
theorem dX9_hubOf_19 : decode cX9_hubOf 19 = .ok (.goto 29, 3) := by decide +kernel
theorem dX9_hubOf_22 : decode cX9_hubOf 22 = .ok (.iload_n 1, 1) := by decide +kernel
theorem dX9_hubOf_23 : decode cX9_hubOf 23 = .ok (.iconst (-1), 1) := by decide +kernel
theorem dX9_hubOf_24 : decode cX9_hubOf 24 = .ok (.if_icmp .eq 22, 3) := by decide +kernel
theorem dX9_hubOf_27 : decode cX9_hubOf 27 = .ok (.aload_n 0, 1) := by decide +kernel
theorem dX9_hubOf_28 : decode cX9_hubOf 28 = .ok (.iload_n 2, 1) := by decide +kernel
theorem dX9_hubOf_29 : decode cX9_hubOf 29 = .ok (.invokevirtual 364, 3) := by decide +kernel
theorem dX9_hubOf_32 : decode cX9_hubOf 32 = .ok (.invokestatic 367, 3) := by decide +kernel
theorem dX9_hubOf_35 : decode cX9_hubOf 35 = .ok (.aload_n 0, 1) := by decide +kernel
theorem dX9_hubOf_36 : decode cX9_hubOf 36 = .ok (.iload_n 1, 1) := by decide +kernel
theorem dX9_hubOf_37 : decode cX9_hubOf 37 = .ok (.invokevirtual 364, 3) := by decide +kernel
theorem dX9_hubOf_40 : decode cX9_hubOf 40 = .ok (.invokestatic 367, 3) := by decide +kernel
theorem dX9_hubOf_43 : decode cX9_hubOf 43 = .ok (.if_icmp .le 5, 3) := by decide +kernel
theorem dX9_hubOf_46 : decode cX9_hubOf 46 = .ok (.iload_n 2, 1) := by decide +kernel
theorem dX9_hubOf_47 : decode cX9_hubOf 47 = .ok (.istore_n 1, 1) := by decide +kernel
theorem dX9_hubOf_48 : decode cX9_hubOf 48 = .ok (.iinc 2 1, 3) := by decide +kernel
theorem dX9_hubOf_51 : decode cX9_hubOf 51 = .ok (.goto (-47), 3) := by decide +kernel
theorem dX9_hubOf_54 : decode cX9_hubOf 54 = .ok (.iload_n 1, 1) := by decide +kernel
theorem dX9_hubOf_55 : decode cX9_hubOf 55 = .ok (.ireturn, 1) := by decide +kernel
set_option maxRecDepth 20000 in
set_option maxHeartbeats 4000000 in
theorem wk_X9_hubOf_4 {p : Program} {l : Launch} {e : Env} {s : State} {m : MethodId} {args : Array Value} {below : List Frame} {meth : Method} {c : Code} {G : Gp} {σ : St}   {Q : Int32 → Prop} (F : FX p s m args meth c cX9_hubOf 3 (some .int) RX9 G)   : ∀ (n9 : Nat) (x1 : Int32) (x2 : Int32), LP2 (wp_X9_hubOf_4 σ Q) n9 x1 x2 → J p l e (rmF 4 93) s m args below meth c 3 G (MQ below (QQ G (qI (fun r σ' => σ' = σ ∧ Q r))) args s 0 0 (fr G)) 0 0 4 [(0, .ref (gb G + 244)), (1, .int x1), (2, .int x2)] [] σ := by
  intro n9
  induction n9 with
  | zero => intro x1 x2 h; exact h.elim
  | succ n9 i4 =>
    intro x1 x2 h
    have h : wp_X9_hubOf_4 σ Q (LP2 (wp_X9_hubOf_4 σ Q) n9) x1 x2 := h
    unfold wp_X9_hubOf_4 at h
    refine J_iln F 2 dX9_hubOf_4 rfl rfl ?_
    refine J_bi F dX9_hubOf_5 kb_10 ?_
    refine J_cge F (tgt := 54) dX9_hubOf_7 (by decide) (fun c_1 => ?_) (fun c_1 => ?_)
    · have h := h.1 c_1
      refine J_iln F 1 dX9_hubOf_54 rfl rfl ?_
      exact J_reti F ⟨_, rfl, rfl, h⟩ dX9_hubOf_55
    · have h := h.2 c_1
      refine J_aln F 0 dX9_hubOf_10 rfl rfl ?_
      refine J_iln F 2 dX9_hubOf_11 rfl rfl ?_
      refine J_ic F dX9_hubOf_12 ki_1 ?_
      refine J_callVi F (As := [.int x2, .int (nI 1)]) (st := []) (C_X9_isState l G x2 (nI 1)  h) (ci := 9) ly_244 (by decide) rfl rfl lm_X9_57 li_X9_isState ls_X9_isState ini_X9 lc_X9_isState hd_X9_isState (by decide) (Nat.le_of_ble_eq_true rfl) (by decide) rfl dX9_hubOf_13 (fun r_2 σ_3 hh => ?_)
      clear h
      obtain ⟨e9, h⟩ := hh
      subst σ_3
      refine J_zne F (tgt := 22) dX9_hubOf_16 (by decide) (fun c_4 => ?_) (fun c_4 => ?_)
      · have h := h.1 c_4
        refine J_iln F 1 dX9_hubOf_22 rfl rfl ?_
        refine J_ic F dX9_hubOf_23 ki_m1 ?_
        refine J_ceq F (tgt := 46) dX9_hubOf_24 (by decide) (fun c_5 => ?_) (fun c_5 => ?_)
        · have h := h.1 c_5
          refine J_iln F 2 dX9_hubOf_46 rfl rfl ?_
          refine J_isn F (L' := [(1, .int x2), (0, .ref (gb G + 244)), (2, .int x2)]) dX9_hubOf_47 rfl (by decide) rfl ?_
          obtain ⟨x2_6, ex2_6⟩ : ∃ z : Int32, z = x2 + (nI 1) := ⟨_, rfl⟩
          have h := h x2_6 ex2_6
          refine J_iinc F (v := x2_6) (L' := [(2, .int x2_6), (1, .int x2), (0, .ref (gb G + 244))]) 2 dX9_hubOf_48 rfl (by rw [ki_1, ex2_6]) (by decide) rfl ?_
          refine J_goto F (tgt := 4) dX9_hubOf_51 (by decide) ?_
          refine J_sub [2, 1, 0] rfl ?_
          exact i4 _ _ h
        · have h := h.2 c_5
          refine J_aln F 0 dX9_hubOf_27 rfl rfl ?_
          refine J_iln F 2 dX9_hubOf_28 rfl rfl ?_
          refine J_callVi F (As := [.int x2]) (st := []) (C_X9_besideNode l G x2  h) (ci := 9) ly_244 (by decide) rfl rfl lm_X9_364 li_X9_besideNode ls_X9_besideNode ini_X9 lc_X9_besideNode hd_X9_besideNode (by decide) (Nat.le_of_ble_eq_true rfl) (by decide) rfl dX9_hubOf_29 (fun r_7 σ_8 hh => ?_)
          clear h
          obtain ⟨e9, h⟩ := hh
          subst σ_8
          refine J_callSi F (As := [.int r_7]) (st := []) (C_X9_members l G r_7  h) lm_X9_367 li_X9_members ini_X9 lc_X9_members hd_X9_members (by decide) (Nat.le_of_ble_eq_true rfl) (by decide) rfl dX9_hubOf_32 (fun r_9 σ_10 hh => ?_)
          clear h
          obtain ⟨e9, h⟩ := hh
          subst σ_10
          refine J_aln F 0 dX9_hubOf_35 rfl rfl ?_
          refine J_iln F 1 dX9_hubOf_36 rfl rfl ?_
          refine J_callVi F (As := [.int x1]) (st := [.int r_9]) (C_X9_besideNode l G x1  h) (ci := 9) ly_244 (by decide) rfl rfl lm_X9_364 li_X9_besideNode ls_X9_besideNode ini_X9 lc_X9_besideNode hd_X9_besideNode (by decide) (Nat.le_of_ble_eq_true rfl) (by decide) rfl dX9_hubOf_37 (fun r_11 σ_12 hh => ?_)
          clear h
          obtain ⟨e9, h⟩ := hh
          subst σ_12
          refine J_callSi F (As := [.int r_11]) (st := [.int r_9]) (C_X9_members l G r_11  h) lm_X9_367 li_X9_members ini_X9 lc_X9_members hd_X9_members (by decide) (Nat.le_of_ble_eq_true rfl) (by decide) rfl dX9_hubOf_40 (fun r_13 σ_14 hh => ?_)
          clear h
          obtain ⟨e9, h⟩ := hh
          subst σ_14
          refine J_cle F (tgt := 48) dX9_hubOf_43 (by decide) (fun c_15 => ?_) (fun c_15 => ?_)
          · have h := h.1 c_15
            obtain ⟨x2_16, ex2_16⟩ : ∃ z : Int32, z = x2 + (nI 1) := ⟨_, rfl⟩
            have h := h x2_16 ex2_16
            refine J_iinc F (v := x2_16) (L' := [(2, .int x2_16), (0, .ref (gb G + 244)), (1, .int x1)]) 2 dX9_hubOf_48 rfl (by rw [ki_1, ex2_16]) (by decide) rfl ?_
            refine J_goto F (tgt := 4) dX9_hubOf_51 (by decide) ?_
            refine J_sub [1, 2, 0] rfl ?_
            exact i4 _ _ h
          · have h := h.2 c_15
            refine J_iln F 2 dX9_hubOf_46 rfl rfl ?_
            refine J_isn F (L' := [(1, .int x2), (0, .ref (gb G + 244)), (2, .int x2)]) dX9_hubOf_47 rfl (by decide) rfl ?_
            obtain ⟨x2_17, ex2_17⟩ : ∃ z : Int32, z = x2 + (nI 1) := ⟨_, rfl⟩
            have h := h x2_17 ex2_17
            refine J_iinc F (v := x2_17) (L' := [(2, .int x2_17), (1, .int x2), (0, .ref (gb G + 244))]) 2 dX9_hubOf_48 rfl (by rw [ki_1, ex2_17]) (by decide) rfl ?_
            refine J_goto F (tgt := 4) dX9_hubOf_51 (by decide) ?_
            refine J_sub [2, 1, 0] rfl ?_
            exact i4 _ _ h
      · have h := h.2 c_4
        refine J_goto F (tgt := 48) dX9_hubOf_19 (by decide) ?_
        obtain ⟨x2_18, ex2_18⟩ : ∃ z : Int32, z = x2 + (nI 1) := ⟨_, rfl⟩
        have h := h x2_18 ex2_18
        refine J_iinc F (v := x2_18) (L' := [(2, .int x2_18), (0, .ref (gb G + 244)), (1, .int x1)]) 2 dX9_hubOf_48 rfl (by rw [ki_1, ex2_18]) (by decide) rfl ?_
        refine J_goto F (tgt := 4) dX9_hubOf_51 (by decide) ?_
        refine J_sub [1, 2, 0] rfl ?_
        exact i4 _ _ h
set_option maxRecDepth 20000 in
set_option maxHeartbeats 4000000 in
theorem C_X9_hubOf (l : Launch) (G : Gp)   {σ : St} {Q : Int32 → Prop} (h : wp_X9_hubOf σ  Q) : Cn l yX9_hubOf cX9_hubOf 3 (some .int) 4 93 G [.ref (gb G + 244)] σ (qI (fun r σ' => σ' = σ ∧ Q r)) := by
  refine Cn_of (L := [(0, .ref (gb G + 244))]) RX9 (by decide) rfl (Nat.le_of_ble_eq_true rfl) rfl ?_
  intro p e s m below meth c F
  unfold wp_X9_hubOf at h
  refine J_ic F dX9_hubOf_0 ki_m1 ?_
  refine J_isn F (L' := [(1, .int (-1)), (0, .ref (gb G + 244))]) dX9_hubOf_1 rfl (by decide) rfl ?_
  refine J_ic F dX9_hubOf_2 ki_0 ?_
  refine J_isn F (L' := [(2, .int (nI 0)), (1, .int (-1)), (0, .ref (gb G + 244))]) dX9_hubOf_3 rfl (by decide) rfl ?_
  refine J_sub [2, 1, 0] rfl ?_
  obtain ⟨n9, h⟩ := h
  exact wk_X9_hubOf_4 F  n9 _ _ h
theorem dX9_held_0 : decode cX9_held 0 = .ok (.aload_n 0, 1) := by decide +kernel
theorem dX9_held_1 : decode cX9_held 1 = .ok (.iload_n 1, 1) := by decide +kernel
theorem dX9_held_2 : decode cX9_held 2 = .ok (.invokestatic 354, 3) := by decide +kernel
theorem dX9_held_5 : decode cX9_held 5 = .ok (.ifCond .eq 11, 3) := by decide +kernel
theorem dX9_held_8 : decode cX9_held 8 = .ok (.aload_n 0, 1) := by decide +kernel
theorem dX9_held_9 : decode cX9_held 9 = .ok (.iload_n 2, 1) := by decide +kernel
theorem dX9_held_10 : decode cX9_held 10 = .ok (.invokevirtual 370, 3) := by decide +kernel
theorem dX9_held_13 : decode cX9_held 13 = .ok (.ifCond .ne 7, 3) := by decide +kernel
theorem dX9_held_16 : decode cX9_held 16 = .ok (.iconst 1, 1) := by decide +kernel
theorem dX9_held_17 : decode cX9_held 17 = .ok (.goto 17, 3) := by decide +kernel
theorem dX9_held_20 : decode cX9_held 20 = .ok (.iload_n 3, 1) := by decide +kernel
theorem dX9_held_21 : decode cX9_held 21 = .ok (.iconst 0, 1) := by decide +kernel
theorem dX9_held_22 : decode cX9_held 22 = .ok (.iconst 4, 1) := by decide +kernel
theorem dX9_held_23 : decode cX9_held 23 = .ok (.invokestatic 77, 3) := by decide +kernel
theorem dX9_held_26 : decode cX9_held 26 = .ok (.ifCond .ne 7, 3) := by decide +kernel
theorem dX9_held_29 : decode cX9_held 29 = .ok (.iconst 2, 1) := by decide +kernel
theorem dX9_held_30 : decode cX9_held 30 = .ok (.goto 4, 3) := by decide +kernel
theorem dX9_held_33 : decode cX9_held 33 = .ok (.iconst 0, 1) := by decide +kernel
theorem dX9_held_34 : decode cX9_held 34 = .ok (.putfield 54, 3) := by decide +kernel
theorem dX9_held_37 : decode cX9_held 37 = .ok (.aload_n 0, 1) := by decide +kernel
theorem dX9_held_38 : decode cX9_held 38 = .ok (.getfield 54, 3) := by decide +kernel
theorem dX9_held_41 : decode cX9_held 41 = .ok (.ifCond .le 5, 3) := by decide +kernel
theorem dX9_held_44 : decode cX9_held 44 = .ok (.iconst 0, 1) := by decide +kernel
theorem dX9_held_45 : decode cX9_held 45 = .ok (.ireturn, 1) := by decide +kernel
theorem dX9_held_46 : decode cX9_held 46 = .ok (.aload_n 0, 1) := by decide +kernel
theorem dX9_held_47 : decode cX9_held 47 = .ok (.iload_n 2, 1) := by decide +kernel
theorem dX9_held_48 : decode cX9_held 48 = .ok (.invokevirtual 132, 3) := by decide +kernel
theorem dX9_held_51 : decode cX9_held 51 = .ok (.iload_n 3, 1) := by decide +kernel
theorem dX9_held_52 : decode cX9_held 52 = .ok (.tableswitch 57 0 3 #[32, 38, 44, 50], 32) := by decide +kernel
theorem dX9_held_84 : decode cX9_held 84 = .ok (.aload_n 0, 1) := by decide +kernel
theorem dX9_held_85 : decode cX9_held 85 = .ok (.iload_n 1, 1) := by decide +kernel
theorem dX9_held_86 : decode cX9_held 86 = .ok (.invokevirtual 206, 3) := by decide +kernel
theorem dX9_held_89 : decode cX9_held 89 = .ok (.ireturn, 1) := by decide +kernel
theorem dX9_held_90 : decode cX9_held 90 = .ok (.aload_n 0, 1) := by decide +kernel
theorem dX9_held_91 : decode cX9_held 91 = .ok (.iload_n 1, 1) := by decide +kernel
theorem dX9_held_92 : decode cX9_held 92 = .ok (.invokevirtual 129, 3) := by decide +kernel
theorem dX9_held_95 : decode cX9_held 95 = .ok (.ireturn, 1) := by decide +kernel
theorem dX9_held_96 : decode cX9_held 96 = .ok (.aload_n 0, 1) := by decide +kernel
theorem dX9_held_97 : decode cX9_held 97 = .ok (.iload_n 1, 1) := by decide +kernel
theorem dX9_held_98 : decode cX9_held 98 = .ok (.invokevirtual 364, 3) := by decide +kernel
theorem dX9_held_101 : decode cX9_held 101 = .ok (.ireturn, 1) := by decide +kernel
theorem dX9_held_102 : decode cX9_held 102 = .ok (.aload_n 0, 1) := by decide +kernel
theorem dX9_held_103 : decode cX9_held 103 = .ok (.iload_n 1, 1) := by decide +kernel
theorem dX9_held_104 : decode cX9_held 104 = .ok (.iload_n 2, 1) := by decide +kernel
theorem dX9_held_105 : decode cX9_held 105 = .ok (.invokevirtual 373, 3) := by decide +kernel
theorem dX9_held_108 : decode cX9_held 108 = .ok (.ireturn, 1) := by decide +kernel
theorem dX9_held_109 : decode cX9_held 109 = .ok (.aload_n 0, 1) := by decide +kernel
theorem dX9_held_110 : decode cX9_held 110 = .ok (.invokevirtual 376, 3) := by decide +kernel
theorem dX9_held_113 : decode cX9_held 113 = .ok (.iload_n 1, 1) := by decide +kernel
theorem dX9_held_114 : decode cX9_held 114 = .ok (.if_icmp .ne 7, 3) := by decide +kernel
theorem dX9_held_117 : decode cX9_held 117 = .ok (.iconst 1, 1) := by decide +kernel
theorem dX9_held_118 : decode cX9_held 118 = .ok (.goto 4, 3) := by decide +kernel
theorem dX9_held_121 : decode cX9_held 121 = .ok (.iconst 0, 1) := by decide +kernel
theorem dX9_held_122 : decode cX9_held 122 = .ok (.ireturn, 1) := by decide +kernel
set_option maxRecDepth 20000 in
set_option maxHeartbeats 4000000 in
theorem wk_X9_held_34 {p : Program} {l : Launch} {e : Env} {s : State} {m : MethodId} {args : Array Value} {below : List Frame} {meth : Method} {c : Code} {G : Gp} {σ : St} {x1 : Int32} {x2 : Int32} {x3 : Int32} {t1 : Int32}  {Q : Int32 → St → Prop} (F : FX p s m args meth c cX9_held 4 (some .int) RX9 G)   (h : wp_X9_held_34 σ x1 x2 x3 t1 Q) : J p l e (rmF 7 161) s m args below meth c 4 G (MQ below (QQ G (qI Q)) args s 0 0 (fr G)) 0 0 34 [(0, .ref (gb G + 244)), (1, .int x1), (2, .int x2), (3, .int x3)] [.int t1, .ref (gb G + 244)] σ := by
  unfold wp_X9_held_34 at h
  refine J_pfi F (ci := 9) 0 rfl inX9 tyX9 tyX9_ok nmX9 ly_244 (by decide) (by decide) rfl lf_X9_54 rfl rfl (tyX9_ok 0 (by decide)) rfl rfl dX9_held_34 ?_
  refine J_st (fun σ_1 eσ_1 => ?_)
  have h := h σ_1 eσ_1
  refine J_aln F 0 dX9_held_37 rfl rfl ?_
  refine J_gfi F (ci := 9) 0 rfl inX9 ly_244 (by decide) (by decide) rfl lf_X9_54 rfl dX9_held_38 ?_
  refine J_zle F (tgt := 46) dX9_held_41 (by decide) (fun c_2 => ?_) (fun c_2 => ?_)
  · have h := h.1 c_2
    refine J_aln F 0 dX9_held_46 rfl rfl ?_
    refine J_iln F 2 dX9_held_47 rfl rfl ?_
    refine J_callVv F (As := [.int x2]) (st := []) (C_X9_laysList l G x2  h) (ci := 9) ly_244 (by decide) rfl rfl lm_X9_132 li_X9_laysList ls_X9_laysList ini_X9 lc_X9_laysList hd_X9_laysList (by decide) (Nat.le_of_ble_eq_true rfl) (by decide) rfl dX9_held_48 (fun σ_3 h => ?_)
    refine J_iln F 3 dX9_held_51 rfl rfl ?_
    refine J_case (v := nI 0) (fun c_5 => ?_) (fun c_5 => ?_)
    · have h := h.1 c_5
      refine J_tabIn F (off := 32) (tgt := 84) dX9_held_52 (by decide) (by decide) (by decide) (by decide) ?_
      refine J_aln F 0 dX9_held_84 rfl rfl ?_
      refine J_iln F 1 dX9_held_85 rfl rfl ?_
      refine J_callVi F (As := [.int x1]) (st := []) (C_X9_zonesOf l G x1  h) (ci := 9) ly_244 (by decide) rfl rfl lm_X9_206 li_X9_zonesOf ls_X9_zonesOf ini_X9 lc_X9_zonesOf hd_X9_zonesOf (by decide) (Nat.le_of_ble_eq_true rfl) (by decide) rfl dX9_held_86 (fun r_6 σ_7 hh => ?_)
      clear h
      obtain ⟨e9, h⟩ := hh
      subst σ_7
      exact J_reti F ⟨_, rfl, h⟩ dX9_held_89
    · have h := h.2 c_5
      refine J_case (v := nI 1) (fun c_8 => ?_) (fun c_8 => ?_)
      · have h := h.1 c_8
        refine J_tabIn F (off := 38) (tgt := 90) dX9_held_52 (by decide) (by decide) (by decide) (by decide) ?_
        refine J_aln F 0 dX9_held_90 rfl rfl ?_
        refine J_iln F 1 dX9_held_91 rfl rfl ?_
        refine J_callVi F (As := [.int x1]) (st := []) (C_X9_volumeOf l G x1  h) (ci := 9) ly_244 (by decide) rfl rfl lm_X9_129 li_X9_volumeOf ls_X9_volumeOf ini_X9 lc_X9_volumeOf hd_X9_volumeOf (by decide) (Nat.le_of_ble_eq_true rfl) (by decide) rfl dX9_held_92 (fun r_9 σ_10 hh => ?_)
        clear h
        obtain ⟨e9, h⟩ := hh
        subst σ_10
        exact J_reti F ⟨_, rfl, h⟩ dX9_held_95
      · have h := h.2 c_8
        refine J_case (v := nI 2) (fun c_11 => ?_) (fun c_11 => ?_)
        · have h := h.1 c_11
          refine J_tabIn F (off := 44) (tgt := 96) dX9_held_52 (by decide) (by decide) (by decide) (by decide) ?_
          refine J_aln F 0 dX9_held_96 rfl rfl ?_
          refine J_iln F 1 dX9_held_97 rfl rfl ?_
          refine J_callVi F (As := [.int x1]) (st := []) (C_X9_besideNode l G x1  h) (ci := 9) ly_244 (by decide) rfl rfl lm_X9_364 li_X9_besideNode ls_X9_besideNode ini_X9 lc_X9_besideNode hd_X9_besideNode (by decide) (Nat.le_of_ble_eq_true rfl) (by decide) rfl dX9_held_98 (fun r_12 σ_13 hh => ?_)
          clear h
          obtain ⟨e9, h⟩ := hh
          subst σ_13
          exact J_reti F ⟨_, rfl, h⟩ dX9_held_101
        · have h := h.2 c_11
          refine J_case (v := nI 3) (fun c_14 => ?_) (fun c_14 => ?_)
          · have h := h.1 c_14
            refine J_tabIn F (off := 50) (tgt := 102) dX9_held_52 (by decide) (by decide) (by decide) (by decide) ?_
            refine J_aln F 0 dX9_held_102 rfl rfl ?_
            refine J_iln F 1 dX9_held_103 rfl rfl ?_
            refine J_iln F 2 dX9_held_104 rfl rfl ?_
            refine J_callVi F (As := [.int x1, .int x2]) (st := []) (C_X9_loadOf l G x1 x2  h) (ci := 9) ly_244 (by decide) rfl rfl lm_X9_373 li_X9_loadOf ls_X9_loadOf ini_X9 lc_X9_loadOf hd_X9_loadOf (by decide) (Nat.le_of_ble_eq_true rfl) (by decide) rfl dX9_held_105 (fun r_15 σ_16 h => ?_)
            exact J_reti F ⟨_, rfl, h⟩ dX9_held_108
          · have h := h.2 c_14
            refine J_tabOut F (tgt := 109) dX9_held_52 (tab_out 0 3 (fun k h1 h2 => by rcases (show k = 0 ∨ k = 1 ∨ k = 2 ∨ k = 3 by omega) with rfl | rfl | rfl | rfl <;> assumption)) (by decide) ?_
            refine J_aln F 0 dX9_held_109 rfl rfl ?_
            refine J_callVi F (As := []) (st := []) (C_X9_hubOf l G   h) (ci := 9) ly_244 (by decide) rfl rfl lm_X9_376 li_X9_hubOf ls_X9_hubOf ini_X9 lc_X9_hubOf hd_X9_hubOf (by decide) (Nat.le_of_ble_eq_true rfl) (by decide) rfl dX9_held_110 (fun r_17 σ_18 hh => ?_)
            clear h
            obtain ⟨e9, h⟩ := hh
            subst σ_18
            refine J_iln F 1 dX9_held_113 rfl rfl ?_
            refine J_cne F (tgt := 121) dX9_held_114 (by decide) (fun c_19 => ?_) (fun c_19 => ?_)
            · have h := h.1 c_19
              refine J_ic F dX9_held_121 ki_0 ?_
              exact J_reti F ⟨_, rfl, h⟩ dX9_held_122
            · have h := h.2 c_19
              refine J_ic F dX9_held_117 ki_1 ?_
              refine J_goto F (tgt := 122) dX9_held_118 (by decide) ?_
              exact J_reti F ⟨_, rfl, h⟩ dX9_held_122
  · have h := h.2 c_2
    refine J_ic F dX9_held_44 ki_0 ?_
    exact J_reti F ⟨_, rfl, h⟩ dX9_held_45
set_option maxRecDepth 20000 in
set_option maxHeartbeats 4000000 in
theorem wk_X9_held_16 {p : Program} {l : Launch} {e : Env} {s : State} {m : MethodId} {args : Array Value} {below : List Frame} {meth : Method} {c : Code} {G : Gp} {σ : St} {x1 : Int32} {x2 : Int32} {x3 : Int32}  {Q : Int32 → St → Prop} (F : FX p s m args meth c cX9_held 4 (some .int) RX9 G)   (h : wp_X9_held_16 σ x1 x2 x3 Q) : J p l e (rmF 7 161) s m args below meth c 4 G (MQ below (QQ G (qI Q)) args s 0 0 (fr G)) 0 0 16 [(0, .ref (gb G + 244)), (1, .int x1), (2, .int x2), (3, .int x3)] [.ref (gb G + 244)] σ := by
  unfold wp_X9_held_16 at h
  refine J_ic F dX9_held_16 ki_1 ?_
  refine J_goto F (tgt := 34) dX9_held_17 (by decide) ?_
  exact wk_X9_held_34 F  h
set_option maxRecDepth 20000 in
set_option maxHeartbeats 4000000 in
theorem C_X9_held (l : Launch) (G : Gp) (x1 : Int32) (x2 : Int32) (x3 : Int32)  {σ : St} {Q : Int32 → St → Prop} (h : wp_X9_held σ x1 x2 x3 Q) : Cn l yX9_held cX9_held 4 (some .int) 7 161 G [.ref (gb G + 244), .int x1, .int x2, .int x3] σ (qI Q) := by
  refine Cn_of (L := [(0, .ref (gb G + 244)), (1, .int x1), (2, .int x2), (3, .int x3)]) RX9 (by decide) rfl (Nat.le_of_ble_eq_true rfl) rfl ?_
  intro p e s m below meth c F
  unfold wp_X9_held at h
  refine J_aln F 0 dX9_held_0 rfl rfl ?_
  refine J_iln F 1 dX9_held_1 rfl rfl ?_
  refine J_callSi F (As := [.int x1]) (st := [.ref (gb G + 244)]) (C_X9_isNode l G x1  h) lm_X9_354 li_X9_isNode ini_X9 lc_X9_isNode hd_X9_isNode (by decide) (Nat.le_of_ble_eq_true rfl) (by decide) rfl dX9_held_2 (fun r_20 σ_21 hh => ?_)
  clear h
  obtain ⟨e9, h⟩ := hh
  subst σ_21
  refine J_zeq F (tgt := 16) dX9_held_5 (by decide) (fun c_22 => ?_) (fun c_22 => ?_)
  · have h := h.1 c_22
    exact wk_X9_held_16 F  h
  · have h := h.2 c_22
    refine J_aln F 0 dX9_held_8 rfl rfl ?_
    refine J_iln F 2 dX9_held_9 rfl rfl ?_
    refine J_callVi F (As := [.int x2]) (st := [.ref (gb G + 244)]) (C_X9_isReality l G x2  h) (ci := 9) ly_244 (by decide) rfl rfl lm_X9_370 li_X9_isReality ls_X9_isReality ini_X9 lc_X9_isReality hd_X9_isReality (by decide) (Nat.le_of_ble_eq_true rfl) (by decide) rfl dX9_held_10 (fun r_23 σ_24 hh => ?_)
    clear h
    obtain ⟨e9, h⟩ := hh
    subst σ_24
    refine J_zne F (tgt := 20) dX9_held_13 (by decide) (fun c_25 => ?_) (fun c_25 => ?_)
    · have h := h.1 c_25
      refine J_iln F 3 dX9_held_20 rfl rfl ?_
      refine J_ic F dX9_held_21 ki_0 ?_
      refine J_ic F dX9_held_22 ki_4 ?_
      refine J_callSi F (As := [.int x3, .int (nI 0), .int (nI 4)]) (st := [.ref (gb G + 244)]) (C_X9_isIn l G x3 (nI 0) (nI 4)  h) lm_X9_77 li_X9_isIn ini_X9 lc_X9_isIn hd_X9_isIn (by decide) (Nat.le_of_ble_eq_true rfl) (by decide) rfl dX9_held_23 (fun r_26 σ_27 hh => ?_)
      clear h
      obtain ⟨e9, h⟩ := hh
      subst σ_27
      refine J_zne F (tgt := 33) dX9_held_26 (by decide) (fun c_28 => ?_) (fun c_28 => ?_)
      · have h := h.1 c_28
        refine J_ic F dX9_held_33 ki_0 ?_
        exact wk_X9_held_34 F  h
      · have h := h.2 c_28
        refine J_ic F dX9_held_29 ki_2 ?_
        refine J_goto F (tgt := 34) dX9_held_30 (by decide) ?_
        exact wk_X9_held_34 F  h
    · have h := h.2 c_25
      exact wk_X9_held_16 F  h
theorem dX9_zoneOf_0 : decode cX9_zoneOf 0 = .ok (.iconst 0, 1) := by decide +kernel
theorem dX9_zoneOf_1 : decode cX9_zoneOf 1 = .ok (.istore 4, 2) := by decide +kernel
theorem dX9_zoneOf_3 : decode cX9_zoneOf 3 = .ok (.iconst 1, 1) := by decide +kernel
theorem dX9_zoneOf_4 : decode cX9_zoneOf 4 = .ok (.istore 5, 2) := by decide +kernel
theorem dX9_zoneOf_6 : decode cX9_zoneOf 6 = .ok (.iload 5, 2) := by decide +kernel
theorem dX9_zoneOf_8 : decode cX9_zoneOf 8 = .ok (.sipush 2048, 3) := by decide +kernel
theorem dX9_zoneOf_11 : decode cX9_zoneOf 11 = .ok (.if_icmp .ge 35, 3) := by decide +kernel
theorem dX9_zoneOf_14 : decode cX9_zoneOf 14 = .ok (.aload_n 0, 1) := by decide +kernel
theorem dX9_zoneOf_15 : decode cX9_zoneOf 15 = .ok (.iload_n 2, 1) := by decide +kernel
theorem dX9_zoneOf_16 : decode cX9_zoneOf 16 = .ok (.iload 5, 2) := by decide +kernel
theorem dX9_zoneOf_18 : decode cX9_zoneOf 18 = .ok (.invokevirtual 95, 3) := by decide +kernel
theorem dX9_zoneOf_21 : decode cX9_zoneOf 21 = .ok (.iload_n 1, 1) := by decide +kernel
theorem dX9_zoneOf_22 : decode cX9_zoneOf 22 = .ok (.if_icmp .eq 6, 3) := by decide +kernel
theorem dX9_zoneOf_25 : decode cX9_zoneOf 25 = .ok (.goto 15, 3) := by decide +kernel
theorem dX9_zoneOf_28 : decode cX9_zoneOf 28 = .ok (.iload 4, 2) := by decide +kernel
theorem dX9_zoneOf_30 : decode cX9_zoneOf 30 = .ok (.iload_n 3, 1) := by decide +kernel
theorem dX9_zoneOf_31 : decode cX9_zoneOf 31 = .ok (.if_icmp .ne 6, 3) := by decide +kernel
theorem dX9_zoneOf_34 : decode cX9_zoneOf 34 = .ok (.iload 5, 2) := by decide +kernel
theorem dX9_zoneOf_36 : decode cX9_zoneOf 36 = .ok (.ireturn, 1) := by decide +kernel
theorem dX9_zoneOf_37 : decode cX9_zoneOf 37 = .ok (.iinc 4 1, 3) := by decide +kernel
theorem dX9_zoneOf_40 : decode cX9_zoneOf 40 = .ok (.iinc 5 1, 3) := by decide +kernel
theorem dX9_zoneOf_43 : decode cX9_zoneOf 43 = .ok (.goto (-37), 3) := by decide +kernel
theorem dX9_zoneOf_46 : decode cX9_zoneOf 46 = .ok (.iconst (-1), 1) := by decide +kernel
theorem dX9_zoneOf_47 : decode cX9_zoneOf 47 = .ok (.ireturn, 1) := by decide +kernel
set_option maxRecDepth 20000 in
set_option maxHeartbeats 4000000 in
theorem wk_X9_zoneOf_6 {p : Program} {l : Launch} {e : Env} {s : State} {m : MethodId} {args : Array Value} {below : List Frame} {meth : Method} {c : Code} {G : Gp} {σ : St} {x1 : Int32} {x2 : Int32} {x3 : Int32}  {Q : Int32 → Prop} (F : FX p s m args meth c cX9_zoneOf 6 (some .int) RX9 G)   : ∀ (n9 : Nat) (x4 : Int32) (x5 : Int32), LP2 (wp_X9_zoneOf_6 σ x1 x2 x3 Q) n9 x4 x5 → J p l e (rmF 1 22) s m args below meth c 6 G (MQ below (QQ G (qI (fun r σ' => σ' = σ ∧ Q r))) args s 0 0 (fr G)) 0 0 6 [(0, .ref (gb G + 244)), (1, .int x1), (2, .int x2), (3, .int x3), (4, .int x4), (5, .int x5)] [] σ := by
  intro n9
  induction n9 with
  | zero => intro x4 x5 h; exact h.elim
  | succ n9 i6 =>
    intro x4 x5 h
    have h : wp_X9_zoneOf_6 σ x1 x2 x3 Q (LP2 (wp_X9_zoneOf_6 σ x1 x2 x3 Q) n9) x4 x5 := h
    unfold wp_X9_zoneOf_6 at h
    refine J_il F 5 dX9_zoneOf_6 rfl ?_
    refine J_si F dX9_zoneOf_8 ks_2048 ?_
    refine J_cge F (tgt := 46) dX9_zoneOf_11 (by decide) (fun c_1 => ?_) (fun c_1 => ?_)
    · have h := h.1 c_1
      refine J_ic F dX9_zoneOf_46 ki_m1 ?_
      exact J_reti F ⟨_, rfl, rfl, h⟩ dX9_zoneOf_47
    · have h := h.2 c_1
      refine J_aln F 0 dX9_zoneOf_14 rfl rfl ?_
      refine J_iln F 2 dX9_zoneOf_15 rfl rfl ?_
      refine J_il F 5 dX9_zoneOf_16 rfl ?_
      refine J_callVi F (As := [.int x2, .int x5]) (st := []) (C_X9_ownerOf l G x2 x5  h) (ci := 9) ly_244 (by decide) rfl rfl lm_X9_95 li_X9_ownerOf ls_X9_ownerOf ini_X9 lc_X9_ownerOf hd_X9_ownerOf (by decide) (Nat.le_of_ble_eq_true rfl) (by decide) rfl dX9_zoneOf_18 (fun r_2 σ_3 hh => ?_)
      clear h
      obtain ⟨e9, h⟩ := hh
      subst σ_3
      refine J_iln F 1 dX9_zoneOf_21 rfl rfl ?_
      refine J_ceq F (tgt := 28) dX9_zoneOf_22 (by decide) (fun c_4 => ?_) (fun c_4 => ?_)
      · have h := h.1 c_4
        refine J_il F 4 dX9_zoneOf_28 rfl ?_
        refine J_iln F 3 dX9_zoneOf_30 rfl rfl ?_
        refine J_cne F (tgt := 37) dX9_zoneOf_31 (by decide) (fun c_5 => ?_) (fun c_5 => ?_)
        · have h := h.1 c_5
          obtain ⟨x4_6, ex4_6⟩ : ∃ z : Int32, z = x4 + (nI 1) := ⟨_, rfl⟩
          have h := h x4_6 ex4_6
          refine J_iinc F (v := x4_6) (L' := [(4, .int x4_6), (0, .ref (gb G + 244)), (1, .int x1), (2, .int x2), (3, .int x3), (5, .int x5)]) 4 dX9_zoneOf_37 rfl (by rw [ki_1, ex4_6]) (by decide) rfl ?_
          obtain ⟨x5_7, ex5_7⟩ : ∃ z : Int32, z = x5 + (nI 1) := ⟨_, rfl⟩
          have h := h x5_7 ex5_7
          refine J_iinc F (v := x5_7) (L' := [(5, .int x5_7), (4, .int x4_6), (0, .ref (gb G + 244)), (1, .int x1), (2, .int x2), (3, .int x3)]) 5 dX9_zoneOf_40 rfl (by rw [ki_1, ex5_7]) (by decide) rfl ?_
          refine J_goto F (tgt := 6) dX9_zoneOf_43 (by decide) ?_
          refine J_sub [2, 3, 4, 5, 1, 0] rfl ?_
          exact i6 _ _ h
        · have h := h.2 c_5
          refine J_il F 5 dX9_zoneOf_34 rfl ?_
          exact J_reti F ⟨_, rfl, rfl, h⟩ dX9_zoneOf_36
      · have h := h.2 c_4
        refine J_goto F (tgt := 40) dX9_zoneOf_25 (by decide) ?_
        obtain ⟨x5_8, ex5_8⟩ : ∃ z : Int32, z = x5 + (nI 1) := ⟨_, rfl⟩
        have h := h x5_8 ex5_8
        refine J_iinc F (v := x5_8) (L' := [(5, .int x5_8), (0, .ref (gb G + 244)), (1, .int x1), (2, .int x2), (3, .int x3), (4, .int x4)]) 5 dX9_zoneOf_40 rfl (by rw [ki_1, ex5_8]) (by decide) rfl ?_
        refine J_goto F (tgt := 6) dX9_zoneOf_43 (by decide) ?_
        refine J_sub [1, 2, 3, 4, 5, 0] rfl ?_
        exact i6 _ _ h
set_option maxRecDepth 20000 in
set_option maxHeartbeats 4000000 in
theorem C_X9_zoneOf (l : Launch) (G : Gp) (x1 : Int32) (x2 : Int32) (x3 : Int32)  {σ : St} {Q : Int32 → Prop} (h : wp_X9_zoneOf σ x1 x2 x3 Q) : Cn l yX9_zoneOf cX9_zoneOf 6 (some .int) 1 22 G [.ref (gb G + 244), .int x1, .int x2, .int x3] σ (qI (fun r σ' => σ' = σ ∧ Q r)) := by
  refine Cn_of (L := [(0, .ref (gb G + 244)), (1, .int x1), (2, .int x2), (3, .int x3)]) RX9 (by decide) rfl (Nat.le_of_ble_eq_true rfl) rfl ?_
  intro p e s m below meth c F
  unfold wp_X9_zoneOf at h
  refine J_ic F dX9_zoneOf_0 ki_0 ?_
  refine J_is F (L' := [(4, .int (nI 0)), (0, .ref (gb G + 244)), (1, .int x1), (2, .int x2), (3, .int x3)]) dX9_zoneOf_1 (by decide) rfl ?_
  refine J_ic F dX9_zoneOf_3 ki_1 ?_
  refine J_is F (L' := [(5, .int (nI 1)), (4, .int (nI 0)), (0, .ref (gb G + 244)), (1, .int x1), (2, .int x2), (3, .int x3)]) dX9_zoneOf_4 (by decide) rfl ?_
  refine J_sub [2, 3, 4, 5, 1, 0] rfl ?_
  obtain ⟨n9, h⟩ := h
  exact wk_X9_zoneOf_6 F  n9 _ _ h
theorem dX9_zone_0 : decode cX9_zone 0 = .ok (.aload_n 0, 1) := by decide +kernel
theorem dX9_zone_1 : decode cX9_zone 1 = .ok (.iload_n 1, 1) := by decide +kernel
theorem dX9_zone_2 : decode cX9_zone 2 = .ok (.invokestatic 354, 3) := by decide +kernel
theorem dX9_zone_5 : decode cX9_zone 5 = .ok (.ifCond .eq 15, 3) := by decide +kernel
theorem dX9_zone_8 : decode cX9_zone 8 = .ok (.aload_n 0, 1) := by decide +kernel
theorem dX9_zone_9 : decode cX9_zone 9 = .ok (.iload_n 2, 1) := by decide +kernel
theorem dX9_zone_10 : decode cX9_zone 10 = .ok (.invokevirtual 370, 3) := by decide +kernel
theorem dX9_zone_13 : decode cX9_zone 13 = .ok (.ifCond .eq 7, 3) := by decide +kernel
theorem dX9_zone_16 : decode cX9_zone 16 = .ok (.iconst 0, 1) := by decide +kernel
theorem dX9_zone_17 : decode cX9_zone 17 = .ok (.goto 4, 3) := by decide +kernel
theorem dX9_zone_20 : decode cX9_zone 20 = .ok (.iconst 1, 1) := by decide +kernel
theorem dX9_zone_21 : decode cX9_zone 21 = .ok (.putfield 54, 3) := by decide +kernel
theorem dX9_zone_24 : decode cX9_zone 24 = .ok (.aload_n 0, 1) := by decide +kernel
theorem dX9_zone_25 : decode cX9_zone 25 = .ok (.getfield 54, 3) := by decide +kernel
theorem dX9_zone_28 : decode cX9_zone 28 = .ok (.ifCond .le 7, 3) := by decide +kernel
theorem dX9_zone_31 : decode cX9_zone 31 = .ok (.iconst 0, 1) := by decide +kernel
theorem dX9_zone_32 : decode cX9_zone 32 = .ok (.goto 10, 3) := by decide +kernel
theorem dX9_zone_35 : decode cX9_zone 35 = .ok (.aload_n 0, 1) := by decide +kernel
theorem dX9_zone_36 : decode cX9_zone 36 = .ok (.iload_n 1, 1) := by decide +kernel
theorem dX9_zone_37 : decode cX9_zone 37 = .ok (.iload_n 2, 1) := by decide +kernel
theorem dX9_zone_38 : decode cX9_zone 38 = .ok (.iload_n 3, 1) := by decide +kernel
theorem dX9_zone_39 : decode cX9_zone 39 = .ok (.invokevirtual 379, 3) := by decide +kernel
theorem dX9_zone_42 : decode cX9_zone 42 = .ok (.ireturn, 1) := by decide +kernel
set_option maxRecDepth 20000 in
set_option maxHeartbeats 4000000 in
theorem wk_X9_zone_21 {p : Program} {l : Launch} {e : Env} {s : State} {m : MethodId} {args : Array Value} {below : List Frame} {meth : Method} {c : Code} {G : Gp} {σ : St} {x1 : Int32} {x2 : Int32} {x3 : Int32} {t1 : Int32}  {Q : Int32 → St → Prop} (F : FX p s m args meth c cX9_zone 4 (some .int) RX9 G)   (h : wp_X9_zone_21 σ x1 x2 x3 t1 Q) : J p l e (rmF 2 47) s m args below meth c 4 G (MQ below (QQ G (qI Q)) args s 0 0 (fr G)) 0 0 21 [(0, .ref (gb G + 244)), (1, .int x1), (2, .int x2), (3, .int x3)] [.int t1, .ref (gb G + 244)] σ := by
  unfold wp_X9_zone_21 at h
  refine J_pfi F (ci := 9) 0 rfl inX9 tyX9 tyX9_ok nmX9 ly_244 (by decide) (by decide) rfl lf_X9_54 rfl rfl (tyX9_ok 0 (by decide)) rfl rfl dX9_zone_21 ?_
  refine J_st (fun σ_1 eσ_1 => ?_)
  have h := h σ_1 eσ_1
  refine J_aln F 0 dX9_zone_24 rfl rfl ?_
  refine J_gfi F (ci := 9) 0 rfl inX9 ly_244 (by decide) (by decide) rfl lf_X9_54 rfl dX9_zone_25 ?_
  refine J_zle F (tgt := 35) dX9_zone_28 (by decide) (fun c_2 => ?_) (fun c_2 => ?_)
  · have h := h.1 c_2
    refine J_aln F 0 dX9_zone_35 rfl rfl ?_
    refine J_iln F 1 dX9_zone_36 rfl rfl ?_
    refine J_iln F 2 dX9_zone_37 rfl rfl ?_
    refine J_iln F 3 dX9_zone_38 rfl rfl ?_
    refine J_callVi F (As := [.int x1, .int x2, .int x3]) (st := []) (C_X9_zoneOf l G x1 x2 x3  h) (ci := 9) ly_244 (by decide) rfl rfl lm_X9_379 li_X9_zoneOf ls_X9_zoneOf ini_X9 lc_X9_zoneOf hd_X9_zoneOf (by decide) (Nat.le_of_ble_eq_true rfl) (by decide) rfl dX9_zone_39 (fun r_3 σ_4 hh => ?_)
    clear h
    obtain ⟨e9, h⟩ := hh
    subst σ_4
    exact J_reti F ⟨_, rfl, h⟩ dX9_zone_42
  · have h := h.2 c_2
    refine J_ic F dX9_zone_31 ki_0 ?_
    refine J_goto F (tgt := 42) dX9_zone_32 (by decide) ?_
    exact J_reti F ⟨_, rfl, h⟩ dX9_zone_42
set_option maxRecDepth 20000 in
set_option maxHeartbeats 4000000 in
theorem wk_X9_zone_20 {p : Program} {l : Launch} {e : Env} {s : State} {m : MethodId} {args : Array Value} {below : List Frame} {meth : Method} {c : Code} {G : Gp} {σ : St} {x1 : Int32} {x2 : Int32} {x3 : Int32}  {Q : Int32 → St → Prop} (F : FX p s m args meth c cX9_zone 4 (some .int) RX9 G)   (h : wp_X9_zone_20 σ x1 x2 x3 Q) : J p l e (rmF 2 47) s m args below meth c 4 G (MQ below (QQ G (qI Q)) args s 0 0 (fr G)) 0 0 20 [(0, .ref (gb G + 244)), (1, .int x1), (2, .int x2), (3, .int x3)] [.ref (gb G + 244)] σ := by
  unfold wp_X9_zone_20 at h
  refine J_ic F dX9_zone_20 ki_1 ?_
  exact wk_X9_zone_21 F  h
set_option maxRecDepth 20000 in
set_option maxHeartbeats 4000000 in
theorem C_X9_zone (l : Launch) (G : Gp) (x1 : Int32) (x2 : Int32) (x3 : Int32)  {σ : St} {Q : Int32 → St → Prop} (h : wp_X9_zone σ x1 x2 x3 Q) : Cn l yX9_zone cX9_zone 4 (some .int) 2 47 G [.ref (gb G + 244), .int x1, .int x2, .int x3] σ (qI Q) := by
  refine Cn_of (L := [(0, .ref (gb G + 244)), (1, .int x1), (2, .int x2), (3, .int x3)]) RX9 (by decide) rfl (Nat.le_of_ble_eq_true rfl) rfl ?_
  intro p e s m below meth c F
  unfold wp_X9_zone at h
  refine J_aln F 0 dX9_zone_0 rfl rfl ?_
  refine J_iln F 1 dX9_zone_1 rfl rfl ?_
  refine J_callSi F (As := [.int x1]) (st := [.ref (gb G + 244)]) (C_X9_isNode l G x1  h) lm_X9_354 li_X9_isNode ini_X9 lc_X9_isNode hd_X9_isNode (by decide) (Nat.le_of_ble_eq_true rfl) (by decide) rfl dX9_zone_2 (fun r_5 σ_6 hh => ?_)
  clear h
  obtain ⟨e9, h⟩ := hh
  subst σ_6
  refine J_zeq F (tgt := 20) dX9_zone_5 (by decide) (fun c_7 => ?_) (fun c_7 => ?_)
  · have h := h.1 c_7
    exact wk_X9_zone_20 F  h
  · have h := h.2 c_7
    refine J_aln F 0 dX9_zone_8 rfl rfl ?_
    refine J_iln F 2 dX9_zone_9 rfl rfl ?_
    refine J_callVi F (As := [.int x2]) (st := [.ref (gb G + 244)]) (C_X9_isReality l G x2  h) (ci := 9) ly_244 (by decide) rfl rfl lm_X9_370 li_X9_isReality ls_X9_isReality ini_X9 lc_X9_isReality hd_X9_isReality (by decide) (Nat.le_of_ble_eq_true rfl) (by decide) rfl dX9_zone_10 (fun r_8 σ_9 hh => ?_)
    clear h
    obtain ⟨e9, h⟩ := hh
    subst σ_9
    refine J_zeq F (tgt := 20) dX9_zone_13 (by decide) (fun c_10 => ?_) (fun c_10 => ?_)
    · have h := h.1 c_10
      exact wk_X9_zone_20 F  h
    · have h := h.2 c_10
      refine J_ic F dX9_zone_16 ki_0 ?_
      refine J_goto F (tgt := 21) dX9_zone_17 (by decide) ?_
      exact wk_X9_zone_21 F  h
theorem dX9_box_0 : decode cX9_box 0 = .ok (.aload_n 0, 1) := by decide +kernel
theorem dX9_box_1 : decode cX9_box 1 = .ok (.iload_n 1, 1) := by decide +kernel
theorem dX9_box_2 : decode cX9_box 2 = .ok (.iconst 1, 1) := by decide +kernel
theorem dX9_box_3 : decode cX9_box 3 = .ok (.sipush 2047, 3) := by decide +kernel
theorem dX9_box_6 : decode cX9_box 6 = .ok (.invokestatic 77, 3) := by decide +kernel
theorem dX9_box_9 : decode cX9_box 9 = .ok (.ifCond .ne 7, 3) := by decide +kernel
theorem dX9_box_12 : decode cX9_box 12 = .ok (.iconst 1, 1) := by decide +kernel
theorem dX9_box_13 : decode cX9_box 13 = .ok (.goto 17, 3) := by decide +kernel
theorem dX9_box_16 : decode cX9_box 16 = .ok (.iload_n 2, 1) := by decide +kernel
theorem dX9_box_17 : decode cX9_box 17 = .ok (.iconst 0, 1) := by decide +kernel
theorem dX9_box_18 : decode cX9_box 18 = .ok (.iconst 4, 1) := by decide +kernel
theorem dX9_box_19 : decode cX9_box 19 = .ok (.invokestatic 77, 3) := by decide +kernel
theorem dX9_box_22 : decode cX9_box 22 = .ok (.ifCond .ne 7, 3) := by decide +kernel
theorem dX9_box_25 : decode cX9_box 25 = .ok (.iconst 2, 1) := by decide +kernel
theorem dX9_box_26 : decode cX9_box 26 = .ok (.goto 4, 3) := by decide +kernel
theorem dX9_box_29 : decode cX9_box 29 = .ok (.iconst 0, 1) := by decide +kernel
theorem dX9_box_30 : decode cX9_box 30 = .ok (.putfield 54, 3) := by decide +kernel
theorem dX9_box_33 : decode cX9_box 33 = .ok (.aload_n 0, 1) := by decide +kernel
theorem dX9_box_34 : decode cX9_box 34 = .ok (.getfield 54, 3) := by decide +kernel
theorem dX9_box_37 : decode cX9_box 37 = .ok (.ifCond .le 5, 3) := by decide +kernel
theorem dX9_box_40 : decode cX9_box 40 = .ok (.iconst 0, 1) := by decide +kernel
theorem dX9_box_41 : decode cX9_box 41 = .ok (.ireturn, 1) := by decide +kernel
theorem dX9_box_42 : decode cX9_box 42 = .ok (.aload_n 0, 1) := by decide +kernel
theorem dX9_box_43 : decode cX9_box 43 = .ok (.iload_n 1, 1) := by decide +kernel
theorem dX9_box_44 : decode cX9_box 44 = .ok (.invokevirtual 85, 3) := by decide +kernel
theorem dX9_box_47 : decode cX9_box 47 = .ok (.iload_n 2, 1) := by decide +kernel
theorem dX9_box_48 : decode cX9_box 48 = .ok (.tableswitch 52 0 3 #[32, 37, 42, 47], 32) := by decide +kernel
theorem dX9_box_80 : decode cX9_box 80 = .ok (.iload_n 1, 1) := by decide +kernel
theorem dX9_box_81 : decode cX9_box 81 = .ok (.invokestatic 73, 3) := by decide +kernel
theorem dX9_box_84 : decode cX9_box 84 = .ok (.ireturn, 1) := by decide +kernel
theorem dX9_box_85 : decode cX9_box 85 = .ok (.aload_n 0, 1) := by decide +kernel
theorem dX9_box_86 : decode cX9_box 86 = .ok (.getfield 61, 3) := by decide +kernel
theorem dX9_box_89 : decode cX9_box 89 = .ok (.ireturn, 1) := by decide +kernel
theorem dX9_box_90 : decode cX9_box 90 = .ok (.aload_n 0, 1) := by decide +kernel
theorem dX9_box_91 : decode cX9_box 91 = .ok (.getfield 64, 3) := by decide +kernel
theorem dX9_box_94 : decode cX9_box 94 = .ok (.ireturn, 1) := by decide +kernel
theorem dX9_box_95 : decode cX9_box 95 = .ok (.aload_n 0, 1) := by decide +kernel
theorem dX9_box_96 : decode cX9_box 96 = .ok (.getfield 67, 3) := by decide +kernel
theorem dX9_box_99 : decode cX9_box 99 = .ok (.ireturn, 1) := by decide +kernel
theorem dX9_box_100 : decode cX9_box 100 = .ok (.aload_n 0, 1) := by decide +kernel
theorem dX9_box_101 : decode cX9_box 101 = .ok (.getfield 70, 3) := by decide +kernel
theorem dX9_box_104 : decode cX9_box 104 = .ok (.ireturn, 1) := by decide +kernel
set_option maxRecDepth 20000 in
set_option maxHeartbeats 4000000 in
theorem wk_X9_box_30 {p : Program} {l : Launch} {e : Env} {s : State} {m : MethodId} {args : Array Value} {below : List Frame} {meth : Method} {c : Code} {G : Gp} {σ : St} {x1 : Int32} {x2 : Int32} {t1 : Int32}  {Q : Int32 → St → Prop} (F : FX p s m args meth c cX9_box 3 (some .int) RX9 G)   (h : wp_X9_box_30 σ x1 x2 t1 Q) : J p l e (rmF 2 44) s m args below meth c 3 G (MQ below (QQ G (qI Q)) args s 0 0 (fr G)) 0 0 30 [(0, .ref (gb G + 244)), (1, .int x1), (2, .int x2)] [.int t1, .ref (gb G + 244)] σ := by
  unfold wp_X9_box_30 at h
  refine J_pfi F (ci := 9) 0 rfl inX9 tyX9 tyX9_ok nmX9 ly_244 (by decide) (by decide) rfl lf_X9_54 rfl rfl (tyX9_ok 0 (by decide)) rfl rfl dX9_box_30 ?_
  refine J_st (fun σ_1 eσ_1 => ?_)
  have h := h σ_1 eσ_1
  refine J_aln F 0 dX9_box_33 rfl rfl ?_
  refine J_gfi F (ci := 9) 0 rfl inX9 ly_244 (by decide) (by decide) rfl lf_X9_54 rfl dX9_box_34 ?_
  refine J_zle F (tgt := 42) dX9_box_37 (by decide) (fun c_2 => ?_) (fun c_2 => ?_)
  · have h := h.1 c_2
    refine J_aln F 0 dX9_box_42 rfl rfl ?_
    refine J_iln F 1 dX9_box_43 rfl rfl ?_
    refine J_callVv F (As := [.int x1]) (st := []) (C_X9_boxes l G x1  h) (ci := 9) ly_244 (by decide) rfl rfl lm_X9_85 li_X9_boxes ls_X9_boxes ini_X9 lc_X9_boxes hd_X9_boxes (by decide) (Nat.le_of_ble_eq_true rfl) (by decide) rfl dX9_box_44 (fun σ_3 h => ?_)
    refine J_iln F 2 dX9_box_47 rfl rfl ?_
    refine J_case (v := nI 0) (fun c_5 => ?_) (fun c_5 => ?_)
    · have h := h.1 c_5
      refine J_tabIn F (off := 32) (tgt := 80) dX9_box_48 (by decide) (by decide) (by decide) (by decide) ?_
      refine J_iln F 1 dX9_box_80 rfl rfl ?_
      refine J_callSi F (As := [.int x1]) (st := []) (C_X9_depthOf l G x1  h) lm_X9_73 li_X9_depthOf ini_X9 lc_X9_depthOf hd_X9_depthOf (by decide) (Nat.le_of_ble_eq_true rfl) (by decide) rfl dX9_box_81 (fun r_6 σ_7 hh => ?_)
      clear h
      obtain ⟨e9, h⟩ := hh
      subst σ_7
      exact J_reti F ⟨_, rfl, h⟩ dX9_box_84
    · have h := h.2 c_5
      refine J_case (v := nI 1) (fun c_8 => ?_) (fun c_8 => ?_)
      · have h := h.1 c_8
        refine J_tabIn F (off := 37) (tgt := 85) dX9_box_48 (by decide) (by decide) (by decide) (by decide) ?_
        refine J_aln F 0 dX9_box_85 rfl rfl ?_
        refine J_gfi F (ci := 9) 13 rfl inX9 ly_244 (by decide) (by decide) rfl lf_X9_61 rfl dX9_box_86 ?_
        exact J_reti F ⟨_, rfl, h⟩ dX9_box_89
      · have h := h.2 c_8
        refine J_case (v := nI 2) (fun c_9 => ?_) (fun c_9 => ?_)
        · have h := h.1 c_9
          refine J_tabIn F (off := 42) (tgt := 90) dX9_box_48 (by decide) (by decide) (by decide) (by decide) ?_
          refine J_aln F 0 dX9_box_90 rfl rfl ?_
          refine J_gfi F (ci := 9) 14 rfl inX9 ly_244 (by decide) (by decide) rfl lf_X9_64 rfl dX9_box_91 ?_
          exact J_reti F ⟨_, rfl, h⟩ dX9_box_94
        · have h := h.2 c_9
          refine J_case (v := nI 3) (fun c_10 => ?_) (fun c_10 => ?_)
          · have h := h.1 c_10
            refine J_tabIn F (off := 47) (tgt := 95) dX9_box_48 (by decide) (by decide) (by decide) (by decide) ?_
            refine J_aln F 0 dX9_box_95 rfl rfl ?_
            refine J_gfi F (ci := 9) 15 rfl inX9 ly_244 (by decide) (by decide) rfl lf_X9_67 rfl dX9_box_96 ?_
            exact J_reti F ⟨_, rfl, h⟩ dX9_box_99
          · have h := h.2 c_10
            refine J_tabOut F (tgt := 100) dX9_box_48 (tab_out 0 3 (fun k h1 h2 => by rcases (show k = 0 ∨ k = 1 ∨ k = 2 ∨ k = 3 by omega) with rfl | rfl | rfl | rfl <;> assumption)) (by decide) ?_
            refine J_aln F 0 dX9_box_100 rfl rfl ?_
            refine J_gfi F (ci := 9) 16 rfl inX9 ly_244 (by decide) (by decide) rfl lf_X9_70 rfl dX9_box_101 ?_
            exact J_reti F ⟨_, rfl, h⟩ dX9_box_104
  · have h := h.2 c_2
    refine J_ic F dX9_box_40 ki_0 ?_
    exact J_reti F ⟨_, rfl, h⟩ dX9_box_41
set_option maxRecDepth 20000 in
set_option maxHeartbeats 4000000 in
theorem C_X9_box (l : Launch) (G : Gp) (x1 : Int32) (x2 : Int32)  {σ : St} {Q : Int32 → St → Prop} (h : wp_X9_box σ x1 x2 Q) : Cn l yX9_box cX9_box 3 (some .int) 2 44 G [.ref (gb G + 244), .int x1, .int x2] σ (qI Q) := by
  refine Cn_of (L := [(0, .ref (gb G + 244)), (1, .int x1), (2, .int x2)]) RX9 (by decide) rfl (Nat.le_of_ble_eq_true rfl) rfl ?_
  intro p e s m below meth c F
  unfold wp_X9_box at h
  refine J_aln F 0 dX9_box_0 rfl rfl ?_
  refine J_iln F 1 dX9_box_1 rfl rfl ?_
  refine J_ic F dX9_box_2 ki_1 ?_
  refine J_si F dX9_box_3 ks_2047 ?_
  refine J_callSi F (As := [.int x1, .int (nI 1), .int (nI 2047)]) (st := [.ref (gb G + 244)]) (C_X9_isIn l G x1 (nI 1) (nI 2047)  h) lm_X9_77 li_X9_isIn ini_X9 lc_X9_isIn hd_X9_isIn (by decide) (Nat.le_of_ble_eq_true rfl) (by decide) rfl dX9_box_6 (fun r_11 σ_12 hh => ?_)
  clear h
  obtain ⟨e9, h⟩ := hh
  subst σ_12
  refine J_zne F (tgt := 16) dX9_box_9 (by decide) (fun c_13 => ?_) (fun c_13 => ?_)
  · have h := h.1 c_13
    refine J_iln F 2 dX9_box_16 rfl rfl ?_
    refine J_ic F dX9_box_17 ki_0 ?_
    refine J_ic F dX9_box_18 ki_4 ?_
    refine J_callSi F (As := [.int x2, .int (nI 0), .int (nI 4)]) (st := [.ref (gb G + 244)]) (C_X9_isIn l G x2 (nI 0) (nI 4)  h) lm_X9_77 li_X9_isIn ini_X9 lc_X9_isIn hd_X9_isIn (by decide) (Nat.le_of_ble_eq_true rfl) (by decide) rfl dX9_box_19 (fun r_14 σ_15 hh => ?_)
    clear h
    obtain ⟨e9, h⟩ := hh
    subst σ_15
    refine J_zne F (tgt := 29) dX9_box_22 (by decide) (fun c_16 => ?_) (fun c_16 => ?_)
    · have h := h.1 c_16
      refine J_ic F dX9_box_29 ki_0 ?_
      exact wk_X9_box_30 F  h
    · have h := h.2 c_16
      refine J_ic F dX9_box_25 ki_2 ?_
      refine J_goto F (tgt := 30) dX9_box_26 (by decide) ?_
      exact wk_X9_box_30 F  h
  · have h := h.2 c_13
    refine J_ic F dX9_box_12 ki_1 ?_
    refine J_goto F (tgt := 30) dX9_box_13 (by decide) ?_
    exact wk_X9_box_30 F  h
theorem dX9_cell_0 : decode cX9_cell 0 = .ok (.aload_n 0, 1) := by decide +kernel
theorem dX9_cell_1 : decode cX9_cell 1 = .ok (.aload_n 0, 1) := by decide +kernel
theorem dX9_cell_2 : decode cX9_cell 2 = .ok (.iload_n 1, 1) := by decide +kernel
theorem dX9_cell_3 : decode cX9_cell 3 = .ok (.invokevirtual 370, 3) := by decide +kernel
theorem dX9_cell_6 : decode cX9_cell 6 = .ok (.ifCond .ne 7, 3) := by decide +kernel
theorem dX9_cell_9 : decode cX9_cell 9 = .ok (.iconst 1, 1) := by decide +kernel
theorem dX9_cell_10 : decode cX9_cell 10 = .ok (.goto 30, 3) := by decide +kernel
theorem dX9_cell_13 : decode cX9_cell 13 = .ok (.iload_n 2, 1) := by decide +kernel
theorem dX9_cell_14 : decode cX9_cell 14 = .ok (.iload_n 3, 1) := by decide +kernel
theorem dX9_cell_15 : decode cX9_cell 15 = .ok (.invokestatic 339, 3) := by decide +kernel
theorem dX9_cell_18 : decode cX9_cell 18 = .ok (.ifCond .ne 7, 3) := by decide +kernel
theorem dX9_cell_21 : decode cX9_cell 21 = .ok (.iconst 2, 1) := by decide +kernel
theorem dX9_cell_22 : decode cX9_cell 22 = .ok (.goto 18, 3) := by decide +kernel
theorem dX9_cell_25 : decode cX9_cell 25 = .ok (.iload 4, 2) := by decide +kernel
theorem dX9_cell_27 : decode cX9_cell 27 = .ok (.iconst 0, 1) := by decide +kernel
theorem dX9_cell_28 : decode cX9_cell 28 = .ok (.iconst 1, 1) := by decide +kernel
theorem dX9_cell_29 : decode cX9_cell 29 = .ok (.invokestatic 77, 3) := by decide +kernel
theorem dX9_cell_32 : decode cX9_cell 32 = .ok (.ifCond .ne 7, 3) := by decide +kernel
theorem dX9_cell_35 : decode cX9_cell 35 = .ok (.iconst 3, 1) := by decide +kernel
theorem dX9_cell_36 : decode cX9_cell 36 = .ok (.goto 4, 3) := by decide +kernel
theorem dX9_cell_39 : decode cX9_cell 39 = .ok (.iconst 0, 1) := by decide +kernel
theorem dX9_cell_40 : decode cX9_cell 40 = .ok (.putfield 54, 3) := by decide +kernel
theorem dX9_cell_43 : decode cX9_cell 43 = .ok (.aload_n 0, 1) := by decide +kernel
theorem dX9_cell_44 : decode cX9_cell 44 = .ok (.getfield 54, 3) := by decide +kernel
theorem dX9_cell_47 : decode cX9_cell 47 = .ok (.ifCond .le 5, 3) := by decide +kernel
theorem dX9_cell_50 : decode cX9_cell 50 = .ok (.iconst 0, 1) := by decide +kernel
theorem dX9_cell_51 : decode cX9_cell 51 = .ok (.ireturn, 1) := by decide +kernel
theorem dX9_cell_52 : decode cX9_cell 52 = .ok (.iload 4, 2) := by decide +kernel
theorem dX9_cell_54 : decode cX9_cell 54 = .ok (.ifCond .ne 13, 3) := by decide +kernel
theorem dX9_cell_57 : decode cX9_cell 57 = .ok (.aload_n 0, 1) := by decide +kernel
theorem dX9_cell_58 : decode cX9_cell 58 = .ok (.iload_n 1, 1) := by decide +kernel
theorem dX9_cell_59 : decode cX9_cell 59 = .ok (.iload_n 2, 1) := by decide +kernel
theorem dX9_cell_60 : decode cX9_cell 60 = .ok (.iload_n 3, 1) := by decide +kernel
theorem dX9_cell_61 : decode cX9_cell 61 = .ok (.invokevirtual 102, 3) := by decide +kernel
theorem dX9_cell_64 : decode cX9_cell 64 = .ok (.goto 10, 3) := by decide +kernel
theorem dX9_cell_67 : decode cX9_cell 67 = .ok (.aload_n 0, 1) := by decide +kernel
theorem dX9_cell_68 : decode cX9_cell 68 = .ok (.iload_n 1, 1) := by decide +kernel
theorem dX9_cell_69 : decode cX9_cell 69 = .ok (.iload_n 2, 1) := by decide +kernel
theorem dX9_cell_70 : decode cX9_cell 70 = .ok (.iload_n 3, 1) := by decide +kernel
theorem dX9_cell_71 : decode cX9_cell 71 = .ok (.invokevirtual 162, 3) := by decide +kernel
theorem dX9_cell_74 : decode cX9_cell 74 = .ok (.ireturn, 1) := by decide +kernel
set_option maxRecDepth 20000 in
set_option maxHeartbeats 4000000 in
theorem wk_X9_cell_40 {p : Program} {l : Launch} {e : Env} {s : State} {m : MethodId} {args : Array Value} {below : List Frame} {meth : Method} {c : Code} {G : Gp} {σ : St} {x1 : Int32} {x2 : Int32} {x3 : Int32} {x4 : Int32} {t1 : Int32}  {Q : Int32 → St → Prop} (F : FX p s m args meth c cX9_cell 5 (some .int) RX9 G)   (h : wp_X9_cell_40 σ x1 x2 x3 x4 t1 Q) : J p l e (rmF 5 115) s m args below meth c 5 G (MQ below (QQ G (qI Q)) args s 0 0 (fr G)) 0 0 40 [(0, .ref (gb G + 244)), (1, .int x1), (2, .int x2), (3, .int x3), (4, .int x4)] [.int t1, .ref (gb G + 244)] σ := by
  unfold wp_X9_cell_40 at h
  refine J_pfi F (ci := 9) 0 rfl inX9 tyX9 tyX9_ok nmX9 ly_244 (by decide) (by decide) rfl lf_X9_54 rfl rfl (tyX9_ok 0 (by decide)) rfl rfl dX9_cell_40 ?_
  refine J_st (fun σ_1 eσ_1 => ?_)
  have h := h σ_1 eσ_1
  refine J_aln F 0 dX9_cell_43 rfl rfl ?_
  refine J_gfi F (ci := 9) 0 rfl inX9 ly_244 (by decide) (by decide) rfl lf_X9_54 rfl dX9_cell_44 ?_
  refine J_zle F (tgt := 52) dX9_cell_47 (by decide) (fun c_2 => ?_) (fun c_2 => ?_)
  · have h := h.1 c_2
    refine J_il F 4 dX9_cell_52 rfl ?_
    refine J_zne F (tgt := 67) dX9_cell_54 (by decide) (fun c_3 => ?_) (fun c_3 => ?_)
    · have h := h.1 c_3
      refine J_aln F 0 dX9_cell_67 rfl rfl ?_
      refine J_iln F 1 dX9_cell_68 rfl rfl ?_
      refine J_iln F 2 dX9_cell_69 rfl rfl ?_
      refine J_iln F 3 dX9_cell_70 rfl rfl ?_
      refine J_callVi F (As := [.int x1, .int x2, .int x3]) (st := []) (C_X9_nodeAt l G x1 x2 x3  h) (ci := 9) ly_244 (by decide) rfl rfl lm_X9_162 li_X9_nodeAt ls_X9_nodeAt ini_X9 lc_X9_nodeAt hd_X9_nodeAt (by decide) (Nat.le_of_ble_eq_true rfl) (by decide) rfl dX9_cell_71 (fun r_4 σ_5 h => ?_)
      exact J_reti F ⟨_, rfl, h⟩ dX9_cell_74
    · have h := h.2 c_3
      refine J_aln F 0 dX9_cell_57 rfl rfl ?_
      refine J_iln F 1 dX9_cell_58 rfl rfl ?_
      refine J_iln F 2 dX9_cell_59 rfl rfl ?_
      refine J_iln F 3 dX9_cell_60 rfl rfl ?_
      refine J_callVi F (As := [.int x1, .int x2, .int x3]) (st := []) (C_X9_zoneAt l G x1 x2 x3  h) (ci := 9) ly_244 (by decide) rfl rfl lm_X9_102 li_X9_zoneAt ls_X9_zoneAt ini_X9 lc_X9_zoneAt hd_X9_zoneAt (by decide) (Nat.le_of_ble_eq_true rfl) (by decide) rfl dX9_cell_61 (fun r_6 σ_7 h => ?_)
      refine J_goto F (tgt := 74) dX9_cell_64 (by decide) ?_
      exact J_reti F ⟨_, rfl, h⟩ dX9_cell_74
  · have h := h.2 c_2
    refine J_ic F dX9_cell_50 ki_0 ?_
    exact J_reti F ⟨_, rfl, h⟩ dX9_cell_51
set_option maxRecDepth 20000 in
set_option maxHeartbeats 4000000 in
theorem C_X9_cell (l : Launch) (G : Gp) (x1 : Int32) (x2 : Int32) (x3 : Int32) (x4 : Int32)  {σ : St} {Q : Int32 → St → Prop} (h : wp_X9_cell σ x1 x2 x3 x4 Q) : Cn l yX9_cell cX9_cell 5 (some .int) 5 115 G [.ref (gb G + 244), .int x1, .int x2, .int x3, .int x4] σ (qI Q) := by
  refine Cn_of (L := [(0, .ref (gb G + 244)), (1, .int x1), (2, .int x2), (3, .int x3), (4, .int x4)]) RX9 (by decide) rfl (Nat.le_of_ble_eq_true rfl) rfl ?_
  intro p e s m below meth c F
  unfold wp_X9_cell at h
  refine J_aln F 0 dX9_cell_0 rfl rfl ?_
  refine J_aln F 0 dX9_cell_1 rfl rfl ?_
  refine J_iln F 1 dX9_cell_2 rfl rfl ?_
  refine J_callVi F (As := [.int x1]) (st := [.ref (gb G + 244)]) (C_X9_isReality l G x1  h) (ci := 9) ly_244 (by decide) rfl rfl lm_X9_370 li_X9_isReality ls_X9_isReality ini_X9 lc_X9_isReality hd_X9_isReality (by decide) (Nat.le_of_ble_eq_true rfl) (by decide) rfl dX9_cell_3 (fun r_8 σ_9 hh => ?_)
  clear h
  obtain ⟨e9, h⟩ := hh
  subst σ_9
  refine J_zne F (tgt := 13) dX9_cell_6 (by decide) (fun c_10 => ?_) (fun c_10 => ?_)
  · have h := h.1 c_10
    refine J_iln F 2 dX9_cell_13 rfl rfl ?_
    refine J_iln F 3 dX9_cell_14 rfl rfl ?_
    refine J_callSi F (As := [.int x2, .int x3]) (st := [.ref (gb G + 244)]) (C_X9_isCell l G x2 x3  h) lm_X9_339 li_X9_isCell ini_X9 lc_X9_isCell hd_X9_isCell (by decide) (Nat.le_of_ble_eq_true rfl) (by decide) rfl dX9_cell_15 (fun r_11 σ_12 hh => ?_)
    clear h
    obtain ⟨e9, h⟩ := hh
    subst σ_12
    refine J_zne F (tgt := 25) dX9_cell_18 (by decide) (fun c_13 => ?_) (fun c_13 => ?_)
    · have h := h.1 c_13
      refine J_il F 4 dX9_cell_25 rfl ?_
      refine J_ic F dX9_cell_27 ki_0 ?_
      refine J_ic F dX9_cell_28 ki_1 ?_
      refine J_callSi F (As := [.int x4, .int (nI 0), .int (nI 1)]) (st := [.ref (gb G + 244)]) (C_X9_isIn l G x4 (nI 0) (nI 1)  h) lm_X9_77 li_X9_isIn ini_X9 lc_X9_isIn hd_X9_isIn (by decide) (Nat.le_of_ble_eq_true rfl) (by decide) rfl dX9_cell_29 (fun r_14 σ_15 hh => ?_)
      clear h
      obtain ⟨e9, h⟩ := hh
      subst σ_15
      refine J_zne F (tgt := 39) dX9_cell_32 (by decide) (fun c_16 => ?_) (fun c_16 => ?_)
      · have h := h.1 c_16
        refine J_ic F dX9_cell_39 ki_0 ?_
        exact wk_X9_cell_40 F  h
      · have h := h.2 c_16
        refine J_ic F dX9_cell_35 ki_3 ?_
        refine J_goto F (tgt := 40) dX9_cell_36 (by decide) ?_
        exact wk_X9_cell_40 F  h
    · have h := h.2 c_13
      refine J_ic F dX9_cell_21 ki_2 ?_
      refine J_goto F (tgt := 40) dX9_cell_22 (by decide) ?_
      exact wk_X9_cell_40 F  h
  · have h := h.2 c_10
    refine J_ic F dX9_cell_9 ki_1 ?_
    refine J_goto F (tgt := 40) dX9_cell_10 (by decide) ?_
    exact wk_X9_cell_40 F  h
theorem dX9_heir_0 : decode cX9_heir 0 = .ok (.aload_n 0, 1) := by decide +kernel
theorem dX9_heir_1 : decode cX9_heir 1 = .ok (.iload_n 1, 1) := by decide +kernel
theorem dX9_heir_2 : decode cX9_heir 2 = .ok (.invokestatic 354, 3) := by decide +kernel
theorem dX9_heir_5 : decode cX9_heir 5 = .ok (.ifCond .eq 15, 3) := by decide +kernel
theorem dX9_heir_8 : decode cX9_heir 8 = .ok (.aload_n 0, 1) := by decide +kernel
theorem dX9_heir_9 : decode cX9_heir 9 = .ok (.iload_n 2, 1) := by decide +kernel
theorem dX9_heir_10 : decode cX9_heir 10 = .ok (.invokevirtual 370, 3) := by decide +kernel
theorem dX9_heir_13 : decode cX9_heir 13 = .ok (.ifCond .eq 7, 3) := by decide +kernel
theorem dX9_heir_16 : decode cX9_heir 16 = .ok (.iconst 0, 1) := by decide +kernel
theorem dX9_heir_17 : decode cX9_heir 17 = .ok (.goto 4, 3) := by decide +kernel
theorem dX9_heir_20 : decode cX9_heir 20 = .ok (.iconst 1, 1) := by decide +kernel
theorem dX9_heir_21 : decode cX9_heir 21 = .ok (.putfield 54, 3) := by decide +kernel
theorem dX9_heir_24 : decode cX9_heir 24 = .ok (.aload_n 0, 1) := by decide +kernel
theorem dX9_heir_25 : decode cX9_heir 25 = .ok (.getfield 54, 3) := by decide +kernel
theorem dX9_heir_28 : decode cX9_heir 28 = .ok (.ifCond .le 5, 3) := by decide +kernel
theorem dX9_heir_31 : decode cX9_heir 31 = .ok (.iconst 0, 1) := by decide +kernel
theorem dX9_heir_32 : decode cX9_heir 32 = .ok (.ireturn, 1) := by decide +kernel
theorem dX9_heir_33 : decode cX9_heir 33 = .ok (.aload_n 0, 1) := by decide +kernel
theorem dX9_heir_34 : decode cX9_heir 34 = .ok (.iload_n 1, 1) := by decide +kernel
theorem dX9_heir_35 : decode cX9_heir 35 = .ok (.iload_n 2, 1) := by decide +kernel
theorem dX9_heir_36 : decode cX9_heir 36 = .ok (.iload_n 3, 1) := by decide +kernel
theorem dX9_heir_37 : decode cX9_heir 37 = .ok (.invokevirtual 379, 3) := by decide +kernel
theorem dX9_heir_40 : decode cX9_heir 40 = .ok (.istore 4, 2) := by decide +kernel
theorem dX9_heir_42 : decode cX9_heir 42 = .ok (.iload 4, 2) := by decide +kernel
theorem dX9_heir_44 : decode cX9_heir 44 = .ok (.iconst (-1), 1) := by decide +kernel
theorem dX9_heir_45 : decode cX9_heir 45 = .ok (.if_icmp .ne 7, 3) := by decide +kernel
theorem dX9_heir_48 : decode cX9_heir 48 = .ok (.iconst (-1), 1) := by decide +kernel
theorem dX9_heir_49 : decode cX9_heir 49 = .ok (.goto 11, 3) := by decide +kernel
theorem dX9_heir_52 : decode cX9_heir 52 = .ok (.aload_n 0, 1) := by decide +kernel
theorem dX9_heir_53 : decode cX9_heir 53 = .ok (.iload_n 2, 1) := by decide +kernel
theorem dX9_heir_54 : decode cX9_heir 54 = .ok (.iload 4, 2) := by decide +kernel
theorem dX9_heir_56 : decode cX9_heir 56 = .ok (.iload_n 1, 1) := by decide +kernel
theorem dX9_heir_57 : decode cX9_heir 57 = .ok (.invokevirtual 144, 3) := by decide +kernel
theorem dX9_heir_60 : decode cX9_heir 60 = .ok (.ireturn, 1) := by decide +kernel
set_option maxRecDepth 20000 in
set_option maxHeartbeats 4000000 in
theorem wk_X9_heir_21 {p : Program} {l : Launch} {e : Env} {s : State} {m : MethodId} {args : Array Value} {below : List Frame} {meth : Method} {c : Code} {G : Gp} {σ : St} {x1 : Int32} {x2 : Int32} {x3 : Int32} {t1 : Int32}  {Q : Int32 → St → Prop} (F : FX p s m args meth c cX9_heir 5 (some .int) RX9 G)   (h : wp_X9_heir_21 σ x1 x2 x3 t1 Q) : J p l e (rmF 4 96) s m args below meth c 5 G (MQ below (QQ G (qI Q)) args s 0 0 (fr G)) 0 0 21 [(0, .ref (gb G + 244)), (1, .int x1), (2, .int x2), (3, .int x3)] [.int t1, .ref (gb G + 244)] σ := by
  unfold wp_X9_heir_21 at h
  refine J_pfi F (ci := 9) 0 rfl inX9 tyX9 tyX9_ok nmX9 ly_244 (by decide) (by decide) rfl lf_X9_54 rfl rfl (tyX9_ok 0 (by decide)) rfl rfl dX9_heir_21 ?_
  refine J_st (fun σ_1 eσ_1 => ?_)
  have h := h σ_1 eσ_1
  refine J_aln F 0 dX9_heir_24 rfl rfl ?_
  refine J_gfi F (ci := 9) 0 rfl inX9 ly_244 (by decide) (by decide) rfl lf_X9_54 rfl dX9_heir_25 ?_
  refine J_zle F (tgt := 33) dX9_heir_28 (by decide) (fun c_2 => ?_) (fun c_2 => ?_)
  · have h := h.1 c_2
    refine J_aln F 0 dX9_heir_33 rfl rfl ?_
    refine J_iln F 1 dX9_heir_34 rfl rfl ?_
    refine J_iln F 2 dX9_heir_35 rfl rfl ?_
    refine J_iln F 3 dX9_heir_36 rfl rfl ?_
    refine J_callVi F (As := [.int x1, .int x2, .int x3]) (st := []) (C_X9_zoneOf l G x1 x2 x3  h) (ci := 9) ly_244 (by decide) rfl rfl lm_X9_379 li_X9_zoneOf ls_X9_zoneOf ini_X9 lc_X9_zoneOf hd_X9_zoneOf (by decide) (Nat.le_of_ble_eq_true rfl) (by decide) rfl dX9_heir_37 (fun r_3 σ_4 hh => ?_)
    clear h
    obtain ⟨e9, h⟩ := hh
    subst σ_4
    refine J_is F (L' := [(4, .int r_3), (0, .ref (gb G + 244)), (1, .int x1), (2, .int x2), (3, .int x3)]) dX9_heir_40 (by decide) rfl ?_
    refine J_il F 0 dX9_heir_42 rfl ?_
    refine J_ic F dX9_heir_44 ki_m1 ?_
    refine J_cne F (tgt := 52) dX9_heir_45 (by decide) (fun c_5 => ?_) (fun c_5 => ?_)
    · have h := h.1 c_5
      refine J_aln F 1 dX9_heir_52 rfl rfl ?_
      refine J_iln F 3 dX9_heir_53 rfl rfl ?_
      refine J_il F 0 dX9_heir_54 rfl ?_
      refine J_iln F 2 dX9_heir_56 rfl rfl ?_
      refine J_callVi F (As := [.int x2, .int r_3, .int x1]) (st := []) (C_X9_heirOf l G x2 r_3 x1  h) (ci := 9) ly_244 (by decide) rfl rfl lm_X9_144 li_X9_heirOf ls_X9_heirOf ini_X9 lc_X9_heirOf hd_X9_heirOf (by decide) (Nat.le_of_ble_eq_true rfl) (by decide) rfl dX9_heir_57 (fun r_6 σ_7 h => ?_)
      exact J_reti F ⟨_, rfl, h⟩ dX9_heir_60
    · have h := h.2 c_5
      refine J_ic F dX9_heir_48 ki_m1 ?_
      refine J_goto F (tgt := 60) dX9_heir_49 (by decide) ?_
      exact J_reti F ⟨_, rfl, h⟩ dX9_heir_60
  · have h := h.2 c_2
    refine J_ic F dX9_heir_31 ki_0 ?_
    exact J_reti F ⟨_, rfl, h⟩ dX9_heir_32
set_option maxRecDepth 20000 in
set_option maxHeartbeats 4000000 in
theorem wk_X9_heir_20 {p : Program} {l : Launch} {e : Env} {s : State} {m : MethodId} {args : Array Value} {below : List Frame} {meth : Method} {c : Code} {G : Gp} {σ : St} {x1 : Int32} {x2 : Int32} {x3 : Int32}  {Q : Int32 → St → Prop} (F : FX p s m args meth c cX9_heir 5 (some .int) RX9 G)   (h : wp_X9_heir_20 σ x1 x2 x3 Q) : J p l e (rmF 4 96) s m args below meth c 5 G (MQ below (QQ G (qI Q)) args s 0 0 (fr G)) 0 0 20 [(0, .ref (gb G + 244)), (1, .int x1), (2, .int x2), (3, .int x3)] [.ref (gb G + 244)] σ := by
  unfold wp_X9_heir_20 at h
  refine J_ic F dX9_heir_20 ki_1 ?_
  exact wk_X9_heir_21 F  h
set_option maxRecDepth 20000 in
set_option maxHeartbeats 4000000 in
theorem C_X9_heir (l : Launch) (G : Gp) (x1 : Int32) (x2 : Int32) (x3 : Int32)  {σ : St} {Q : Int32 → St → Prop} (h : wp_X9_heir σ x1 x2 x3 Q) : Cn l yX9_heir cX9_heir 5 (some .int) 4 96 G [.ref (gb G + 244), .int x1, .int x2, .int x3] σ (qI Q) := by
  refine Cn_of (L := [(0, .ref (gb G + 244)), (1, .int x1), (2, .int x2), (3, .int x3)]) RX9 (by decide) rfl (Nat.le_of_ble_eq_true rfl) rfl ?_
  intro p e s m below meth c F
  unfold wp_X9_heir at h
  refine J_aln F 0 dX9_heir_0 rfl rfl ?_
  refine J_iln F 1 dX9_heir_1 rfl rfl ?_
  refine J_callSi F (As := [.int x1]) (st := [.ref (gb G + 244)]) (C_X9_isNode l G x1  h) lm_X9_354 li_X9_isNode ini_X9 lc_X9_isNode hd_X9_isNode (by decide) (Nat.le_of_ble_eq_true rfl) (by decide) rfl dX9_heir_2 (fun r_8 σ_9 hh => ?_)
  clear h
  obtain ⟨e9, h⟩ := hh
  subst σ_9
  refine J_zeq F (tgt := 20) dX9_heir_5 (by decide) (fun c_10 => ?_) (fun c_10 => ?_)
  · have h := h.1 c_10
    exact wk_X9_heir_20 F  h
  · have h := h.2 c_10
    refine J_aln F 0 dX9_heir_8 rfl rfl ?_
    refine J_iln F 2 dX9_heir_9 rfl rfl ?_
    refine J_callVi F (As := [.int x2]) (st := [.ref (gb G + 244)]) (C_X9_isReality l G x2  h) (ci := 9) ly_244 (by decide) rfl rfl lm_X9_370 li_X9_isReality ls_X9_isReality ini_X9 lc_X9_isReality hd_X9_isReality (by decide) (Nat.le_of_ble_eq_true rfl) (by decide) rfl dX9_heir_10 (fun r_11 σ_12 hh => ?_)
    clear h
    obtain ⟨e9, h⟩ := hh
    subst σ_12
    refine J_zeq F (tgt := 20) dX9_heir_13 (by decide) (fun c_13 => ?_) (fun c_13 => ?_)
    · have h := h.1 c_13
      exact wk_X9_heir_20 F  h
    · have h := h.2 c_13
      refine J_ic F dX9_heir_16 ki_0 ?_
      refine J_goto F (tgt := 21) dX9_heir_17 (by decide) ?_
      exact wk_X9_heir_21 F  h
theorem dX9_key_0 : decode cX9_key 0 = .ok (.aload_n 0, 1) := by decide +kernel
theorem dX9_key_1 : decode cX9_key 1 = .ok (.iload_n 1, 1) := by decide +kernel
theorem dX9_key_2 : decode cX9_key 2 = .ok (.invokestatic 361, 3) := by decide +kernel
theorem dX9_key_5 : decode cX9_key 5 = .ok (.ifCond .ne 7, 3) := by decide +kernel
theorem dX9_key_8 : decode cX9_key 8 = .ok (.iconst 1, 1) := by decide +kernel
theorem dX9_key_9 : decode cX9_key 9 = .ok (.goto 17, 3) := by decide +kernel
theorem dX9_key_12 : decode cX9_key 12 = .ok (.iload_n 2, 1) := by decide +kernel
theorem dX9_key_13 : decode cX9_key 13 = .ok (.iconst 0, 1) := by decide +kernel
theorem dX9_key_14 : decode cX9_key 14 = .ok (.iconst 1, 1) := by decide +kernel
theorem dX9_key_15 : decode cX9_key 15 = .ok (.invokestatic 77, 3) := by decide +kernel
theorem dX9_key_18 : decode cX9_key 18 = .ok (.ifCond .ne 7, 3) := by decide +kernel
theorem dX9_key_21 : decode cX9_key 21 = .ok (.iconst 2, 1) := by decide +kernel
theorem dX9_key_22 : decode cX9_key 22 = .ok (.goto 4, 3) := by decide +kernel
theorem dX9_key_25 : decode cX9_key 25 = .ok (.iconst 0, 1) := by decide +kernel
theorem dX9_key_26 : decode cX9_key 26 = .ok (.putfield 54, 3) := by decide +kernel
theorem dX9_key_29 : decode cX9_key 29 = .ok (.aload_n 0, 1) := by decide +kernel
theorem dX9_key_30 : decode cX9_key 30 = .ok (.getfield 54, 3) := by decide +kernel
theorem dX9_key_33 : decode cX9_key 33 = .ok (.ifCond .le 5, 3) := by decide +kernel
theorem dX9_key_36 : decode cX9_key 36 = .ok (.iconst 0, 1) := by decide +kernel
theorem dX9_key_37 : decode cX9_key 37 = .ok (.ireturn, 1) := by decide +kernel
theorem dX9_key_38 : decode cX9_key 38 = .ok (.iload_n 2, 1) := by decide +kernel
theorem dX9_key_39 : decode cX9_key 39 = .ok (.iconst 1, 1) := by decide +kernel
theorem dX9_key_40 : decode cX9_key 40 = .ok (.if_icmp .ne 9, 3) := by decide +kernel
theorem dX9_key_43 : decode cX9_key 43 = .ok (.aload_n 0, 1) := by decide +kernel
theorem dX9_key_44 : decode cX9_key 44 = .ok (.iload_n 1, 1) := by decide +kernel
theorem dX9_key_45 : decode cX9_key 45 = .ok (.invokevirtual 227, 3) := by decide +kernel
theorem dX9_key_48 : decode cX9_key 48 = .ok (.ireturn, 1) := by decide +kernel
theorem dX9_key_49 : decode cX9_key 49 = .ok (.aload_n 0, 1) := by decide +kernel
theorem dX9_key_50 : decode cX9_key 50 = .ok (.getfield 7, 3) := by decide +kernel
theorem dX9_key_53 : decode cX9_key 53 = .ok (.bipush 38, 2) := by decide +kernel
theorem dX9_key_55 : decode cX9_key 55 = .ok (.iload_n 1, 1) := by decide +kernel
theorem dX9_key_56 : decode cX9_key 56 = .ok (.iadd, 1) := by decide +kernel
theorem dX9_key_57 : decode cX9_key 57 = .ok (.iaload, 1) := by decide +kernel
theorem dX9_key_58 : decode cX9_key 58 = .ok (.iconst 1, 1) := by decide +kernel
theorem dX9_key_59 : decode cX9_key 59 = .ok (.if_icmp .ne 16, 3) := by decide +kernel
theorem dX9_key_62 : decode cX9_key 62 = .ok (.aload_n 0, 1) := by decide +kernel
theorem dX9_key_63 : decode cX9_key 63 = .ok (.getfield 7, 3) := by decide +kernel
theorem dX9_key_66 : decode cX9_key 66 = .ok (.sipush 138, 3) := by decide +kernel
theorem dX9_key_69 : decode cX9_key 69 = .ok (.iload_n 1, 1) := by decide +kernel
theorem dX9_key_70 : decode cX9_key 70 = .ok (.iadd, 1) := by decide +kernel
theorem dX9_key_71 : decode cX9_key 71 = .ok (.iaload, 1) := by decide +kernel
theorem dX9_key_72 : decode cX9_key 72 = .ok (.goto 4, 3) := by decide +kernel
theorem dX9_key_75 : decode cX9_key 75 = .ok (.iconst (-1), 1) := by decide +kernel
theorem dX9_key_76 : decode cX9_key 76 = .ok (.ireturn, 1) := by decide +kernel
set_option maxRecDepth 20000 in
set_option maxHeartbeats 4000000 in
theorem wk_X9_key_26 {p : Program} {l : Launch} {e : Env} {s : State} {m : MethodId} {args : Array Value} {below : List Frame} {meth : Method} {c : Code} {G : Gp} {σ : St} {x1 : Int32} {x2 : Int32} {t1 : Int32}  {Q : Int32 → St → Prop} (F : FX p s m args meth c cX9_key 3 (some .int) RX9 G)   (h : wp_X9_key_26 σ x1 x2 t1 Q) : J p l e (rmF 2 45) s m args below meth c 3 G (MQ below (QQ G (qI Q)) args s 0 0 (fr G)) 0 0 26 [(0, .ref (gb G + 244)), (1, .int x1), (2, .int x2)] [.int t1, .ref (gb G + 244)] σ := by
  unfold wp_X9_key_26 at h
  refine J_pfi F (ci := 9) 0 rfl inX9 tyX9 tyX9_ok nmX9 ly_244 (by decide) (by decide) rfl lf_X9_54 rfl rfl (tyX9_ok 0 (by decide)) rfl rfl dX9_key_26 ?_
  refine J_st (fun σ_1 eσ_1 => ?_)
  have h := h σ_1 eσ_1
  refine J_aln F 0 dX9_key_29 rfl rfl ?_
  refine J_gfi F (ci := 9) 0 rfl inX9 ly_244 (by decide) (by decide) rfl lf_X9_54 rfl dX9_key_30 ?_
  refine J_zle F (tgt := 38) dX9_key_33 (by decide) (fun c_2 => ?_) (fun c_2 => ?_)
  · have h := h.1 c_2
    refine J_iln F 2 dX9_key_38 rfl rfl ?_
    refine J_ic F dX9_key_39 ki_1 ?_
    refine J_cne F (tgt := 49) dX9_key_40 (by decide) (fun c_3 => ?_) (fun c_3 => ?_)
    · have h := h.1 c_3
      refine J_aln F 0 dX9_key_49 rfl rfl ?_
      refine J_gfa F (ci := 9) 1 rfl inX9 ly_244 (by decide) (by decide) rfl lf_X9_7 rfl dX9_key_50 ?_
      refine J_bi F dX9_key_53 kb_38 ?_
      refine J_iln F 1 dX9_key_55 rfl rfl ?_
      refine J_iadd F dX9_key_56 ?_
      obtain ⟨h_4, h⟩ := h
      refine J_iald F ly_245 h_4 dX9_key_57 ?_
      refine J_ic F dX9_key_58 ki_1 ?_
      refine J_cne F (tgt := 75) dX9_key_59 (by decide) (fun c_5 => ?_) (fun c_5 => ?_)
      · have h := h.1 c_5
        refine J_ic F dX9_key_75 ki_m1 ?_
        exact J_reti F ⟨_, rfl, h⟩ dX9_key_76
      · have h := h.2 c_5
        refine J_aln F 0 dX9_key_62 rfl rfl ?_
        refine J_gfa F (ci := 9) 1 rfl inX9 ly_244 (by decide) (by decide) rfl lf_X9_7 rfl dX9_key_63 ?_
        refine J_si F dX9_key_66 ks_138 ?_
        refine J_iln F 1 dX9_key_69 rfl rfl ?_
        refine J_iadd F dX9_key_70 ?_
        obtain ⟨h_6, h⟩ := h
        refine J_iald F ly_245 h_6 dX9_key_71 ?_
        refine J_goto F (tgt := 76) dX9_key_72 (by decide) ?_
        exact J_reti F ⟨_, rfl, h⟩ dX9_key_76
    · have h := h.2 c_3
      refine J_aln F 0 dX9_key_43 rfl rfl ?_
      refine J_iln F 1 dX9_key_44 rfl rfl ?_
      refine J_callVi F (As := [.int x1]) (st := []) (C_X9_heldIn l G x1  h) (ci := 9) ly_244 (by decide) rfl rfl lm_X9_227 li_X9_heldIn ls_X9_heldIn ini_X9 lc_X9_heldIn hd_X9_heldIn (by decide) (Nat.le_of_ble_eq_true rfl) (by decide) rfl dX9_key_45 (fun r_7 σ_8 hh => ?_)
      clear h
      obtain ⟨e9, h⟩ := hh
      subst σ_8
      exact J_reti F ⟨_, rfl, h⟩ dX9_key_48
  · have h := h.2 c_2
    refine J_ic F dX9_key_36 ki_0 ?_
    exact J_reti F ⟨_, rfl, h⟩ dX9_key_37
set_option maxRecDepth 20000 in
set_option maxHeartbeats 4000000 in
theorem C_X9_key (l : Launch) (G : Gp) (x1 : Int32) (x2 : Int32)  {σ : St} {Q : Int32 → St → Prop} (h : wp_X9_key σ x1 x2 Q) : Cn l yX9_key cX9_key 3 (some .int) 2 45 G [.ref (gb G + 244), .int x1, .int x2] σ (qI Q) := by
  refine Cn_of (L := [(0, .ref (gb G + 244)), (1, .int x1), (2, .int x2)]) RX9 (by decide) rfl (Nat.le_of_ble_eq_true rfl) rfl ?_
  intro p e s m below meth c F
  unfold wp_X9_key at h
  refine J_aln F 0 dX9_key_0 rfl rfl ?_
  refine J_iln F 1 dX9_key_1 rfl rfl ?_
  refine J_callSi F (As := [.int x1]) (st := [.ref (gb G + 244)]) (C_X9_isKey l G x1  h) lm_X9_361 li_X9_isKey ini_X9 lc_X9_isKey hd_X9_isKey (by decide) (Nat.le_of_ble_eq_true rfl) (by decide) rfl dX9_key_2 (fun r_9 σ_10 hh => ?_)
  clear h
  obtain ⟨e9, h⟩ := hh
  subst σ_10
  refine J_zne F (tgt := 12) dX9_key_5 (by decide) (fun c_11 => ?_) (fun c_11 => ?_)
  · have h := h.1 c_11
    refine J_iln F 2 dX9_key_12 rfl rfl ?_
    refine J_ic F dX9_key_13 ki_0 ?_
    refine J_ic F dX9_key_14 ki_1 ?_
    refine J_callSi F (As := [.int x2, .int (nI 0), .int (nI 1)]) (st := [.ref (gb G + 244)]) (C_X9_isIn l G x2 (nI 0) (nI 1)  h) lm_X9_77 li_X9_isIn ini_X9 lc_X9_isIn hd_X9_isIn (by decide) (Nat.le_of_ble_eq_true rfl) (by decide) rfl dX9_key_15 (fun r_12 σ_13 hh => ?_)
    clear h
    obtain ⟨e9, h⟩ := hh
    subst σ_13
    refine J_zne F (tgt := 25) dX9_key_18 (by decide) (fun c_14 => ?_) (fun c_14 => ?_)
    · have h := h.1 c_14
      refine J_ic F dX9_key_25 ki_0 ?_
      exact wk_X9_key_26 F  h
    · have h := h.2 c_14
      refine J_ic F dX9_key_21 ki_2 ?_
      refine J_goto F (tgt := 26) dX9_key_22 (by decide) ?_
      exact wk_X9_key_26 F  h
  · have h := h.2 c_11
    refine J_ic F dX9_key_8 ki_1 ?_
    refine J_goto F (tgt := 26) dX9_key_9 (by decide) ?_
    exact wk_X9_key_26 F  h
theorem dX9_point_0 : decode cX9_point 0 = .ok (.aload_n 0, 1) := by decide +kernel
theorem dX9_point_1 : decode cX9_point 1 = .ok (.iload_n 1, 1) := by decide +kernel
theorem dX9_point_2 : decode cX9_point 2 = .ok (.invokestatic 361, 3) := by decide +kernel
theorem dX9_point_5 : decode cX9_point 5 = .ok (.ifCond .eq 11, 3) := by decide +kernel
theorem dX9_point_8 : decode cX9_point 8 = .ok (.aload_n 0, 1) := by decide +kernel
theorem dX9_point_9 : decode cX9_point 9 = .ok (.iload_n 2, 1) := by decide +kernel
theorem dX9_point_10 : decode cX9_point 10 = .ok (.invokevirtual 370, 3) := by decide +kernel
theorem dX9_point_13 : decode cX9_point 13 = .ok (.ifCond .ne 7, 3) := by decide +kernel
theorem dX9_point_16 : decode cX9_point 16 = .ok (.iconst 1, 1) := by decide +kernel
theorem dX9_point_17 : decode cX9_point 17 = .ok (.goto 17, 3) := by decide +kernel
theorem dX9_point_20 : decode cX9_point 20 = .ok (.iload_n 3, 1) := by decide +kernel
theorem dX9_point_21 : decode cX9_point 21 = .ok (.iconst 0, 1) := by decide +kernel
theorem dX9_point_22 : decode cX9_point 22 = .ok (.iconst 2, 1) := by decide +kernel
theorem dX9_point_23 : decode cX9_point 23 = .ok (.invokestatic 77, 3) := by decide +kernel
theorem dX9_point_26 : decode cX9_point 26 = .ok (.ifCond .ne 7, 3) := by decide +kernel
theorem dX9_point_29 : decode cX9_point 29 = .ok (.iconst 2, 1) := by decide +kernel
theorem dX9_point_30 : decode cX9_point 30 = .ok (.goto 4, 3) := by decide +kernel
theorem dX9_point_33 : decode cX9_point 33 = .ok (.iconst 0, 1) := by decide +kernel
theorem dX9_point_34 : decode cX9_point 34 = .ok (.putfield 54, 3) := by decide +kernel
theorem dX9_point_37 : decode cX9_point 37 = .ok (.aload_n 0, 1) := by decide +kernel
theorem dX9_point_38 : decode cX9_point 38 = .ok (.getfield 54, 3) := by decide +kernel
theorem dX9_point_41 : decode cX9_point 41 = .ok (.ifCond .le 5, 3) := by decide +kernel
theorem dX9_point_44 : decode cX9_point 44 = .ok (.iconst 0, 1) := by decide +kernel
theorem dX9_point_45 : decode cX9_point 45 = .ok (.ireturn, 1) := by decide +kernel
theorem dX9_point_46 : decode cX9_point 46 = .ok (.iload_n 3, 1) := by decide +kernel
theorem dX9_point_47 : decode cX9_point 47 = .ok (.lookupswitch 37 #[(0, 25), (1, 31)], 25) := by decide +kernel
theorem dX9_point_72 : decode cX9_point 72 = .ok (.iload_n 1, 1) := by decide +kernel
theorem dX9_point_73 : decode cX9_point 73 = .ok (.iload_n 2, 1) := by decide +kernel
theorem dX9_point_74 : decode cX9_point 74 = .ok (.invokestatic 156, 3) := by decide +kernel
theorem dX9_point_77 : decode cX9_point 77 = .ok (.ireturn, 1) := by decide +kernel
theorem dX9_point_78 : decode cX9_point 78 = .ok (.iload_n 1, 1) := by decide +kernel
theorem dX9_point_79 : decode cX9_point 79 = .ok (.iload_n 2, 1) := by decide +kernel
theorem dX9_point_80 : decode cX9_point 80 = .ok (.invokestatic 159, 3) := by decide +kernel
theorem dX9_point_83 : decode cX9_point 83 = .ok (.ireturn, 1) := by decide +kernel
theorem dX9_point_84 : decode cX9_point 84 = .ok (.aload_n 0, 1) := by decide +kernel
theorem dX9_point_85 : decode cX9_point 85 = .ok (.iload_n 1, 1) := by decide +kernel
theorem dX9_point_86 : decode cX9_point 86 = .ok (.iload_n 2, 1) := by decide +kernel
theorem dX9_point_87 : decode cX9_point 87 = .ok (.invokevirtual 168, 3) := by decide +kernel
theorem dX9_point_90 : decode cX9_point 90 = .ok (.ireturn, 1) := by decide +kernel
set_option maxRecDepth 20000 in
set_option maxHeartbeats 4000000 in
theorem wk_X9_point_34 {p : Program} {l : Launch} {e : Env} {s : State} {m : MethodId} {args : Array Value} {below : List Frame} {meth : Method} {c : Code} {G : Gp} {σ : St} {x1 : Int32} {x2 : Int32} {x3 : Int32} {t1 : Int32}  {Q : Int32 → St → Prop} (F : FX p s m args meth c cX9_point 4 (some .int) RX9 G)   (h : wp_X9_point_34 σ x1 x2 x3 t1 Q) : J p l e (rmF 6 137) s m args below meth c 4 G (MQ below (QQ G (qI Q)) args s 0 0 (fr G)) 0 0 34 [(0, .ref (gb G + 244)), (1, .int x1), (2, .int x2), (3, .int x3)] [.int t1, .ref (gb G + 244)] σ := by
  unfold wp_X9_point_34 at h
  refine J_pfi F (ci := 9) 0 rfl inX9 tyX9 tyX9_ok nmX9 ly_244 (by decide) (by decide) rfl lf_X9_54 rfl rfl (tyX9_ok 0 (by decide)) rfl rfl dX9_point_34 ?_
  refine J_st (fun σ_1 eσ_1 => ?_)
  have h := h σ_1 eσ_1
  refine J_aln F 0 dX9_point_37 rfl rfl ?_
  refine J_gfi F (ci := 9) 0 rfl inX9 ly_244 (by decide) (by decide) rfl lf_X9_54 rfl dX9_point_38 ?_
  refine J_zle F (tgt := 46) dX9_point_41 (by decide) (fun c_2 => ?_) (fun c_2 => ?_)
  · have h := h.1 c_2
    refine J_iln F 3 dX9_point_46 rfl rfl ?_
    refine J_case (v := nI 0) (fun c_3 => ?_) (fun c_3 => ?_)
    · have h := h.1 c_3
      refine J_look F (off := 25) (tgt := 72) dX9_point_47 (by decide) (by decide) (by decide) ?_
      refine J_iln F 1 dX9_point_72 rfl rfl ?_
      refine J_iln F 2 dX9_point_73 rfl rfl ?_
      refine J_callSi F (As := [.int x1, .int x2]) (st := []) (C_X9_pointX l G x1 x2  h) lm_X9_156 li_X9_pointX ini_X9 lc_X9_pointX hd_X9_pointX (by decide) (Nat.le_of_ble_eq_true rfl) (by decide) rfl dX9_point_74 (fun r_4 σ_5 hh => ?_)
      clear h
      obtain ⟨e9, h⟩ := hh
      subst σ_5
      exact J_reti F ⟨_, rfl, h⟩ dX9_point_77
    · have h := h.2 c_3
      refine J_case (v := nI 1) (fun c_6 => ?_) (fun c_6 => ?_)
      · have h := h.1 c_6
        refine J_look F (off := 31) (tgt := 78) dX9_point_47 (by decide) (by decide) (by decide) ?_
        refine J_iln F 1 dX9_point_78 rfl rfl ?_
        refine J_iln F 2 dX9_point_79 rfl rfl ?_
        refine J_callSi F (As := [.int x1, .int x2]) (st := []) (C_X9_pointY l G x1 x2  h) lm_X9_159 li_X9_pointY ini_X9 lc_X9_pointY hd_X9_pointY (by decide) (Nat.le_of_ble_eq_true rfl) (by decide) rfl dX9_point_80 (fun r_7 σ_8 hh => ?_)
        clear h
        obtain ⟨e9, h⟩ := hh
        subst σ_8
        exact J_reti F ⟨_, rfl, h⟩ dX9_point_83
      · have h := h.2 c_6
        refine J_look F (off := 37) (tgt := 84) dX9_point_47 (by decide) (look_out2 c_3 c_6) (by decide) ?_
        refine J_aln F 0 dX9_point_84 rfl rfl ?_
        refine J_iln F 1 dX9_point_85 rfl rfl ?_
        refine J_iln F 2 dX9_point_86 rfl rfl ?_
        refine J_callVi F (As := [.int x1, .int x2]) (st := []) (C_X9_keeperOf l G x1 x2  h) (ci := 9) ly_244 (by decide) rfl rfl lm_X9_168 li_X9_keeperOf ls_X9_keeperOf ini_X9 lc_X9_keeperOf hd_X9_keeperOf (by decide) (Nat.le_of_ble_eq_true rfl) (by decide) rfl dX9_point_87 (fun r_9 σ_10 h => ?_)
        exact J_reti F ⟨_, rfl, h⟩ dX9_point_90
  · have h := h.2 c_2
    refine J_ic F dX9_point_44 ki_0 ?_
    exact J_reti F ⟨_, rfl, h⟩ dX9_point_45
set_option maxRecDepth 20000 in
set_option maxHeartbeats 4000000 in
theorem wk_X9_point_16 {p : Program} {l : Launch} {e : Env} {s : State} {m : MethodId} {args : Array Value} {below : List Frame} {meth : Method} {c : Code} {G : Gp} {σ : St} {x1 : Int32} {x2 : Int32} {x3 : Int32}  {Q : Int32 → St → Prop} (F : FX p s m args meth c cX9_point 4 (some .int) RX9 G)   (h : wp_X9_point_16 σ x1 x2 x3 Q) : J p l e (rmF 6 137) s m args below meth c 4 G (MQ below (QQ G (qI Q)) args s 0 0 (fr G)) 0 0 16 [(0, .ref (gb G + 244)), (1, .int x1), (2, .int x2), (3, .int x3)] [.ref (gb G + 244)] σ := by
  unfold wp_X9_point_16 at h
  refine J_ic F dX9_point_16 ki_1 ?_
  refine J_goto F (tgt := 34) dX9_point_17 (by decide) ?_
  exact wk_X9_point_34 F  h
set_option maxRecDepth 20000 in
set_option maxHeartbeats 4000000 in
theorem C_X9_point (l : Launch) (G : Gp) (x1 : Int32) (x2 : Int32) (x3 : Int32)  {σ : St} {Q : Int32 → St → Prop} (h : wp_X9_point σ x1 x2 x3 Q) : Cn l yX9_point cX9_point 4 (some .int) 6 137 G [.ref (gb G + 244), .int x1, .int x2, .int x3] σ (qI Q) := by
  refine Cn_of (L := [(0, .ref (gb G + 244)), (1, .int x1), (2, .int x2), (3, .int x3)]) RX9 (by decide) rfl (Nat.le_of_ble_eq_true rfl) rfl ?_
  intro p e s m below meth c F
  unfold wp_X9_point at h
  refine J_aln F 0 dX9_point_0 rfl rfl ?_
  refine J_iln F 1 dX9_point_1 rfl rfl ?_
  refine J_callSi F (As := [.int x1]) (st := [.ref (gb G + 244)]) (C_X9_isKey l G x1  h) lm_X9_361 li_X9_isKey ini_X9 lc_X9_isKey hd_X9_isKey (by decide) (Nat.le_of_ble_eq_true rfl) (by decide) rfl dX9_point_2 (fun r_11 σ_12 hh => ?_)
  clear h
  obtain ⟨e9, h⟩ := hh
  subst σ_12
  refine J_zeq F (tgt := 16) dX9_point_5 (by decide) (fun c_13 => ?_) (fun c_13 => ?_)
  · have h := h.1 c_13
    exact wk_X9_point_16 F  h
  · have h := h.2 c_13
    refine J_aln F 0 dX9_point_8 rfl rfl ?_
    refine J_iln F 2 dX9_point_9 rfl rfl ?_
    refine J_callVi F (As := [.int x2]) (st := [.ref (gb G + 244)]) (C_X9_isReality l G x2  h) (ci := 9) ly_244 (by decide) rfl rfl lm_X9_370 li_X9_isReality ls_X9_isReality ini_X9 lc_X9_isReality hd_X9_isReality (by decide) (Nat.le_of_ble_eq_true rfl) (by decide) rfl dX9_point_10 (fun r_14 σ_15 hh => ?_)
    clear h
    obtain ⟨e9, h⟩ := hh
    subst σ_15
    refine J_zne F (tgt := 20) dX9_point_13 (by decide) (fun c_16 => ?_) (fun c_16 => ?_)
    · have h := h.1 c_16
      refine J_iln F 3 dX9_point_20 rfl rfl ?_
      refine J_ic F dX9_point_21 ki_0 ?_
      refine J_ic F dX9_point_22 ki_2 ?_
      refine J_callSi F (As := [.int x3, .int (nI 0), .int (nI 2)]) (st := [.ref (gb G + 244)]) (C_X9_isIn l G x3 (nI 0) (nI 2)  h) lm_X9_77 li_X9_isIn ini_X9 lc_X9_isIn hd_X9_isIn (by decide) (Nat.le_of_ble_eq_true rfl) (by decide) rfl dX9_point_23 (fun r_17 σ_18 hh => ?_)
      clear h
      obtain ⟨e9, h⟩ := hh
      subst σ_18
      refine J_zne F (tgt := 33) dX9_point_26 (by decide) (fun c_19 => ?_) (fun c_19 => ?_)
      · have h := h.1 c_19
        refine J_ic F dX9_point_33 ki_0 ?_
        exact wk_X9_point_34 F  h
      · have h := h.2 c_19
        refine J_ic F dX9_point_29 ki_2 ?_
        refine J_goto F (tgt := 34) dX9_point_30 (by decide) ?_
        exact wk_X9_point_34 F  h
    · have h := h.2 c_16
      exact wk_X9_point_16 F  h
theorem dX9_around_0 : decode cX9_around 0 = .ok (.iload_n 0, 1) := by decide +kernel
theorem dX9_around_1 : decode cX9_around 1 = .ok (.iload_n 1, 1) := by decide +kernel
theorem dX9_around_2 : decode cX9_around 2 = .ok (.iload_n 1, 1) := by decide +kernel
theorem dX9_around_3 : decode cX9_around 3 = .ok (.iload_n 2, 1) := by decide +kernel
theorem dX9_around_4 : decode cX9_around 4 = .ok (.iadd, 1) := by decide +kernel
theorem dX9_around_5 : decode cX9_around 5 = .ok (.iconst 1, 1) := by decide +kernel
theorem dX9_around_6 : decode cX9_around 6 = .ok (.isub, 1) := by decide +kernel
theorem dX9_around_7 : decode cX9_around 7 = .ok (.invokestatic 77, 3) := by decide +kernel
theorem dX9_around_10 : decode cX9_around 10 = .ok (.ifCond .eq 5, 3) := by decide +kernel
theorem dX9_around_13 : decode cX9_around 13 = .ok (.iconst 0, 1) := by decide +kernel
theorem dX9_around_14 : decode cX9_around 14 = .ok (.ireturn, 1) := by decide +kernel
theorem dX9_around_15 : decode cX9_around 15 = .ok (.iload_n 1, 1) := by decide +kernel
theorem dX9_around_16 : decode cX9_around 16 = .ok (.iload_n 0, 1) := by decide +kernel
theorem dX9_around_17 : decode cX9_around 17 = .ok (.isub, 1) := by decide +kernel
theorem dX9_around_18 : decode cX9_around 18 = .ok (.bipush 32, 2) := by decide +kernel
theorem dX9_around_20 : decode cX9_around 20 = .ok (.iadd, 1) := by decide +kernel
theorem dX9_around_21 : decode cX9_around 21 = .ok (.bipush 32, 2) := by decide +kernel
theorem dX9_around_23 : decode cX9_around 23 = .ok (.irem, 1) := by decide +kernel
theorem dX9_around_24 : decode cX9_around 24 = .ok (.iload_n 0, 1) := by decide +kernel
theorem dX9_around_25 : decode cX9_around 25 = .ok (.iload_n 1, 1) := by decide +kernel
theorem dX9_around_26 : decode cX9_around 26 = .ok (.isub, 1) := by decide +kernel
theorem dX9_around_27 : decode cX9_around 27 = .ok (.iload_n 2, 1) := by decide +kernel
theorem dX9_around_28 : decode cX9_around 28 = .ok (.isub, 1) := by decide +kernel
theorem dX9_around_29 : decode cX9_around 29 = .ok (.iconst 1, 1) := by decide +kernel
theorem dX9_around_30 : decode cX9_around 30 = .ok (.iadd, 1) := by decide +kernel
theorem dX9_around_31 : decode cX9_around 31 = .ok (.bipush 64, 2) := by decide +kernel
theorem dX9_around_33 : decode cX9_around 33 = .ok (.iadd, 1) := by decide +kernel
theorem dX9_around_34 : decode cX9_around 34 = .ok (.bipush 32, 2) := by decide +kernel
theorem dX9_around_36 : decode cX9_around 36 = .ok (.irem, 1) := by decide +kernel
theorem dX9_around_37 : decode cX9_around 37 = .ok (.invokestatic 382, 3) := by decide +kernel
theorem dX9_around_40 : decode cX9_around 40 = .ok (.ireturn, 1) := by decide +kernel
set_option maxRecDepth 20000 in
set_option maxHeartbeats 4000000 in
theorem C_X9_around (l : Launch) (G : Gp) (x0 : Int32) (x1 : Int32) (x2 : Int32)  {σ : St} {Q : Int32 → Prop} (h : wp_X9_around σ x0 x1 x2 Q) : Cn l yX9_around cX9_around 3 (some .int) 1 22 G [.int x0, .int x1, .int x2] σ (qI (fun r σ' => σ' = σ ∧ Q r)) := by
  refine Cn_of (L := [(0, .int x0), (1, .int x1), (2, .int x2)]) RX9 (by decide) rfl (Nat.le_of_ble_eq_true rfl) rfl ?_
  intro p e s m below meth c F
  unfold wp_X9_around at h
  refine J_iln F 0 dX9_around_0 rfl rfl ?_
  refine J_iln F 1 dX9_around_1 rfl rfl ?_
  refine J_iln F 1 dX9_around_2 rfl rfl ?_
  refine J_iln F 2 dX9_around_3 rfl rfl ?_
  refine J_iadd F dX9_around_4 ?_
  refine J_ic F dX9_around_5 ki_1 ?_
  refine J_isub F dX9_around_6 ?_
  refine J_callSi F (As := [.int x0, .int x1, .int ((x1 + x2) - (nI 1))]) (st := []) (C_X9_isIn l G x0 x1 ((x1 + x2) - (nI 1))  h) lm_X9_77 li_X9_isIn ini_X9 lc_X9_isIn hd_X9_isIn (by decide) (Nat.le_of_ble_eq_true rfl) (by decide) rfl dX9_around_7 (fun r_1 σ_2 hh => ?_)
  clear h
  obtain ⟨e9, h⟩ := hh
  subst σ_2
  refine J_zeq F (tgt := 15) dX9_around_10 (by decide) (fun c_3 => ?_) (fun c_3 => ?_)
  · have h := h.1 c_3
    refine J_iln F 1 dX9_around_15 rfl rfl ?_
    refine J_iln F 0 dX9_around_16 rfl rfl ?_
    refine J_isub F dX9_around_17 ?_
    refine J_bi F dX9_around_18 kb_32 ?_
    refine J_iadd F dX9_around_20 ?_
    refine J_bi F dX9_around_21 kb_32 ?_
    refine J_irem F dX9_around_23 nz_32 ?_
    refine J_iln F 0 dX9_around_24 rfl rfl ?_
    refine J_iln F 1 dX9_around_25 rfl rfl ?_
    refine J_isub F dX9_around_26 ?_
    refine J_iln F 2 dX9_around_27 rfl rfl ?_
    refine J_isub F dX9_around_28 ?_
    refine J_ic F dX9_around_29 ki_1 ?_
    refine J_iadd F dX9_around_30 ?_
    refine J_bi F dX9_around_31 kb_64 ?_
    refine J_iadd F dX9_around_33 ?_
    refine J_bi F dX9_around_34 kb_32 ?_
    refine J_irem F dX9_around_36 nz_32 ?_
    refine J_callSi F (As := [.int (((x1 - x0) + (nI 32)) - ((x1 - x0) + (nI 32)) / (nI 32) * (nI 32)), .int (((((x0 - x1) - x2) + (nI 1)) + (nI 64)) - ((((x0 - x1) - x2) + (nI 1)) + (nI 64)) / (nI 32) * (nI 32))]) (st := []) (C_X9_lesser l G (((x1 - x0) + (nI 32)) - ((x1 - x0) + (nI 32)) / (nI 32) * (nI 32)) (((((x0 - x1) - x2) + (nI 1)) + (nI 64)) - ((((x0 - x1) - x2) + (nI 1)) + (nI 64)) / (nI 32) * (nI 32))  h) lm_X9_382 li_X9_lesser ini_X9 lc_X9_lesser hd_X9_lesser (by decide) (Nat.le_of_ble_eq_true rfl) (by decide) rfl dX9_around_37 (fun r_4 σ_5 hh => ?_)
    clear h
    obtain ⟨e9, h⟩ := hh
    subst σ_5
    exact J_reti F ⟨_, rfl, rfl, h⟩ dX9_around_40
  · have h := h.2 c_3
    refine J_ic F dX9_around_13 ki_0 ?_
    exact J_reti F ⟨_, rfl, rfl, h⟩ dX9_around_14
theorem dX9_farOf_0 : decode cX9_farOf 0 = .ok (.ldc_w 385, 3) := by decide +kernel
theorem dX9_farOf_3 : decode cX9_farOf 3 = .ok (.istore 4, 2) := by decide +kernel
theorem dX9_farOf_5 : decode cX9_farOf 5 = .ok (.iconst 0, 1) := by decide +kernel
theorem dX9_farOf_6 : decode cX9_farOf 6 = .ok (.istore 5, 2) := by decide +kernel
theorem dX9_farOf_8 : decode cX9_farOf 8 = .ok (.iload 5, 2) := by decide +kernel
theorem dX9_farOf_10 : decode cX9_farOf 10 = .ok (.aload_n 0, 1) := by decide +kernel
theorem dX9_farOf_11 : decode cX9_farOf 11 = .ok (.getfield 113, 3) := by decide +kernel
theorem dX9_farOf_14 : decode cX9_farOf 14 = .ok (.if_icmp .ge 67, 3) := by decide +kernel
theorem dX9_farOf_17 : decode cX9_farOf 17 = .ok (.aload_n 0, 1) := by decide +kernel
theorem dX9_farOf_18 : decode cX9_farOf 18 = .ok (.getfield 33, 3) := by decide +kernel
theorem dX9_farOf_21 : decode cX9_farOf 21 = .ok (.iload 5, 2) := by decide +kernel
theorem dX9_farOf_23 : decode cX9_farOf 23 = .ok (.iaload, 1) := by decide +kernel
theorem dX9_farOf_24 : decode cX9_farOf 24 = .ok (.iload_n 1, 1) := by decide +kernel
theorem dX9_farOf_25 : decode cX9_farOf 25 = .ok (.if_icmp .eq 6, 3) := by decide +kernel
theorem dX9_farOf_28 : decode cX9_farOf 28 = .ok (.goto 47, 3) := by decide +kernel
theorem dX9_farOf_31 : decode cX9_farOf 31 = .ok (.iload 4, 2) := by decide +kernel
theorem dX9_farOf_33 : decode cX9_farOf 33 = .ok (.iload_n 2, 1) := by decide +kernel
theorem dX9_farOf_34 : decode cX9_farOf 34 = .ok (.aload_n 0, 1) := by decide +kernel
theorem dX9_farOf_35 : decode cX9_farOf 35 = .ok (.getfield 36, 3) := by decide +kernel
theorem dX9_farOf_38 : decode cX9_farOf 38 = .ok (.iload 5, 2) := by decide +kernel
theorem dX9_farOf_40 : decode cX9_farOf 40 = .ok (.iaload, 1) := by decide +kernel
theorem dX9_farOf_41 : decode cX9_farOf 41 = .ok (.aload_n 0, 1) := by decide +kernel
theorem dX9_farOf_42 : decode cX9_farOf 42 = .ok (.getfield 42, 3) := by decide +kernel
theorem dX9_farOf_45 : decode cX9_farOf 45 = .ok (.iload 5, 2) := by decide +kernel
theorem dX9_farOf_47 : decode cX9_farOf 47 = .ok (.iaload, 1) := by decide +kernel
theorem dX9_farOf_48 : decode cX9_farOf 48 = .ok (.invokestatic 386, 3) := by decide +kernel
theorem dX9_farOf_51 : decode cX9_farOf 51 = .ok (.iload_n 3, 1) := by decide +kernel
theorem dX9_farOf_52 : decode cX9_farOf 52 = .ok (.aload_n 0, 1) := by decide +kernel
theorem dX9_farOf_53 : decode cX9_farOf 53 = .ok (.getfield 39, 3) := by decide +kernel
theorem dX9_farOf_56 : decode cX9_farOf 56 = .ok (.iload 5, 2) := by decide +kernel
theorem dX9_farOf_58 : decode cX9_farOf 58 = .ok (.iaload, 1) := by decide +kernel
theorem dX9_farOf_59 : decode cX9_farOf 59 = .ok (.aload_n 0, 1) := by decide +kernel
theorem dX9_farOf_60 : decode cX9_farOf 60 = .ok (.getfield 45, 3) := by decide +kernel
theorem dX9_farOf_63 : decode cX9_farOf 63 = .ok (.iload 5, 2) := by decide +kernel
theorem dX9_farOf_65 : decode cX9_farOf 65 = .ok (.iaload, 1) := by decide +kernel
theorem dX9_farOf_66 : decode cX9_farOf 66 = .ok (.invokestatic 386, 3) := by decide +kernel
theorem dX9_farOf_69 : decode cX9_farOf 69 = .ok (.iadd, 1) := by decide +kernel
theorem dX9_farOf_70 : decode cX9_farOf 70 = .ok (.invokestatic 382, 3) := by decide +kernel
theorem dX9_farOf_73 : decode cX9_farOf 73 = .ok (.istore 4, 2) := by decide +kernel
theorem dX9_farOf_75 : decode cX9_farOf 75 = .ok (.iinc 5 1, 3) := by decide +kernel
theorem dX9_farOf_78 : decode cX9_farOf 78 = .ok (.goto (-70), 3) := by decide +kernel
theorem dX9_farOf_81 : decode cX9_farOf 81 = .ok (.iload 4, 2) := by decide +kernel
theorem dX9_farOf_83 : decode cX9_farOf 83 = .ok (.ireturn, 1) := by decide +kernel
set_option maxRecDepth 20000 in
set_option maxHeartbeats 4000000 in
theorem wk_X9_farOf_8 {p : Program} {l : Launch} {e : Env} {s : State} {m : MethodId} {args : Array Value} {below : List Frame} {meth : Method} {c : Code} {G : Gp} {σ : St} {x1 : Int32} {x2 : Int32} {x3 : Int32}  {Q : Int32 → Prop} (F : FX p s m args meth c cX9_farOf 6 (some .int) RX9 G)   : ∀ (n9 : Nat) (x4 : Int32) (x5 : Int32), LP2 (wp_X9_farOf_8 σ x1 x2 x3 Q) n9 x4 x5 → J p l e (rmF 2 44) s m args below meth c 6 G (MQ below (QQ G (qI (fun r σ' => σ' = σ ∧ Q r))) args s 0 0 (fr G)) 0 0 8 [(0, .ref (gb G + 244)), (1, .int x1), (2, .int x2), (3, .int x3), (4, .int x4), (5, .int x5)] [] σ := by
  intro n9
  induction n9 with
  | zero => intro x4 x5 h; exact h.elim
  | succ n9 i8 =>
    intro x4 x5 h
    have h : wp_X9_farOf_8 σ x1 x2 x3 Q (LP2 (wp_X9_farOf_8 σ x1 x2 x3 Q) n9) x4 x5 := h
    unfold wp_X9_farOf_8 at h
    refine J_il F 5 dX9_farOf_8 rfl ?_
    refine J_aln F 0 dX9_farOf_10 rfl rfl ?_
    refine J_gfi F (ci := 9) 23 rfl inX9 ly_244 (by decide) (by decide) rfl lf_X9_113 rfl dX9_farOf_11 ?_
    refine J_cge F (tgt := 81) dX9_farOf_14 (by decide) (fun c_1 => ?_) (fun c_1 => ?_)
    · have h := h.1 c_1
      refine J_il F 4 dX9_farOf_81 rfl ?_
      exact J_reti F ⟨_, rfl, rfl, h⟩ dX9_farOf_83
    · have h := h.2 c_1
      refine J_aln F 0 dX9_farOf_17 rfl rfl ?_
      refine J_gfa F (ci := 9) 18 rfl inX9 ly_244 (by decide) (by decide) rfl lf_X9_33 rfl dX9_farOf_18 ?_
      refine J_il F 5 dX9_farOf_21 rfl ?_
      obtain ⟨h_2, h⟩ := h
      refine J_iald F ly_251 h_2 dX9_farOf_23 ?_
      refine J_iln F 1 dX9_farOf_24 rfl rfl ?_
      refine J_ceq F (tgt := 31) dX9_farOf_25 (by decide) (fun c_3 => ?_) (fun c_3 => ?_)
      · have h := h.1 c_3
        refine J_il F 4 dX9_farOf_31 rfl ?_
        refine J_iln F 2 dX9_farOf_33 rfl rfl ?_
        refine J_aln F 0 dX9_farOf_34 rfl rfl ?_
        refine J_gfa F (ci := 9) 19 rfl inX9 ly_244 (by decide) (by decide) rfl lf_X9_36 rfl dX9_farOf_35 ?_
        refine J_il F 5 dX9_farOf_38 rfl ?_
        obtain ⟨h_4, h⟩ := h
        refine J_iald F ly_252 h_4 dX9_farOf_40 ?_
        refine J_aln F 0 dX9_farOf_41 rfl rfl ?_
        refine J_gfa F (ci := 9) 21 rfl inX9 ly_244 (by decide) (by decide) rfl lf_X9_42 rfl dX9_farOf_42 ?_
        refine J_il F 5 dX9_farOf_45 rfl ?_
        obtain ⟨h_5, h⟩ := h
        refine J_iald F ly_254 h_5 dX9_farOf_47 ?_
        refine J_callSi F (As := [.int x2, .int (σ 252 (Int32.toNatClampNeg x5)), .int (σ 254 (Int32.toNatClampNeg x5))]) (st := [.int x4]) (C_X9_around l G x2 (σ 252 (Int32.toNatClampNeg x5)) (σ 254 (Int32.toNatClampNeg x5))  h) lm_X9_386 li_X9_around ini_X9 lc_X9_around hd_X9_around (by decide) (Nat.le_of_ble_eq_true rfl) (by decide) rfl dX9_farOf_48 (fun r_6 σ_7 hh => ?_)
        clear h
        obtain ⟨e9, h⟩ := hh
        subst σ_7
        refine J_iln F 3 dX9_farOf_51 rfl rfl ?_
        refine J_aln F 0 dX9_farOf_52 rfl rfl ?_
        refine J_gfa F (ci := 9) 20 rfl inX9 ly_244 (by decide) (by decide) rfl lf_X9_39 rfl dX9_farOf_53 ?_
        refine J_il F 5 dX9_farOf_56 rfl ?_
        obtain ⟨h_8, h⟩ := h
        refine J_iald F ly_253 h_8 dX9_farOf_58 ?_
        refine J_aln F 0 dX9_farOf_59 rfl rfl ?_
        refine J_gfa F (ci := 9) 22 rfl inX9 ly_244 (by decide) (by decide) rfl lf_X9_45 rfl dX9_farOf_60 ?_
        refine J_il F 5 dX9_farOf_63 rfl ?_
        obtain ⟨h_9, h⟩ := h
        refine J_iald F ly_255 h_9 dX9_farOf_65 ?_
        refine J_callSi F (As := [.int x3, .int (σ 253 (Int32.toNatClampNeg x5)), .int (σ 255 (Int32.toNatClampNeg x5))]) (st := [.int r_6, .int x4]) (C_X9_around l G x3 (σ 253 (Int32.toNatClampNeg x5)) (σ 255 (Int32.toNatClampNeg x5))  h) lm_X9_386 li_X9_around ini_X9 lc_X9_around hd_X9_around (by decide) (Nat.le_of_ble_eq_true rfl) (by decide) rfl dX9_farOf_66 (fun r_10 σ_11 hh => ?_)
        clear h
        obtain ⟨e9, h⟩ := hh
        subst σ_11
        refine J_iadd F dX9_farOf_69 ?_
        refine J_callSi F (As := [.int x4, .int (r_6 + r_10)]) (st := []) (C_X9_lesser l G x4 (r_6 + r_10)  h) lm_X9_382 li_X9_lesser ini_X9 lc_X9_lesser hd_X9_lesser (by decide) (Nat.le_of_ble_eq_true rfl) (by decide) rfl dX9_farOf_70 (fun r_12 σ_13 hh => ?_)
        clear h
        obtain ⟨e9, h⟩ := hh
        subst σ_13
        refine J_is F (L' := [(4, .int r_12), (0, .ref (gb G + 244)), (1, .int x1), (2, .int x2), (3, .int x3), (5, .int x5)]) dX9_farOf_73 (by decide) rfl ?_
        obtain ⟨x5_14, ex5_14⟩ : ∃ z : Int32, z = x5 + (nI 1) := ⟨_, rfl⟩
        have h := h x5_14 ex5_14
        refine J_iinc F (v := x5_14) (L' := [(5, .int x5_14), (4, .int r_12), (0, .ref (gb G + 244)), (1, .int x1), (2, .int x2), (3, .int x3)]) 5 dX9_farOf_75 rfl (by rw [ki_1, ex5_14]) (by decide) rfl ?_
        refine J_goto F (tgt := 8) dX9_farOf_78 (by decide) ?_
        refine J_sub [2, 3, 4, 5, 1, 0] rfl ?_
        exact i8 _ _ h
      · have h := h.2 c_3
        refine J_goto F (tgt := 75) dX9_farOf_28 (by decide) ?_
        obtain ⟨x5_15, ex5_15⟩ : ∃ z : Int32, z = x5 + (nI 1) := ⟨_, rfl⟩
        have h := h x5_15 ex5_15
        refine J_iinc F (v := x5_15) (L' := [(5, .int x5_15), (0, .ref (gb G + 244)), (1, .int x1), (2, .int x2), (3, .int x3), (4, .int x4)]) 5 dX9_farOf_75 rfl (by rw [ki_1, ex5_15]) (by decide) rfl ?_
        refine J_goto F (tgt := 8) dX9_farOf_78 (by decide) ?_
        refine J_sub [1, 2, 3, 4, 5, 0] rfl ?_
        exact i8 _ _ h
set_option maxRecDepth 20000 in
set_option maxHeartbeats 4000000 in
theorem C_X9_farOf (l : Launch) (G : Gp) (x1 : Int32) (x2 : Int32) (x3 : Int32)  {σ : St} {Q : Int32 → Prop} (h : wp_X9_farOf σ x1 x2 x3 Q) : Cn l yX9_farOf cX9_farOf 6 (some .int) 2 44 G [.ref (gb G + 244), .int x1, .int x2, .int x3] σ (qI (fun r σ' => σ' = σ ∧ Q r)) := by
  refine Cn_of (L := [(0, .ref (gb G + 244)), (1, .int x1), (2, .int x2), (3, .int x3)]) RX9 (by decide) rfl (Nat.le_of_ble_eq_true rfl) rfl ?_
  intro p e s m below meth c F
  unfold wp_X9_farOf at h
  refine J_ldcw F dX9_farOf_0 lk_X9_385 ?_
  refine J_is F (L' := [(4, .int (nI 1000000)), (0, .ref (gb G + 244)), (1, .int x1), (2, .int x2), (3, .int x3)]) dX9_farOf_3 (by decide) rfl ?_
  refine J_ic F dX9_farOf_5 ki_0 ?_
  refine J_is F (L' := [(5, .int (nI 0)), (4, .int (nI 1000000)), (0, .ref (gb G + 244)), (1, .int x1), (2, .int x2), (3, .int x3)]) dX9_farOf_6 (by decide) rfl ?_
  refine J_sub [2, 3, 4, 5, 1, 0] rfl ?_
  obtain ⟨n9, h⟩ := h
  exact wk_X9_farOf_8 F  n9 _ _ h
theorem dX9_nearestTo_0 : decode cX9_nearestTo 0 = .ok (.aload_n 0, 1) := by decide +kernel
theorem dX9_nearestTo_1 : decode cX9_nearestTo 1 = .ok (.iload_n 1, 1) := by decide +kernel
theorem dX9_nearestTo_2 : decode cX9_nearestTo 2 = .ok (.invokevirtual 364, 3) := by decide +kernel
theorem dX9_nearestTo_5 : decode cX9_nearestTo 5 = .ok (.aload_n 0, 1) := by decide +kernel
theorem dX9_nearestTo_6 : decode cX9_nearestTo 6 = .ok (.iconst 1, 1) := by decide +kernel
theorem dX9_nearestTo_7 : decode cX9_nearestTo 7 = .ok (.invokevirtual 135, 3) := by decide +kernel
theorem dX9_nearestTo_10 : decode cX9_nearestTo 10 = .ok (.iand, 1) := by decide +kernel
theorem dX9_nearestTo_11 : decode cX9_nearestTo 11 = .ok (.istore 4, 2) := by decide +kernel
theorem dX9_nearestTo_13 : decode cX9_nearestTo 13 = .ok (.iconst (-1), 1) := by decide +kernel
theorem dX9_nearestTo_14 : decode cX9_nearestTo 14 = .ok (.istore 5, 2) := by decide +kernel
theorem dX9_nearestTo_16 : decode cX9_nearestTo 16 = .ok (.iconst 0, 1) := by decide +kernel
theorem dX9_nearestTo_17 : decode cX9_nearestTo 17 = .ok (.istore 6, 2) := by decide +kernel
theorem dX9_nearestTo_19 : decode cX9_nearestTo 19 = .ok (.iload 6, 2) := by decide +kernel
theorem dX9_nearestTo_21 : decode cX9_nearestTo 21 = .ok (.bipush 10, 2) := by decide +kernel
theorem dX9_nearestTo_23 : decode cX9_nearestTo 23 = .ok (.if_icmp .ge 51, 3) := by decide +kernel
theorem dX9_nearestTo_26 : decode cX9_nearestTo 26 = .ok (.iload 4, 2) := by decide +kernel
theorem dX9_nearestTo_28 : decode cX9_nearestTo 28 = .ok (.iload 6, 2) := by decide +kernel
theorem dX9_nearestTo_30 : decode cX9_nearestTo 30 = .ok (.ishr, 1) := by decide +kernel
theorem dX9_nearestTo_31 : decode cX9_nearestTo 31 = .ok (.iconst 1, 1) := by decide +kernel
theorem dX9_nearestTo_32 : decode cX9_nearestTo 32 = .ok (.iand, 1) := by decide +kernel
theorem dX9_nearestTo_33 : decode cX9_nearestTo 33 = .ok (.ifCond .ne 6, 3) := by decide +kernel
theorem dX9_nearestTo_36 : decode cX9_nearestTo 36 = .ok (.goto 32, 3) := by decide +kernel
theorem dX9_nearestTo_39 : decode cX9_nearestTo 39 = .ok (.iload 5, 2) := by decide +kernel
theorem dX9_nearestTo_41 : decode cX9_nearestTo 41 = .ok (.iconst (-1), 1) := by decide +kernel
theorem dX9_nearestTo_42 : decode cX9_nearestTo 42 = .ok (.if_icmp .eq 22, 3) := by decide +kernel
theorem dX9_nearestTo_45 : decode cX9_nearestTo 45 = .ok (.aload_n 0, 1) := by decide +kernel
theorem dX9_nearestTo_46 : decode cX9_nearestTo 46 = .ok (.iload 6, 2) := by decide +kernel
theorem dX9_nearestTo_48 : decode cX9_nearestTo 48 = .ok (.iload_n 2, 1) := by decide +kernel
theorem dX9_nearestTo_49 : decode cX9_nearestTo 49 = .ok (.iload_n 3, 1) := by decide +kernel
theorem dX9_nearestTo_50 : decode cX9_nearestTo 50 = .ok (.invokevirtual 389, 3) := by decide +kernel
theorem dX9_nearestTo_53 : decode cX9_nearestTo 53 = .ok (.aload_n 0, 1) := by decide +kernel
theorem dX9_nearestTo_54 : decode cX9_nearestTo 54 = .ok (.iload 5, 2) := by decide +kernel
theorem dX9_nearestTo_56 : decode cX9_nearestTo 56 = .ok (.iload_n 2, 1) := by decide +kernel
theorem dX9_nearestTo_57 : decode cX9_nearestTo 57 = .ok (.iload_n 3, 1) := by decide +kernel
theorem dX9_nearestTo_58 : decode cX9_nearestTo 58 = .ok (.invokevirtual 389, 3) := by decide +kernel
theorem dX9_nearestTo_61 : decode cX9_nearestTo 61 = .ok (.if_icmp .ge 7, 3) := by decide +kernel
theorem dX9_nearestTo_64 : decode cX9_nearestTo 64 = .ok (.iload 6, 2) := by decide +kernel
theorem dX9_nearestTo_66 : decode cX9_nearestTo 66 = .ok (.istore 5, 2) := by decide +kernel
theorem dX9_nearestTo_68 : decode cX9_nearestTo 68 = .ok (.iinc 6 1, 3) := by decide +kernel
theorem dX9_nearestTo_71 : decode cX9_nearestTo 71 = .ok (.goto (-52), 3) := by decide +kernel
theorem dX9_nearestTo_74 : decode cX9_nearestTo 74 = .ok (.iload 5, 2) := by decide +kernel
theorem dX9_nearestTo_76 : decode cX9_nearestTo 76 = .ok (.ireturn, 1) := by decide +kernel
set_option maxRecDepth 20000 in
set_option maxHeartbeats 4000000 in
theorem wk_X9_nearestTo_19 {p : Program} {l : Launch} {e : Env} {s : State} {m : MethodId} {args : Array Value} {below : List Frame} {meth : Method} {c : Code} {G : Gp} {σ : St} {x2 : Int32} {x3 : Int32} {x4 : Int32}  {Q : Int32 → Prop} (F : FX p s m args meth c cX9_nearestTo 7 (some .int) RX9 G)   : ∀ (n9 : Nat) (x5 : Int32) (x6 : Int32), LP2 (wp_X9_nearestTo_19 σ x2 x3 x4 Q) n9 x5 x6 → J p l e (rmF 4 93) s m args below meth c 7 G (MQ below (QQ G (qI (fun r σ' => σ' = σ ∧ Q r))) args s 0 0 (fr G)) 0 0 19 [(0, .ref (gb G + 244)), (2, .int x2), (3, .int x3), (4, .int x4), (5, .int x5), (6, .int x6)] [] σ := by
  intro n9
  induction n9 with
  | zero => intro x5 x6 h; exact h.elim
  | succ n9 i19 =>
    intro x5 x6 h
    have h : wp_X9_nearestTo_19 σ x2 x3 x4 Q (LP2 (wp_X9_nearestTo_19 σ x2 x3 x4 Q) n9) x5 x6 := h
    unfold wp_X9_nearestTo_19 at h
    refine J_il F 5 dX9_nearestTo_19 rfl ?_
    refine J_bi F dX9_nearestTo_21 kb_10 ?_
    refine J_cge F (tgt := 74) dX9_nearestTo_23 (by decide) (fun c_1 => ?_) (fun c_1 => ?_)
    · have h := h.1 c_1
      refine J_il F 4 dX9_nearestTo_74 rfl ?_
      exact J_reti F ⟨_, rfl, rfl, h⟩ dX9_nearestTo_76
    · have h := h.2 c_1
      refine J_il F 3 dX9_nearestTo_26 rfl ?_
      refine J_il F 5 dX9_nearestTo_28 rfl ?_
      refine J_ishr F dX9_nearestTo_30 ?_
      refine J_ic F dX9_nearestTo_31 ki_1 ?_
      refine J_iand F dX9_nearestTo_32 ?_
      refine J_zne F (tgt := 39) dX9_nearestTo_33 (by decide) (fun c_2 => ?_) (fun c_2 => ?_)
      · have h := h.1 c_2
        refine J_il F 4 dX9_nearestTo_39 rfl ?_
        refine J_ic F dX9_nearestTo_41 ki_m1 ?_
        refine J_ceq F (tgt := 64) dX9_nearestTo_42 (by decide) (fun c_3 => ?_) (fun c_3 => ?_)
        · have h := h.1 c_3
          refine J_il F 5 dX9_nearestTo_64 rfl ?_
          refine J_is F (L' := [(5, .int x6), (0, .ref (gb G + 244)), (2, .int x2), (3, .int x3), (4, .int x4), (6, .int x6)]) dX9_nearestTo_66 (by decide) rfl ?_
          obtain ⟨x6_4, ex6_4⟩ : ∃ z : Int32, z = x6 + (nI 1) := ⟨_, rfl⟩
          have h := h x6_4 ex6_4
          refine J_iinc F (v := x6_4) (L' := [(6, .int x6_4), (5, .int x6), (0, .ref (gb G + 244)), (2, .int x2), (3, .int x3), (4, .int x4)]) 5 dX9_nearestTo_68 rfl (by rw [ki_1, ex6_4]) (by decide) rfl ?_
          refine J_goto F (tgt := 19) dX9_nearestTo_71 (by decide) ?_
          refine J_sub [2, 3, 4, 5, 1, 0] rfl ?_
          exact i19 _ _ h
        · have h := h.2 c_3
          refine J_aln F 0 dX9_nearestTo_45 rfl rfl ?_
          refine J_il F 5 dX9_nearestTo_46 rfl ?_
          refine J_iln F 1 dX9_nearestTo_48 rfl rfl ?_
          refine J_iln F 2 dX9_nearestTo_49 rfl rfl ?_
          refine J_callVi F (As := [.int x6, .int x2, .int x3]) (st := []) (C_X9_farOf l G x6 x2 x3  h) (ci := 9) ly_244 (by decide) rfl rfl lm_X9_389 li_X9_farOf ls_X9_farOf ini_X9 lc_X9_farOf hd_X9_farOf (by decide) (Nat.le_of_ble_eq_true rfl) (by decide) rfl dX9_nearestTo_50 (fun r_5 σ_6 hh => ?_)
          clear h
          obtain ⟨e9, h⟩ := hh
          subst σ_6
          refine J_aln F 0 dX9_nearestTo_53 rfl rfl ?_
          refine J_il F 4 dX9_nearestTo_54 rfl ?_
          refine J_iln F 1 dX9_nearestTo_56 rfl rfl ?_
          refine J_iln F 2 dX9_nearestTo_57 rfl rfl ?_
          refine J_callVi F (As := [.int x5, .int x2, .int x3]) (st := [.int r_5]) (C_X9_farOf l G x5 x2 x3  h) (ci := 9) ly_244 (by decide) rfl rfl lm_X9_389 li_X9_farOf ls_X9_farOf ini_X9 lc_X9_farOf hd_X9_farOf (by decide) (Nat.le_of_ble_eq_true rfl) (by decide) rfl dX9_nearestTo_58 (fun r_7 σ_8 hh => ?_)
          clear h
          obtain ⟨e9, h⟩ := hh
          subst σ_8
          refine J_cge F (tgt := 68) dX9_nearestTo_61 (by decide) (fun c_9 => ?_) (fun c_9 => ?_)
          · have h := h.1 c_9
            obtain ⟨x6_10, ex6_10⟩ : ∃ z : Int32, z = x6 + (nI 1) := ⟨_, rfl⟩
            have h := h x6_10 ex6_10
            refine J_iinc F (v := x6_10) (L' := [(6, .int x6_10), (0, .ref (gb G + 244)), (2, .int x2), (3, .int x3), (4, .int x4), (5, .int x5)]) 5 dX9_nearestTo_68 rfl (by rw [ki_1, ex6_10]) (by decide) rfl ?_
            refine J_goto F (tgt := 19) dX9_nearestTo_71 (by decide) ?_
            refine J_sub [1, 2, 3, 4, 5, 0] rfl ?_
            exact i19 _ _ h
          · have h := h.2 c_9
            refine J_il F 5 dX9_nearestTo_64 rfl ?_
            refine J_is F (L' := [(5, .int x6), (0, .ref (gb G + 244)), (2, .int x2), (3, .int x3), (4, .int x4), (6, .int x6)]) dX9_nearestTo_66 (by decide) rfl ?_
            obtain ⟨x6_11, ex6_11⟩ : ∃ z : Int32, z = x6 + (nI 1) := ⟨_, rfl⟩
            have h := h x6_11 ex6_11
            refine J_iinc F (v := x6_11) (L' := [(6, .int x6_11), (5, .int x6), (0, .ref (gb G + 244)), (2, .int x2), (3, .int x3), (4, .int x4)]) 5 dX9_nearestTo_68 rfl (by rw [ki_1, ex6_11]) (by decide) rfl ?_
            refine J_goto F (tgt := 19) dX9_nearestTo_71 (by decide) ?_
            refine J_sub [2, 3, 4, 5, 1, 0] rfl ?_
            exact i19 _ _ h
      · have h := h.2 c_2
        refine J_goto F (tgt := 68) dX9_nearestTo_36 (by decide) ?_
        obtain ⟨x6_12, ex6_12⟩ : ∃ z : Int32, z = x6 + (nI 1) := ⟨_, rfl⟩
        have h := h x6_12 ex6_12
        refine J_iinc F (v := x6_12) (L' := [(6, .int x6_12), (0, .ref (gb G + 244)), (2, .int x2), (3, .int x3), (4, .int x4), (5, .int x5)]) 5 dX9_nearestTo_68 rfl (by rw [ki_1, ex6_12]) (by decide) rfl ?_
        refine J_goto F (tgt := 19) dX9_nearestTo_71 (by decide) ?_
        refine J_sub [1, 2, 3, 4, 5, 0] rfl ?_
        exact i19 _ _ h
set_option maxRecDepth 20000 in
set_option maxHeartbeats 4000000 in
theorem C_X9_nearestTo (l : Launch) (G : Gp) (x1 : Int32) (x2 : Int32) (x3 : Int32)  {σ : St} {Q : Int32 → Prop} (h : wp_X9_nearestTo σ x1 x2 x3 Q) : Cn l yX9_nearestTo cX9_nearestTo 7 (some .int) 4 93 G [.ref (gb G + 244), .int x1, .int x2, .int x3] σ (qI (fun r σ' => σ' = σ ∧ Q r)) := by
  refine Cn_of (L := [(0, .ref (gb G + 244)), (1, .int x1), (2, .int x2), (3, .int x3)]) RX9 (by decide) rfl (Nat.le_of_ble_eq_true rfl) rfl ?_
  intro p e s m below meth c F
  unfold wp_X9_nearestTo at h
  refine J_aln F 0 dX9_nearestTo_0 rfl rfl ?_
  refine J_iln F 1 dX9_nearestTo_1 rfl rfl ?_
  refine J_callVi F (As := [.int x1]) (st := []) (C_X9_besideNode l G x1  h) (ci := 9) ly_244 (by decide) rfl rfl lm_X9_364 li_X9_besideNode ls_X9_besideNode ini_X9 lc_X9_besideNode hd_X9_besideNode (by decide) (Nat.le_of_ble_eq_true rfl) (by decide) rfl dX9_nearestTo_2 (fun r_13 σ_14 hh => ?_)
  clear h
  obtain ⟨e9, h⟩ := hh
  subst σ_14
  refine J_aln F 0 dX9_nearestTo_5 rfl rfl ?_
  refine J_ic F dX9_nearestTo_6 ki_1 ?_
  refine J_callVi F (As := [.int (nI 1)]) (st := [.int r_13]) (C_X9_bitsOf l G (nI 1)  h) (ci := 9) ly_244 (by decide) rfl rfl lm_X9_135 li_X9_bitsOf ls_X9_bitsOf ini_X9 lc_X9_bitsOf hd_X9_bitsOf (by decide) (Nat.le_of_ble_eq_true rfl) (by decide) rfl dX9_nearestTo_7 (fun r_15 σ_16 hh => ?_)
  clear h
  obtain ⟨e9, h⟩ := hh
  subst σ_16
  refine J_iand F dX9_nearestTo_10 ?_
  refine J_top (fun x4_17 ex4_17 => ?_)
  have h := h x4_17 ex4_17
  refine J_is F (L' := [(4, .int x4_17), (0, .ref (gb G + 244)), (1, .int x1), (2, .int x2), (3, .int x3)]) dX9_nearestTo_11 (by decide) rfl ?_
  refine J_ic F dX9_nearestTo_13 ki_m1 ?_
  refine J_is F (L' := [(5, .int (-1)), (4, .int x4_17), (0, .ref (gb G + 244)), (1, .int x1), (2, .int x2), (3, .int x3)]) dX9_nearestTo_14 (by decide) rfl ?_
  refine J_ic F dX9_nearestTo_16 ki_0 ?_
  refine J_is F (L' := [(6, .int (nI 0)), (5, .int (-1)), (4, .int x4_17), (0, .ref (gb G + 244)), (1, .int x1), (2, .int x2), (3, .int x3)]) dX9_nearestTo_17 (by decide) rfl ?_
  refine J_sub [3, 5, 6, 2, 1, 0] rfl ?_
  obtain ⟨n9, h⟩ := h
  exact wk_X9_nearestTo_19 F  n9 _ _ h
theorem dX9_goes_0 : decode cX9_goes 0 = .ok (.aload_n 0, 1) := by decide +kernel
theorem dX9_goes_1 : decode cX9_goes 1 = .ok (.iconst 1, 1) := by decide +kernel
theorem dX9_goes_2 : decode cX9_goes 2 = .ok (.putfield 392, 3) := by decide +kernel
theorem dX9_goes_5 : decode cX9_goes 5 = .ok (.aload_n 0, 1) := by decide +kernel
theorem dX9_goes_6 : decode cX9_goes 6 = .ok (.getfield 51, 3) := by decide +kernel
theorem dX9_goes_9 : decode cX9_goes 9 = .ok (.iconst 0, 1) := by decide +kernel
theorem dX9_goes_10 : decode cX9_goes 10 = .ok (.iload_n 1, 1) := by decide +kernel
theorem dX9_goes_11 : decode cX9_goes 11 = .ok (.iastore, 1) := by decide +kernel
theorem dX9_goes_12 : decode cX9_goes 12 = .ok (.aload_n 0, 1) := by decide +kernel
theorem dX9_goes_13 : decode cX9_goes 13 = .ok (.iconst 0, 1) := by decide +kernel
theorem dX9_goes_14 : decode cX9_goes 14 = .ok (.putfield 395, 3) := by decide +kernel
theorem dX9_goes_17 : decode cX9_goes 17 = .ok (.iload_n 1, 1) := by decide +kernel
theorem dX9_goes_18 : decode cX9_goes 18 = .ok (.istore 4, 2) := by decide +kernel
theorem dX9_goes_20 : decode cX9_goes 20 = .ok (.aload_n 0, 1) := by decide +kernel
theorem dX9_goes_21 : decode cX9_goes 21 = .ok (.getfield 395, 3) := by decide +kernel
theorem dX9_goes_24 : decode cX9_goes 24 = .ok (.ifCond .ne 85, 3) := by decide +kernel
theorem dX9_goes_27 : decode cX9_goes 27 = .ok (.aload_n 0, 1) := by decide +kernel
theorem dX9_goes_28 : decode cX9_goes 28 = .ok (.iload 4, 2) := by decide +kernel
theorem dX9_goes_30 : decode cX9_goes 30 = .ok (.iload_n 2, 1) := by decide +kernel
theorem dX9_goes_31 : decode cX9_goes 31 = .ok (.iload_n 3, 1) := by decide +kernel
theorem dX9_goes_32 : decode cX9_goes 32 = .ok (.invokevirtual 389, 3) := by decide +kernel
theorem dX9_goes_35 : decode cX9_goes 35 = .ok (.ifCond .le 74, 3) := by decide +kernel
theorem dX9_goes_38 : decode cX9_goes 38 = .ok (.aload_n 0, 1) := by decide +kernel
theorem dX9_goes_39 : decode cX9_goes 39 = .ok (.iload 4, 2) := by decide +kernel
theorem dX9_goes_41 : decode cX9_goes 41 = .ok (.iload_n 2, 1) := by decide +kernel
theorem dX9_goes_42 : decode cX9_goes 42 = .ok (.iload_n 3, 1) := by decide +kernel
theorem dX9_goes_43 : decode cX9_goes 43 = .ok (.invokevirtual 399, 3) := by decide +kernel
theorem dX9_goes_46 : decode cX9_goes 46 = .ok (.istore 5, 2) := by decide +kernel
theorem dX9_goes_48 : decode cX9_goes 48 = .ok (.iload 5, 2) := by decide +kernel
theorem dX9_goes_50 : decode cX9_goes 50 = .ok (.iconst (-1), 1) := by decide +kernel
theorem dX9_goes_51 : decode cX9_goes 51 = .ok (.if_icmp .eq 22, 3) := by decide +kernel
theorem dX9_goes_54 : decode cX9_goes 54 = .ok (.aload_n 0, 1) := by decide +kernel
theorem dX9_goes_55 : decode cX9_goes 55 = .ok (.iload 5, 2) := by decide +kernel
theorem dX9_goes_57 : decode cX9_goes 57 = .ok (.iload_n 2, 1) := by decide +kernel
theorem dX9_goes_58 : decode cX9_goes 58 = .ok (.iload_n 3, 1) := by decide +kernel
theorem dX9_goes_59 : decode cX9_goes 59 = .ok (.invokevirtual 389, 3) := by decide +kernel
theorem dX9_goes_62 : decode cX9_goes 62 = .ok (.aload_n 0, 1) := by decide +kernel
theorem dX9_goes_63 : decode cX9_goes 63 = .ok (.iload 4, 2) := by decide +kernel
theorem dX9_goes_65 : decode cX9_goes 65 = .ok (.iload_n 2, 1) := by decide +kernel
theorem dX9_goes_66 : decode cX9_goes 66 = .ok (.iload_n 3, 1) := by decide +kernel
theorem dX9_goes_67 : decode cX9_goes 67 = .ok (.invokevirtual 389, 3) := by decide +kernel
theorem dX9_goes_70 : decode cX9_goes 70 = .ok (.if_icmp .lt 11, 3) := by decide +kernel
theorem dX9_goes_73 : decode cX9_goes 73 = .ok (.aload_n 0, 1) := by decide +kernel
theorem dX9_goes_74 : decode cX9_goes 74 = .ok (.iconst 1, 1) := by decide +kernel
theorem dX9_goes_75 : decode cX9_goes 75 = .ok (.putfield 395, 3) := by decide +kernel
theorem dX9_goes_78 : decode cX9_goes 78 = .ok (.goto 28, 3) := by decide +kernel
theorem dX9_goes_81 : decode cX9_goes 81 = .ok (.iload 5, 2) := by decide +kernel
theorem dX9_goes_83 : decode cX9_goes 83 = .ok (.istore 4, 2) := by decide +kernel
theorem dX9_goes_85 : decode cX9_goes 85 = .ok (.aload_n 0, 1) := by decide +kernel
theorem dX9_goes_86 : decode cX9_goes 86 = .ok (.getfield 51, 3) := by decide +kernel
theorem dX9_goes_89 : decode cX9_goes 89 = .ok (.aload_n 0, 1) := by decide +kernel
theorem dX9_goes_90 : decode cX9_goes 90 = .ok (.getfield 392, 3) := by decide +kernel
theorem dX9_goes_93 : decode cX9_goes 93 = .ok (.iload 4, 2) := by decide +kernel
theorem dX9_goes_95 : decode cX9_goes 95 = .ok (.iastore, 1) := by decide +kernel
theorem dX9_goes_96 : decode cX9_goes 96 = .ok (.aload_n 0, 1) := by decide +kernel
theorem dX9_goes_97 : decode cX9_goes 97 = .ok (.dup, 1) := by decide +kernel
theorem dX9_goes_98 : decode cX9_goes 98 = .ok (.getfield 392, 3) := by decide +kernel
theorem dX9_goes_101 : decode cX9_goes 101 = .ok (.iconst 1, 1) := by decide +kernel
theorem dX9_goes_102 : decode cX9_goes 102 = .ok (.iadd, 1) := by decide +kernel
theorem dX9_goes_103 : decode cX9_goes 103 = .ok (.putfield 392, 3) := by decide +kernel
theorem dX9_goes_106 : decode cX9_goes 106 = .ok (.goto (-86), 3) := by decide +kernel
theorem dX9_goes_109 : decode cX9_goes 109 = .ok (.return_, 1) := by decide +kernel
set_option maxRecDepth 20000 in
set_option maxHeartbeats 4000000 in
theorem wk_X9_goes_20 {p : Program} {l : Launch} {e : Env} {s : State} {m : MethodId} {args : Array Value} {below : List Frame} {meth : Method} {c : Code} {G : Gp} {x2 : Int32} {x3 : Int32}  {Q : St → Prop} (F : FX p s m args meth c cX9_goes 6 none RX9 G)   : ∀ (n9 : Nat) (σ : St) (x4 : Int32), LP2 (wp_X9_goes_20 x2 x3 Q) n9 σ x4 → J p l e (rmF 5 119) s m args below meth c 6 G (MQ below (QQ G (qV Q)) args s 0 0 (fr G)) 0 0 20 [(0, .ref (gb G + 244)), (2, .int x2), (3, .int x3), (4, .int x4)] [] σ := by
  intro n9
  induction n9 with
  | zero => intro σ x4 h; exact h.elim
  | succ n9 i20 =>
    intro σ x4 h
    have h : wp_X9_goes_20 x2 x3 Q (LP2 (wp_X9_goes_20 x2 x3 Q) n9) σ x4 := h
    unfold wp_X9_goes_20 at h
    refine J_aln F 0 dX9_goes_20 rfl rfl ?_
    refine J_gfi F (ci := 9) 27 rfl inX9 ly_244 (by decide) (by decide) rfl lf_X9_395 rfl dX9_goes_21 ?_
    refine J_zne F (tgt := 109) dX9_goes_24 (by decide) (fun c_1 => ?_) (fun c_1 => ?_)
    · have h := h.1 c_1
      exact J_retv F ⟨rfl, h⟩ dX9_goes_109
    · have h := h.2 c_1
      refine J_aln F 0 dX9_goes_27 rfl rfl ?_
      refine J_il F 3 dX9_goes_28 rfl ?_
      refine J_iln F 1 dX9_goes_30 rfl rfl ?_
      refine J_iln F 2 dX9_goes_31 rfl rfl ?_
      refine J_callVi F (As := [.int x4, .int x2, .int x3]) (st := []) (C_X9_farOf l G x4 x2 x3  h) (ci := 9) ly_244 (by decide) rfl rfl lm_X9_389 li_X9_farOf ls_X9_farOf ini_X9 lc_X9_farOf hd_X9_farOf (by decide) (Nat.le_of_ble_eq_true rfl) (by decide) rfl dX9_goes_32 (fun r_2 σ_3 hh => ?_)
      clear h
      obtain ⟨e9, h⟩ := hh
      subst σ_3
      refine J_zle F (tgt := 109) dX9_goes_35 (by decide) (fun c_4 => ?_) (fun c_4 => ?_)
      · have h := h.1 c_4
        exact J_retv F ⟨rfl, h⟩ dX9_goes_109
      · have h := h.2 c_4
        refine J_aln F 0 dX9_goes_38 rfl rfl ?_
        refine J_il F 3 dX9_goes_39 rfl ?_
        refine J_iln F 1 dX9_goes_41 rfl rfl ?_
        refine J_iln F 2 dX9_goes_42 rfl rfl ?_
        refine J_callVi F (As := [.int x4, .int x2, .int x3]) (st := []) (C_X9_nearestTo l G x4 x2 x3  h) (ci := 9) ly_244 (by decide) rfl rfl lm_X9_399 li_X9_nearestTo ls_X9_nearestTo ini_X9 lc_X9_nearestTo hd_X9_nearestTo (by decide) (Nat.le_of_ble_eq_true rfl) (by decide) rfl dX9_goes_43 (fun r_5 σ_6 hh => ?_)
        clear h
        obtain ⟨e9, h⟩ := hh
        subst σ_6
        refine J_is F (L' := [(5, .int r_5), (0, .ref (gb G + 244)), (2, .int x2), (3, .int x3), (4, .int x4)]) dX9_goes_46 (by decide) rfl ?_
        refine J_il F 0 dX9_goes_48 rfl ?_
        refine J_ic F dX9_goes_50 ki_m1 ?_
        refine J_ceq F (tgt := 73) dX9_goes_51 (by decide) (fun c_7 => ?_) (fun c_7 => ?_)
        · have h := h.1 c_7
          refine J_aln F 1 dX9_goes_73 rfl rfl ?_
          refine J_ic F dX9_goes_74 ki_1 ?_
          refine J_pfi F (ci := 9) 27 rfl inX9 tyX9 tyX9_ok nmX9 ly_244 (by decide) (by decide) rfl lf_X9_395 rfl rfl (tyX9_ok 27 (by decide)) (nz_b (Or.inr rfl)) (nz_f (Or.inr rfl)) dX9_goes_75 ?_
          refine J_st (fun σ_8 eσ_8 => ?_)
          have h := h σ_8 eσ_8
          refine J_goto F (tgt := 106) dX9_goes_78 (by decide) ?_
          refine J_goto F (tgt := 20) dX9_goes_106 (by decide) ?_
          refine J_sub [1, 2, 3, 4] rfl ?_
          exact i20 _ _ h
        · have h := h.2 c_7
          refine J_aln F 1 dX9_goes_54 rfl rfl ?_
          refine J_il F 0 dX9_goes_55 rfl ?_
          refine J_iln F 2 dX9_goes_57 rfl rfl ?_
          refine J_iln F 3 dX9_goes_58 rfl rfl ?_
          refine J_callVi F (As := [.int r_5, .int x2, .int x3]) (st := []) (C_X9_farOf l G r_5 x2 x3  h) (ci := 9) ly_244 (by decide) rfl rfl lm_X9_389 li_X9_farOf ls_X9_farOf ini_X9 lc_X9_farOf hd_X9_farOf (by decide) (Nat.le_of_ble_eq_true rfl) (by decide) rfl dX9_goes_59 (fun r_9 σ_10 hh => ?_)
          clear h
          obtain ⟨e9, h⟩ := hh
          subst σ_10
          refine J_aln F 1 dX9_goes_62 rfl rfl ?_
          refine J_il F 4 dX9_goes_63 rfl ?_
          refine J_iln F 2 dX9_goes_65 rfl rfl ?_
          refine J_iln F 3 dX9_goes_66 rfl rfl ?_
          refine J_callVi F (As := [.int x4, .int x2, .int x3]) (st := [.int r_9]) (C_X9_farOf l G x4 x2 x3  h) (ci := 9) ly_244 (by decide) rfl rfl lm_X9_389 li_X9_farOf ls_X9_farOf ini_X9 lc_X9_farOf hd_X9_farOf (by decide) (Nat.le_of_ble_eq_true rfl) (by decide) rfl dX9_goes_67 (fun r_11 σ_12 hh => ?_)
          clear h
          obtain ⟨e9, h⟩ := hh
          subst σ_12
          refine J_clt F (tgt := 81) dX9_goes_70 (by decide) (fun c_13 => ?_) (fun c_13 => ?_)
          · have h := h.1 c_13
            refine J_il F 0 dX9_goes_81 rfl ?_
            refine J_is F (L' := [(4, .int r_5), (5, .int r_5), (0, .ref (gb G + 244)), (2, .int x2), (3, .int x3)]) dX9_goes_83 (by decide) rfl ?_
            refine J_aln F 2 dX9_goes_85 rfl rfl ?_
            refine J_gfa F (ci := 9) 25 rfl inX9 ly_244 (by decide) (by decide) rfl lf_X9_51 rfl dX9_goes_86 ?_
            refine J_aln F 2 dX9_goes_89 rfl rfl ?_
            refine J_gfi F (ci := 9) 26 rfl inX9 ly_244 (by decide) (by decide) rfl lf_X9_392 rfl dX9_goes_90 ?_
            refine J_il F 0 dX9_goes_93 rfl ?_
            obtain ⟨h_14, h⟩ := h
            refine J_iast F ly_257 h_14 dX9_goes_95 ?_
            refine J_st (fun σ_15 eσ_15 => ?_)
            have h := h σ_15 eσ_15
            refine J_aln F 2 dX9_goes_96 rfl rfl ?_
            refine J_dup F dX9_goes_97 rfl ?_
            refine J_gfi F (ci := 9) 26 rfl inX9 ly_244 (by decide) (by decide) rfl lf_X9_392 rfl dX9_goes_98 ?_
            refine J_ic F dX9_goes_101 ki_1 ?_
            refine J_iadd F dX9_goes_102 ?_
            refine J_pfi F (ci := 9) 26 rfl inX9 tyX9 tyX9_ok nmX9 ly_244 (by decide) (by decide) rfl lf_X9_392 rfl rfl (tyX9_ok 26 (by decide)) rfl rfl dX9_goes_103 ?_
            refine J_st (fun σ_16 eσ_16 => ?_)
            have h := h σ_16 eσ_16
            refine J_goto F (tgt := 20) dX9_goes_106 (by decide) ?_
            refine J_sub [2, 3, 4, 0] rfl ?_
            exact i20 _ _ h
          · have h := h.2 c_13
            refine J_aln F 1 dX9_goes_73 rfl rfl ?_
            refine J_ic F dX9_goes_74 ki_1 ?_
            refine J_pfi F (ci := 9) 27 rfl inX9 tyX9 tyX9_ok nmX9 ly_244 (by decide) (by decide) rfl lf_X9_395 rfl rfl (tyX9_ok 27 (by decide)) (nz_b (Or.inr rfl)) (nz_f (Or.inr rfl)) dX9_goes_75 ?_
            refine J_st (fun σ_17 eσ_17 => ?_)
            have h := h σ_17 eσ_17
            refine J_goto F (tgt := 106) dX9_goes_78 (by decide) ?_
            refine J_goto F (tgt := 20) dX9_goes_106 (by decide) ?_
            refine J_sub [1, 2, 3, 4] rfl ?_
            exact i20 _ _ h
set_option maxRecDepth 20000 in
set_option maxHeartbeats 4000000 in
theorem C_X9_goes (l : Launch) (G : Gp) (x1 : Int32) (x2 : Int32) (x3 : Int32)  {σ : St} {Q : St → Prop} (h : wp_X9_goes σ x1 x2 x3 Q) : Cn l yX9_goes cX9_goes 6 none 5 119 G [.ref (gb G + 244), .int x1, .int x2, .int x3] σ (qV Q) := by
  refine Cn_of (L := [(0, .ref (gb G + 244)), (1, .int x1), (2, .int x2), (3, .int x3)]) RX9 (by decide) rfl (Nat.le_of_ble_eq_true rfl) rfl ?_
  intro p e s m below meth c F
  unfold wp_X9_goes at h
  refine J_aln F 0 dX9_goes_0 rfl rfl ?_
  refine J_ic F dX9_goes_1 ki_1 ?_
  refine J_pfi F (ci := 9) 26 rfl inX9 tyX9 tyX9_ok nmX9 ly_244 (by decide) (by decide) rfl lf_X9_392 rfl rfl (tyX9_ok 26 (by decide)) rfl rfl dX9_goes_2 ?_
  refine J_st (fun σ_18 eσ_18 => ?_)
  have h := h σ_18 eσ_18
  refine J_aln F 0 dX9_goes_5 rfl rfl ?_
  refine J_gfa F (ci := 9) 25 rfl inX9 ly_244 (by decide) (by decide) rfl lf_X9_51 rfl dX9_goes_6 ?_
  refine J_ic F dX9_goes_9 ki_0 ?_
  refine J_iln F 1 dX9_goes_10 rfl rfl ?_
  refine J_iastc F ly_257 (by decide) (by decide) dX9_goes_11 ?_
  refine J_st (fun σ_19 eσ_19 => ?_)
  have h := h σ_19 eσ_19
  refine J_aln F 0 dX9_goes_12 rfl rfl ?_
  refine J_ic F dX9_goes_13 ki_0 ?_
  refine J_pfi F (ci := 9) 27 rfl inX9 tyX9 tyX9_ok nmX9 ly_244 (by decide) (by decide) rfl lf_X9_395 rfl rfl (tyX9_ok 27 (by decide)) (nz_b (Or.inl rfl)) (nz_f (Or.inl rfl)) dX9_goes_14 ?_
  refine J_st (fun σ_20 eσ_20 => ?_)
  have h := h σ_20 eσ_20
  refine J_iln F 1 dX9_goes_17 rfl rfl ?_
  refine J_is F (L' := [(4, .int x1), (0, .ref (gb G + 244)), (1, .int x1), (2, .int x2), (3, .int x3)]) dX9_goes_18 (by decide) rfl ?_
  refine J_sub [1, 3, 4, 0] rfl ?_
  obtain ⟨n9, h⟩ := h
  exact wk_X9_goes_20 F  n9 _ _ h
theorem dX9_way_0 : decode cX9_way 0 = .ok (.aload_n 0, 1) := by decide +kernel
theorem dX9_way_1 : decode cX9_way 1 = .ok (.iload_n 1, 1) := by decide +kernel
theorem dX9_way_2 : decode cX9_way 2 = .ok (.invokestatic 354, 3) := by decide +kernel
theorem dX9_way_5 : decode cX9_way 5 = .ok (.ifCond .eq 11, 3) := by decide +kernel
theorem dX9_way_8 : decode cX9_way 8 = .ok (.aload_n 0, 1) := by decide +kernel
theorem dX9_way_9 : decode cX9_way 9 = .ok (.iload_n 2, 1) := by decide +kernel
theorem dX9_way_10 : decode cX9_way 10 = .ok (.invokevirtual 370, 3) := by decide +kernel
theorem dX9_way_13 : decode cX9_way 13 = .ok (.ifCond .ne 7, 3) := by decide +kernel
theorem dX9_way_16 : decode cX9_way 16 = .ok (.iconst 1, 1) := by decide +kernel
theorem dX9_way_17 : decode cX9_way 17 = .ok (.goto 30, 3) := by decide +kernel
theorem dX9_way_20 : decode cX9_way 20 = .ok (.iload_n 3, 1) := by decide +kernel
theorem dX9_way_21 : decode cX9_way 21 = .ok (.iload 4, 2) := by decide +kernel
theorem dX9_way_23 : decode cX9_way 23 = .ok (.invokestatic 339, 3) := by decide +kernel
theorem dX9_way_26 : decode cX9_way 26 = .ok (.ifCond .ne 7, 3) := by decide +kernel
theorem dX9_way_29 : decode cX9_way 29 = .ok (.iconst 2, 1) := by decide +kernel
theorem dX9_way_30 : decode cX9_way 30 = .ok (.goto 17, 3) := by decide +kernel
theorem dX9_way_33 : decode cX9_way 33 = .ok (.aload_n 0, 1) := by decide +kernel
theorem dX9_way_34 : decode cX9_way 34 = .ok (.iload_n 1, 1) := by decide +kernel
theorem dX9_way_35 : decode cX9_way 35 = .ok (.iconst 1, 1) := by decide +kernel
theorem dX9_way_36 : decode cX9_way 36 = .ok (.invokevirtual 57, 3) := by decide +kernel
theorem dX9_way_39 : decode cX9_way 39 = .ok (.ifCond .ne 7, 3) := by decide +kernel
theorem dX9_way_42 : decode cX9_way 42 = .ok (.iconst 3, 1) := by decide +kernel
theorem dX9_way_43 : decode cX9_way 43 = .ok (.goto 4, 3) := by decide +kernel
theorem dX9_way_46 : decode cX9_way 46 = .ok (.iconst 0, 1) := by decide +kernel
theorem dX9_way_47 : decode cX9_way 47 = .ok (.putfield 54, 3) := by decide +kernel
theorem dX9_way_50 : decode cX9_way 50 = .ok (.aload_n 0, 1) := by decide +kernel
theorem dX9_way_51 : decode cX9_way 51 = .ok (.getfield 54, 3) := by decide +kernel
theorem dX9_way_54 : decode cX9_way 54 = .ok (.ifCond .le 5, 3) := by decide +kernel
theorem dX9_way_57 : decode cX9_way 57 = .ok (.iconst 0, 1) := by decide +kernel
theorem dX9_way_58 : decode cX9_way 58 = .ok (.ireturn, 1) := by decide +kernel
theorem dX9_way_59 : decode cX9_way 59 = .ok (.aload_n 0, 1) := by decide +kernel
theorem dX9_way_60 : decode cX9_way 60 = .ok (.iload_n 2, 1) := by decide +kernel
theorem dX9_way_61 : decode cX9_way 61 = .ok (.invokevirtual 132, 3) := by decide +kernel
theorem dX9_way_64 : decode cX9_way 64 = .ok (.aload_n 0, 1) := by decide +kernel
theorem dX9_way_65 : decode cX9_way 65 = .ok (.iload_n 1, 1) := by decide +kernel
theorem dX9_way_66 : decode cX9_way 66 = .ok (.iload_n 3, 1) := by decide +kernel
theorem dX9_way_67 : decode cX9_way 67 = .ok (.iload 4, 2) := by decide +kernel
theorem dX9_way_69 : decode cX9_way 69 = .ok (.invokevirtual 402, 3) := by decide +kernel
theorem dX9_way_72 : decode cX9_way 72 = .ok (.iload 5, 2) := by decide +kernel
theorem dX9_way_74 : decode cX9_way 74 = .ok (.iconst (-1), 1) := by decide +kernel
theorem dX9_way_75 : decode cX9_way 75 = .ok (.if_icmp .ne 21, 3) := by decide +kernel
theorem dX9_way_78 : decode cX9_way 78 = .ok (.aload_n 0, 1) := by decide +kernel
theorem dX9_way_79 : decode cX9_way 79 = .ok (.getfield 395, 3) := by decide +kernel
theorem dX9_way_82 : decode cX9_way 82 = .ok (.ifCond .eq 7, 3) := by decide +kernel
theorem dX9_way_85 : decode cX9_way 85 = .ok (.iconst (-1), 1) := by decide +kernel
theorem dX9_way_86 : decode cX9_way 86 = .ok (.goto 9, 3) := by decide +kernel
theorem dX9_way_89 : decode cX9_way 89 = .ok (.aload_n 0, 1) := by decide +kernel
theorem dX9_way_90 : decode cX9_way 90 = .ok (.getfield 392, 3) := by decide +kernel
theorem dX9_way_93 : decode cX9_way 93 = .ok (.iconst 1, 1) := by decide +kernel
theorem dX9_way_94 : decode cX9_way 94 = .ok (.isub, 1) := by decide +kernel
theorem dX9_way_95 : decode cX9_way 95 = .ok (.ireturn, 1) := by decide +kernel
theorem dX9_way_96 : decode cX9_way 96 = .ok (.iload 5, 2) := by decide +kernel
theorem dX9_way_98 : decode cX9_way 98 = .ok (.iconst 0, 1) := by decide +kernel
theorem dX9_way_99 : decode cX9_way 99 = .ok (.aload_n 0, 1) := by decide +kernel
theorem dX9_way_100 : decode cX9_way 100 = .ok (.getfield 392, 3) := by decide +kernel
theorem dX9_way_103 : decode cX9_way 103 = .ok (.iconst 1, 1) := by decide +kernel
theorem dX9_way_104 : decode cX9_way 104 = .ok (.isub, 1) := by decide +kernel
theorem dX9_way_105 : decode cX9_way 105 = .ok (.invokestatic 77, 3) := by decide +kernel
theorem dX9_way_108 : decode cX9_way 108 = .ok (.ifCond .eq 13, 3) := by decide +kernel
theorem dX9_way_111 : decode cX9_way 111 = .ok (.aload_n 0, 1) := by decide +kernel
theorem dX9_way_112 : decode cX9_way 112 = .ok (.getfield 51, 3) := by decide +kernel
theorem dX9_way_115 : decode cX9_way 115 = .ok (.iload 5, 2) := by decide +kernel
theorem dX9_way_117 : decode cX9_way 117 = .ok (.iaload, 1) := by decide +kernel
theorem dX9_way_118 : decode cX9_way 118 = .ok (.goto 4, 3) := by decide +kernel
theorem dX9_way_121 : decode cX9_way 121 = .ok (.iconst (-1), 1) := by decide +kernel
theorem dX9_way_122 : decode cX9_way 122 = .ok (.ireturn, 1) := by decide +kernel
set_option maxRecDepth 20000 in
set_option maxHeartbeats 4000000 in
theorem wk_X9_way_47 {p : Program} {l : Launch} {e : Env} {s : State} {m : MethodId} {args : Array Value} {below : List Frame} {meth : Method} {c : Code} {G : Gp} {σ : St} {x1 : Int32} {x2 : Int32} {x3 : Int32} {x4 : Int32} {x5 : Int32} {t1 : Int32}  {Q : Int32 → St → Prop} (F : FX p s m args meth c cX9_way 6 (some .int) RX9 G)   (h : wp_X9_way_47 σ x1 x2 x3 x4 x5 t1 Q) : J p l e (rmF 6 144) s m args below meth c 6 G (MQ below (QQ G (qI Q)) args s 0 0 (fr G)) 0 0 47 [(0, .ref (gb G + 244)), (1, .int x1), (2, .int x2), (3, .int x3), (4, .int x4), (5, .int x5)] [.int t1, .ref (gb G + 244)] σ := by
  unfold wp_X9_way_47 at h
  refine J_pfi F (ci := 9) 0 rfl inX9 tyX9 tyX9_ok nmX9 ly_244 (by decide) (by decide) rfl lf_X9_54 rfl rfl (tyX9_ok 0 (by decide)) rfl rfl dX9_way_47 ?_
  refine J_st (fun σ_1 eσ_1 => ?_)
  have h := h σ_1 eσ_1
  refine J_aln F 0 dX9_way_50 rfl rfl ?_
  refine J_gfi F (ci := 9) 0 rfl inX9 ly_244 (by decide) (by decide) rfl lf_X9_54 rfl dX9_way_51 ?_
  refine J_zle F (tgt := 59) dX9_way_54 (by decide) (fun c_2 => ?_) (fun c_2 => ?_)
  · have h := h.1 c_2
    refine J_aln F 0 dX9_way_59 rfl rfl ?_
    refine J_iln F 2 dX9_way_60 rfl rfl ?_
    refine J_callVv F (As := [.int x2]) (st := []) (C_X9_laysList l G x2  h) (ci := 9) ly_244 (by decide) rfl rfl lm_X9_132 li_X9_laysList ls_X9_laysList ini_X9 lc_X9_laysList hd_X9_laysList (by decide) (Nat.le_of_ble_eq_true rfl) (by decide) rfl dX9_way_61 (fun σ_3 h => ?_)
    refine J_aln F 0 dX9_way_64 rfl rfl ?_
    refine J_iln F 1 dX9_way_65 rfl rfl ?_
    refine J_iln F 3 dX9_way_66 rfl rfl ?_
    refine J_il F 4 dX9_way_67 rfl ?_
    refine J_callVv F (As := [.int x1, .int x3, .int x4]) (st := []) (C_X9_goes l G x1 x3 x4  h) (ci := 9) ly_244 (by decide) rfl rfl lm_X9_402 li_X9_goes ls_X9_goes ini_X9 lc_X9_goes hd_X9_goes (by decide) (Nat.le_of_ble_eq_true rfl) (by decide) rfl dX9_way_69 (fun σ_4 h => ?_)
    refine J_il F 5 dX9_way_72 rfl ?_
    refine J_ic F dX9_way_74 ki_m1 ?_
    refine J_cne F (tgt := 96) dX9_way_75 (by decide) (fun c_5 => ?_) (fun c_5 => ?_)
    · have h := h.1 c_5
      refine J_il F 5 dX9_way_96 rfl ?_
      refine J_ic F dX9_way_98 ki_0 ?_
      refine J_aln F 0 dX9_way_99 rfl rfl ?_
      refine J_gfi F (ci := 9) 26 rfl inX9 ly_244 (by decide) (by decide) rfl lf_X9_392 rfl dX9_way_100 ?_
      refine J_ic F dX9_way_103 ki_1 ?_
      refine J_isub F dX9_way_104 ?_
      refine J_callSi F (As := [.int x5, .int (nI 0), .int ((σ_4 244 26) - (nI 1))]) (st := []) (C_X9_isIn l G x5 (nI 0) ((σ_4 244 26) - (nI 1))  h) lm_X9_77 li_X9_isIn ini_X9 lc_X9_isIn hd_X9_isIn (by decide) (Nat.le_of_ble_eq_true rfl) (by decide) rfl dX9_way_105 (fun r_6 σ_7 hh => ?_)
      clear h
      obtain ⟨e9, h⟩ := hh
      subst σ_7
      refine J_zeq F (tgt := 121) dX9_way_108 (by decide) (fun c_8 => ?_) (fun c_8 => ?_)
      · have h := h.1 c_8
        refine J_ic F dX9_way_121 ki_m1 ?_
        exact J_reti F ⟨_, rfl, h⟩ dX9_way_122
      · have h := h.2 c_8
        refine J_aln F 0 dX9_way_111 rfl rfl ?_
        refine J_gfa F (ci := 9) 25 rfl inX9 ly_244 (by decide) (by decide) rfl lf_X9_51 rfl dX9_way_112 ?_
        refine J_il F 5 dX9_way_115 rfl ?_
        obtain ⟨h_9, h⟩ := h
        refine J_iald F ly_257 h_9 dX9_way_117 ?_
        refine J_goto F (tgt := 122) dX9_way_118 (by decide) ?_
        exact J_reti F ⟨_, rfl, h⟩ dX9_way_122
    · have h := h.2 c_5
      refine J_aln F 0 dX9_way_78 rfl rfl ?_
      refine J_gfi F (ci := 9) 27 rfl inX9 ly_244 (by decide) (by decide) rfl lf_X9_395 rfl dX9_way_79 ?_
      refine J_zeq F (tgt := 89) dX9_way_82 (by decide) (fun c_10 => ?_) (fun c_10 => ?_)
      · have h := h.1 c_10
        refine J_aln F 0 dX9_way_89 rfl rfl ?_
        refine J_gfi F (ci := 9) 26 rfl inX9 ly_244 (by decide) (by decide) rfl lf_X9_392 rfl dX9_way_90 ?_
        refine J_ic F dX9_way_93 ki_1 ?_
        refine J_isub F dX9_way_94 ?_
        exact J_reti F ⟨_, rfl, h⟩ dX9_way_95
      · have h := h.2 c_10
        refine J_ic F dX9_way_85 ki_m1 ?_
        refine J_goto F (tgt := 95) dX9_way_86 (by decide) ?_
        exact J_reti F ⟨_, rfl, h⟩ dX9_way_95
  · have h := h.2 c_2
    refine J_ic F dX9_way_57 ki_0 ?_
    exact J_reti F ⟨_, rfl, h⟩ dX9_way_58
set_option maxRecDepth 20000 in
set_option maxHeartbeats 4000000 in
theorem wk_X9_way_16 {p : Program} {l : Launch} {e : Env} {s : State} {m : MethodId} {args : Array Value} {below : List Frame} {meth : Method} {c : Code} {G : Gp} {σ : St} {x1 : Int32} {x2 : Int32} {x3 : Int32} {x4 : Int32} {x5 : Int32}  {Q : Int32 → St → Prop} (F : FX p s m args meth c cX9_way 6 (some .int) RX9 G)   (h : wp_X9_way_16 σ x1 x2 x3 x4 x5 Q) : J p l e (rmF 6 144) s m args below meth c 6 G (MQ below (QQ G (qI Q)) args s 0 0 (fr G)) 0 0 16 [(0, .ref (gb G + 244)), (1, .int x1), (2, .int x2), (3, .int x3), (4, .int x4), (5, .int x5)] [.ref (gb G + 244)] σ := by
  unfold wp_X9_way_16 at h
  refine J_ic F dX9_way_16 ki_1 ?_
  refine J_goto F (tgt := 47) dX9_way_17 (by decide) ?_
  exact wk_X9_way_47 F  h
set_option maxRecDepth 20000 in
set_option maxHeartbeats 4000000 in
theorem C_X9_way (l : Launch) (G : Gp) (x1 : Int32) (x2 : Int32) (x3 : Int32) (x4 : Int32) (x5 : Int32)  {σ : St} {Q : Int32 → St → Prop} (h : wp_X9_way σ x1 x2 x3 x4 x5 Q) : Cn l yX9_way cX9_way 6 (some .int) 6 144 G [.ref (gb G + 244), .int x1, .int x2, .int x3, .int x4, .int x5] σ (qI Q) := by
  refine Cn_of (L := [(0, .ref (gb G + 244)), (1, .int x1), (2, .int x2), (3, .int x3), (4, .int x4), (5, .int x5)]) RX9 (by decide) rfl (Nat.le_of_ble_eq_true rfl) rfl ?_
  intro p e s m below meth c F
  unfold wp_X9_way at h
  refine J_aln F 0 dX9_way_0 rfl rfl ?_
  refine J_iln F 1 dX9_way_1 rfl rfl ?_
  refine J_callSi F (As := [.int x1]) (st := [.ref (gb G + 244)]) (C_X9_isNode l G x1  h) lm_X9_354 li_X9_isNode ini_X9 lc_X9_isNode hd_X9_isNode (by decide) (Nat.le_of_ble_eq_true rfl) (by decide) rfl dX9_way_2 (fun r_11 σ_12 hh => ?_)
  clear h
  obtain ⟨e9, h⟩ := hh
  subst σ_12
  refine J_zeq F (tgt := 16) dX9_way_5 (by decide) (fun c_13 => ?_) (fun c_13 => ?_)
  · have h := h.1 c_13
    exact wk_X9_way_16 F  h
  · have h := h.2 c_13
    refine J_aln F 0 dX9_way_8 rfl rfl ?_
    refine J_iln F 2 dX9_way_9 rfl rfl ?_
    refine J_callVi F (As := [.int x2]) (st := [.ref (gb G + 244)]) (C_X9_isReality l G x2  h) (ci := 9) ly_244 (by decide) rfl rfl lm_X9_370 li_X9_isReality ls_X9_isReality ini_X9 lc_X9_isReality hd_X9_isReality (by decide) (Nat.le_of_ble_eq_true rfl) (by decide) rfl dX9_way_10 (fun r_14 σ_15 hh => ?_)
    clear h
    obtain ⟨e9, h⟩ := hh
    subst σ_15
    refine J_zne F (tgt := 20) dX9_way_13 (by decide) (fun c_16 => ?_) (fun c_16 => ?_)
    · have h := h.1 c_16
      refine J_iln F 3 dX9_way_20 rfl rfl ?_
      refine J_il F 4 dX9_way_21 rfl ?_
      refine J_callSi F (As := [.int x3, .int x4]) (st := [.ref (gb G + 244)]) (C_X9_isCell l G x3 x4  h) lm_X9_339 li_X9_isCell ini_X9 lc_X9_isCell hd_X9_isCell (by decide) (Nat.le_of_ble_eq_true rfl) (by decide) rfl dX9_way_23 (fun r_17 σ_18 hh => ?_)
      clear h
      obtain ⟨e9, h⟩ := hh
      subst σ_18
      refine J_zne F (tgt := 33) dX9_way_26 (by decide) (fun c_19 => ?_) (fun c_19 => ?_)
      · have h := h.1 c_19
        refine J_aln F 0 dX9_way_33 rfl rfl ?_
        refine J_iln F 1 dX9_way_34 rfl rfl ?_
        refine J_ic F dX9_way_35 ki_1 ?_
        refine J_callVi F (As := [.int x1, .int (nI 1)]) (st := [.ref (gb G + 244)]) (C_X9_isState l G x1 (nI 1)  h) (ci := 9) ly_244 (by decide) rfl rfl lm_X9_57 li_X9_isState ls_X9_isState ini_X9 lc_X9_isState hd_X9_isState (by decide) (Nat.le_of_ble_eq_true rfl) (by decide) rfl dX9_way_36 (fun r_20 σ_21 hh => ?_)
        clear h
        obtain ⟨e9, h⟩ := hh
        subst σ_21
        refine J_zne F (tgt := 46) dX9_way_39 (by decide) (fun c_22 => ?_) (fun c_22 => ?_)
        · have h := h.1 c_22
          refine J_ic F dX9_way_46 ki_0 ?_
          exact wk_X9_way_47 F  h
        · have h := h.2 c_22
          refine J_ic F dX9_way_42 ki_3 ?_
          refine J_goto F (tgt := 47) dX9_way_43 (by decide) ?_
          exact wk_X9_way_47 F  h
      · have h := h.2 c_19
        refine J_ic F dX9_way_29 ki_2 ?_
        refine J_goto F (tgt := 47) dX9_way_30 (by decide) ?_
        exact wk_X9_way_47 F  h
    · have h := h.2 c_16
      exact wk_X9_way_16 F  h
theorem dX9_farFromKey_0 : decode cX9_farFromKey 0 = .ok (.ldc_w 385, 3) := by decide +kernel
theorem dX9_farFromKey_3 : decode cX9_farFromKey 3 = .ok (.istore_n 3, 1) := by decide +kernel
theorem dX9_farFromKey_4 : decode cX9_farFromKey 4 = .ok (.iconst 0, 1) := by decide +kernel
theorem dX9_farFromKey_5 : decode cX9_farFromKey 5 = .ok (.istore 4, 2) := by decide +kernel
theorem dX9_farFromKey_7 : decode cX9_farFromKey 7 = .ok (.iload 4, 2) := by decide +kernel
theorem dX9_farFromKey_9 : decode cX9_farFromKey 9 = .ok (.aload_n 0, 1) := by decide +kernel
theorem dX9_farFromKey_10 : decode cX9_farFromKey 10 = .ok (.getfield 7, 3) := by decide +kernel
theorem dX9_farFromKey_13 : decode cX9_farFromKey 13 = .ok (.bipush 37, 2) := by decide +kernel
theorem dX9_farFromKey_15 : decode cX9_farFromKey 15 = .ok (.iaload, 1) := by decide +kernel
theorem dX9_farFromKey_16 : decode cX9_farFromKey 16 = .ok (.if_icmp .ge 50, 3) := by decide +kernel
theorem dX9_farFromKey_19 : decode cX9_farFromKey 19 = .ok (.aload_n 0, 1) := by decide +kernel
theorem dX9_farFromKey_20 : decode cX9_farFromKey 20 = .ok (.iload_n 2, 1) := by decide +kernel
theorem dX9_farFromKey_21 : decode cX9_farFromKey 21 = .ok (.iload 4, 2) := by decide +kernel
theorem dX9_farFromKey_23 : decode cX9_farFromKey 23 = .ok (.invokevirtual 165, 3) := by decide +kernel
theorem dX9_farFromKey_26 : decode cX9_farFromKey 26 = .ok (.ifCond .ne 6, 3) := by decide +kernel
theorem dX9_farFromKey_29 : decode cX9_farFromKey 29 = .ok (.goto 31, 3) := by decide +kernel
theorem dX9_farFromKey_32 : decode cX9_farFromKey 32 = .ok (.aload_n 0, 1) := by decide +kernel
theorem dX9_farFromKey_33 : decode cX9_farFromKey 33 = .ok (.iload 4, 2) := by decide +kernel
theorem dX9_farFromKey_35 : decode cX9_farFromKey 35 = .ok (.invokevirtual 132, 3) := by decide +kernel
theorem dX9_farFromKey_38 : decode cX9_farFromKey 38 = .ok (.iload_n 3, 1) := by decide +kernel
theorem dX9_farFromKey_39 : decode cX9_farFromKey 39 = .ok (.aload_n 0, 1) := by decide +kernel
theorem dX9_farFromKey_40 : decode cX9_farFromKey 40 = .ok (.iload_n 1, 1) := by decide +kernel
theorem dX9_farFromKey_41 : decode cX9_farFromKey 41 = .ok (.iload_n 2, 1) := by decide +kernel
theorem dX9_farFromKey_42 : decode cX9_farFromKey 42 = .ok (.iload 4, 2) := by decide +kernel
theorem dX9_farFromKey_44 : decode cX9_farFromKey 44 = .ok (.invokestatic 156, 3) := by decide +kernel
theorem dX9_farFromKey_47 : decode cX9_farFromKey 47 = .ok (.iload_n 2, 1) := by decide +kernel
theorem dX9_farFromKey_48 : decode cX9_farFromKey 48 = .ok (.iload 4, 2) := by decide +kernel
theorem dX9_farFromKey_50 : decode cX9_farFromKey 50 = .ok (.invokestatic 159, 3) := by decide +kernel
theorem dX9_farFromKey_53 : decode cX9_farFromKey 53 = .ok (.invokevirtual 389, 3) := by decide +kernel
theorem dX9_farFromKey_56 : decode cX9_farFromKey 56 = .ok (.invokestatic 382, 3) := by decide +kernel
theorem dX9_farFromKey_59 : decode cX9_farFromKey 59 = .ok (.istore_n 3, 1) := by decide +kernel
theorem dX9_farFromKey_60 : decode cX9_farFromKey 60 = .ok (.iinc 4 1, 3) := by decide +kernel
theorem dX9_farFromKey_63 : decode cX9_farFromKey 63 = .ok (.goto (-56), 3) := by decide +kernel
theorem dX9_farFromKey_66 : decode cX9_farFromKey 66 = .ok (.iload_n 3, 1) := by decide +kernel
theorem dX9_farFromKey_67 : decode cX9_farFromKey 67 = .ok (.ireturn, 1) := by decide +kernel
set_option maxRecDepth 20000 in
set_option maxHeartbeats 4000000 in
theorem wk_X9_farFromKey_7 {p : Program} {l : Launch} {e : Env} {s : State} {m : MethodId} {args : Array Value} {below : List Frame} {meth : Method} {c : Code} {G : Gp} {x1 : Int32} {x2 : Int32}  {Q : Int32 → St → Prop} (F : FX p s m args meth c cX9_farFromKey 5 (some .int) RX9 G)   : ∀ (n9 : Nat) (σ : St) (x3 : Int32) (x4 : Int32), LP3 (wp_X9_farFromKey_7 x1 x2 Q) n9 σ x3 x4 → J p l e (rmF 3 69) s m args below meth c 5 G (MQ below (QQ G (qI Q)) args s 0 0 (fr G)) 0 0 7 [(0, .ref (gb G + 244)), (1, .int x1), (2, .int x2), (3, .int x3), (4, .int x4)] [] σ := by
  intro n9
  induction n9 with
  | zero => intro σ x3 x4 h; exact h.elim
  | succ n9 i7 =>
    intro σ x3 x4 h
    have h : wp_X9_farFromKey_7 x1 x2 Q (LP3 (wp_X9_farFromKey_7 x1 x2 Q) n9) σ x3 x4 := h
    unfold wp_X9_farFromKey_7 at h
    refine J_il F 4 dX9_farFromKey_7 rfl ?_
    refine J_aln F 0 dX9_farFromKey_9 rfl rfl ?_
    refine J_gfa F (ci := 9) 1 rfl inX9 ly_244 (by decide) (by decide) rfl lf_X9_7 rfl dX9_farFromKey_10 ?_
    refine J_bi F dX9_farFromKey_13 kb_37 ?_
    refine J_ialdc F ly_245 (by decide) (by decide) dX9_farFromKey_15 ?_
    refine J_cge F (tgt := 66) dX9_farFromKey_16 (by decide) (fun c_1 => ?_) (fun c_1 => ?_)
    · have h := h.1 c_1
      refine J_iln F 3 dX9_farFromKey_66 rfl rfl ?_
      exact J_reti F ⟨_, rfl, h⟩ dX9_farFromKey_67
    · have h := h.2 c_1
      refine J_aln F 0 dX9_farFromKey_19 rfl rfl ?_
      refine J_iln F 2 dX9_farFromKey_20 rfl rfl ?_
      refine J_il F 4 dX9_farFromKey_21 rfl ?_
      refine J_callVi F (As := [.int x2, .int x4]) (st := []) (C_X9_isHeld l G x2 x4  h) (ci := 9) ly_244 (by decide) rfl rfl lm_X9_165 li_X9_isHeld ls_X9_isHeld ini_X9 lc_X9_isHeld hd_X9_isHeld (by decide) (Nat.le_of_ble_eq_true rfl) (by decide) rfl dX9_farFromKey_23 (fun r_2 σ_3 hh => ?_)
      clear h
      obtain ⟨e9, h⟩ := hh
      subst σ_3
      refine J_zne F (tgt := 32) dX9_farFromKey_26 (by decide) (fun c_4 => ?_) (fun c_4 => ?_)
      · have h := h.1 c_4
        refine J_aln F 0 dX9_farFromKey_32 rfl rfl ?_
        refine J_il F 4 dX9_farFromKey_33 rfl ?_
        refine J_callVv F (As := [.int x4]) (st := []) (C_X9_laysList l G x4  h) (ci := 9) ly_244 (by decide) rfl rfl lm_X9_132 li_X9_laysList ls_X9_laysList ini_X9 lc_X9_laysList hd_X9_laysList (by decide) (Nat.le_of_ble_eq_true rfl) (by decide) rfl dX9_farFromKey_35 (fun σ_5 h => ?_)
        refine J_iln F 3 dX9_farFromKey_38 rfl rfl ?_
        refine J_aln F 0 dX9_farFromKey_39 rfl rfl ?_
        refine J_iln F 1 dX9_farFromKey_40 rfl rfl ?_
        refine J_iln F 2 dX9_farFromKey_41 rfl rfl ?_
        refine J_il F 4 dX9_farFromKey_42 rfl ?_
        refine J_callSi F (As := [.int x2, .int x4]) (st := [.int x1, .ref (gb G + 244), .int x3]) (C_X9_pointX l G x2 x4  h) lm_X9_156 li_X9_pointX ini_X9 lc_X9_pointX hd_X9_pointX (by decide) (Nat.le_of_ble_eq_true rfl) (by decide) rfl dX9_farFromKey_44 (fun r_6 σ_7 hh => ?_)
        clear h
        obtain ⟨e9, h⟩ := hh
        subst σ_7
        refine J_iln F 2 dX9_farFromKey_47 rfl rfl ?_
        refine J_il F 4 dX9_farFromKey_48 rfl ?_
        refine J_callSi F (As := [.int x2, .int x4]) (st := [.int r_6, .int x1, .ref (gb G + 244), .int x3]) (C_X9_pointY l G x2 x4  h) lm_X9_159 li_X9_pointY ini_X9 lc_X9_pointY hd_X9_pointY (by decide) (Nat.le_of_ble_eq_true rfl) (by decide) rfl dX9_farFromKey_50 (fun r_8 σ_9 hh => ?_)
        clear h
        obtain ⟨e9, h⟩ := hh
        subst σ_9
        refine J_callVi F (As := [.int x1, .int r_6, .int r_8]) (st := [.int x3]) (C_X9_farOf l G x1 r_6 r_8  h) (ci := 9) ly_244 (by decide) rfl rfl lm_X9_389 li_X9_farOf ls_X9_farOf ini_X9 lc_X9_farOf hd_X9_farOf (by decide) (Nat.le_of_ble_eq_true rfl) (by decide) rfl dX9_farFromKey_53 (fun r_10 σ_11 hh => ?_)
        clear h
        obtain ⟨e9, h⟩ := hh
        subst σ_11
        refine J_callSi F (As := [.int x3, .int r_10]) (st := []) (C_X9_lesser l G x3 r_10  h) lm_X9_382 li_X9_lesser ini_X9 lc_X9_lesser hd_X9_lesser (by decide) (Nat.le_of_ble_eq_true rfl) (by decide) rfl dX9_farFromKey_56 (fun r_12 σ_13 hh => ?_)
        clear h
        obtain ⟨e9, h⟩ := hh
        subst σ_13
        refine J_isn F (L' := [(3, .int r_12), (0, .ref (gb G + 244)), (1, .int x1), (2, .int x2), (4, .int x4)]) dX9_farFromKey_59 rfl (by decide) rfl ?_
        obtain ⟨x4_14, ex4_14⟩ : ∃ z : Int32, z = x4 + (nI 1) := ⟨_, rfl⟩
        have h := h x4_14 ex4_14
        refine J_iinc F (v := x4_14) (L' := [(4, .int x4_14), (3, .int r_12), (0, .ref (gb G + 244)), (1, .int x1), (2, .int x2)]) 4 dX9_farFromKey_60 rfl (by rw [ki_1, ex4_14]) (by decide) rfl ?_
        refine J_goto F (tgt := 7) dX9_farFromKey_63 (by decide) ?_
        refine J_sub [2, 3, 4, 1, 0] rfl ?_
        exact i7 _ _ _ h
      · have h := h.2 c_4
        refine J_goto F (tgt := 60) dX9_farFromKey_29 (by decide) ?_
        obtain ⟨x4_15, ex4_15⟩ : ∃ z : Int32, z = x4 + (nI 1) := ⟨_, rfl⟩
        have h := h x4_15 ex4_15
        refine J_iinc F (v := x4_15) (L' := [(4, .int x4_15), (0, .ref (gb G + 244)), (1, .int x1), (2, .int x2), (3, .int x3)]) 4 dX9_farFromKey_60 rfl (by rw [ki_1, ex4_15]) (by decide) rfl ?_
        refine J_goto F (tgt := 7) dX9_farFromKey_63 (by decide) ?_
        refine J_sub [1, 2, 3, 4, 0] rfl ?_
        exact i7 _ _ _ h
set_option maxRecDepth 20000 in
set_option maxHeartbeats 4000000 in
theorem C_X9_farFromKey (l : Launch) (G : Gp) (x1 : Int32) (x2 : Int32)  {σ : St} {Q : Int32 → St → Prop} (h : wp_X9_farFromKey σ x1 x2 Q) : Cn l yX9_farFromKey cX9_farFromKey 5 (some .int) 3 69 G [.ref (gb G + 244), .int x1, .int x2] σ (qI Q) := by
  refine Cn_of (L := [(0, .ref (gb G + 244)), (1, .int x1), (2, .int x2)]) RX9 (by decide) rfl (Nat.le_of_ble_eq_true rfl) rfl ?_
  intro p e s m below meth c F
  unfold wp_X9_farFromKey at h
  refine J_ldcw F dX9_farFromKey_0 lk_X9_385 ?_
  refine J_isn F (L' := [(3, .int (nI 1000000)), (0, .ref (gb G + 244)), (1, .int x1), (2, .int x2)]) dX9_farFromKey_3 rfl (by decide) rfl ?_
  refine J_ic F dX9_farFromKey_4 ki_0 ?_
  refine J_is F (L' := [(4, .int (nI 0)), (3, .int (nI 1000000)), (0, .ref (gb G + 244)), (1, .int x1), (2, .int x2)]) dX9_farFromKey_5 (by decide) rfl ?_
  refine J_sub [2, 3, 4, 1, 0] rfl ?_
  obtain ⟨n9, h⟩ := h
  exact wk_X9_farFromKey_7 F  n9 _ _ _ h
theorem dX9_nextToKey_0 : decode cX9_nextToKey 0 = .ok (.iconst (-1), 1) := by decide +kernel
theorem dX9_nextToKey_1 : decode cX9_nextToKey 1 = .ok (.istore_n 3, 1) := by decide +kernel
theorem dX9_nextToKey_2 : decode cX9_nextToKey 2 = .ok (.aload_n 0, 1) := by decide +kernel
theorem dX9_nextToKey_3 : decode cX9_nextToKey 3 = .ok (.ldc_w 385, 3) := by decide +kernel
theorem dX9_nextToKey_6 : decode cX9_nextToKey 6 = .ok (.putfield 405, 3) := by decide +kernel
theorem dX9_nextToKey_9 : decode cX9_nextToKey 9 = .ok (.iconst 0, 1) := by decide +kernel
theorem dX9_nextToKey_10 : decode cX9_nextToKey 10 = .ok (.istore 4, 2) := by decide +kernel
theorem dX9_nextToKey_12 : decode cX9_nextToKey 12 = .ok (.iload 4, 2) := by decide +kernel
theorem dX9_nextToKey_14 : decode cX9_nextToKey 14 = .ok (.aload_n 0, 1) := by decide +kernel
theorem dX9_nextToKey_15 : decode cX9_nextToKey 15 = .ok (.getfield 7, 3) := by decide +kernel
theorem dX9_nextToKey_18 : decode cX9_nextToKey 18 = .ok (.bipush 37, 2) := by decide +kernel
theorem dX9_nextToKey_20 : decode cX9_nextToKey 20 = .ok (.iaload, 1) := by decide +kernel
theorem dX9_nextToKey_21 : decode cX9_nextToKey 21 = .ok (.if_icmp .ge 106, 3) := by decide +kernel
theorem dX9_nextToKey_24 : decode cX9_nextToKey 24 = .ok (.aload_n 0, 1) := by decide +kernel
theorem dX9_nextToKey_25 : decode cX9_nextToKey 25 = .ok (.iload_n 2, 1) := by decide +kernel
theorem dX9_nextToKey_26 : decode cX9_nextToKey 26 = .ok (.iload 4, 2) := by decide +kernel
theorem dX9_nextToKey_28 : decode cX9_nextToKey 28 = .ok (.invokevirtual 165, 3) := by decide +kernel
theorem dX9_nextToKey_31 : decode cX9_nextToKey 31 = .ok (.ifCond .ne 6, 3) := by decide +kernel
theorem dX9_nextToKey_34 : decode cX9_nextToKey 34 = .ok (.goto 87, 3) := by decide +kernel
theorem dX9_nextToKey_37 : decode cX9_nextToKey 37 = .ok (.aload_n 0, 1) := by decide +kernel
theorem dX9_nextToKey_38 : decode cX9_nextToKey 38 = .ok (.iload 4, 2) := by decide +kernel
theorem dX9_nextToKey_40 : decode cX9_nextToKey 40 = .ok (.invokevirtual 132, 3) := by decide +kernel
theorem dX9_nextToKey_43 : decode cX9_nextToKey 43 = .ok (.aload_n 0, 1) := by decide +kernel
theorem dX9_nextToKey_44 : decode cX9_nextToKey 44 = .ok (.iload_n 1, 1) := by decide +kernel
theorem dX9_nextToKey_45 : decode cX9_nextToKey 45 = .ok (.iload_n 2, 1) := by decide +kernel
theorem dX9_nextToKey_46 : decode cX9_nextToKey 46 = .ok (.iload 4, 2) := by decide +kernel
theorem dX9_nextToKey_48 : decode cX9_nextToKey 48 = .ok (.invokestatic 156, 3) := by decide +kernel
theorem dX9_nextToKey_51 : decode cX9_nextToKey 51 = .ok (.iload_n 2, 1) := by decide +kernel
theorem dX9_nextToKey_52 : decode cX9_nextToKey 52 = .ok (.iload 4, 2) := by decide +kernel
theorem dX9_nextToKey_54 : decode cX9_nextToKey 54 = .ok (.invokestatic 159, 3) := by decide +kernel
theorem dX9_nextToKey_57 : decode cX9_nextToKey 57 = .ok (.invokevirtual 399, 3) := by decide +kernel
theorem dX9_nextToKey_60 : decode cX9_nextToKey 60 = .ok (.istore 5, 2) := by decide +kernel
theorem dX9_nextToKey_62 : decode cX9_nextToKey 62 = .ok (.iload 5, 2) := by decide +kernel
theorem dX9_nextToKey_64 : decode cX9_nextToKey 64 = .ok (.iconst (-1), 1) := by decide +kernel
theorem dX9_nextToKey_65 : decode cX9_nextToKey 65 = .ok (.if_icmp .eq 56, 3) := by decide +kernel
theorem dX9_nextToKey_68 : decode cX9_nextToKey 68 = .ok (.aload_n 0, 1) := by decide +kernel
theorem dX9_nextToKey_69 : decode cX9_nextToKey 69 = .ok (.iload 5, 2) := by decide +kernel
theorem dX9_nextToKey_71 : decode cX9_nextToKey 71 = .ok (.iload_n 2, 1) := by decide +kernel
theorem dX9_nextToKey_72 : decode cX9_nextToKey 72 = .ok (.iload 4, 2) := by decide +kernel
theorem dX9_nextToKey_74 : decode cX9_nextToKey 74 = .ok (.invokestatic 156, 3) := by decide +kernel
theorem dX9_nextToKey_77 : decode cX9_nextToKey 77 = .ok (.iload_n 2, 1) := by decide +kernel
theorem dX9_nextToKey_78 : decode cX9_nextToKey 78 = .ok (.iload 4, 2) := by decide +kernel
theorem dX9_nextToKey_80 : decode cX9_nextToKey 80 = .ok (.invokestatic 159, 3) := by decide +kernel
theorem dX9_nextToKey_83 : decode cX9_nextToKey 83 = .ok (.invokevirtual 389, 3) := by decide +kernel
theorem dX9_nextToKey_86 : decode cX9_nextToKey 86 = .ok (.aload_n 0, 1) := by decide +kernel
theorem dX9_nextToKey_87 : decode cX9_nextToKey 87 = .ok (.getfield 405, 3) := by decide +kernel
theorem dX9_nextToKey_90 : decode cX9_nextToKey 90 = .ok (.if_icmp .lt 6, 3) := by decide +kernel
theorem dX9_nextToKey_93 : decode cX9_nextToKey 93 = .ok (.goto 28, 3) := by decide +kernel
theorem dX9_nextToKey_96 : decode cX9_nextToKey 96 = .ok (.iload 5, 2) := by decide +kernel
theorem dX9_nextToKey_98 : decode cX9_nextToKey 98 = .ok (.istore_n 3, 1) := by decide +kernel
theorem dX9_nextToKey_99 : decode cX9_nextToKey 99 = .ok (.aload_n 0, 1) := by decide +kernel
theorem dX9_nextToKey_100 : decode cX9_nextToKey 100 = .ok (.aload_n 0, 1) := by decide +kernel
theorem dX9_nextToKey_101 : decode cX9_nextToKey 101 = .ok (.iload 5, 2) := by decide +kernel
theorem dX9_nextToKey_103 : decode cX9_nextToKey 103 = .ok (.iload_n 2, 1) := by decide +kernel
theorem dX9_nextToKey_104 : decode cX9_nextToKey 104 = .ok (.iload 4, 2) := by decide +kernel
theorem dX9_nextToKey_106 : decode cX9_nextToKey 106 = .ok (.invokestatic 156, 3) := by decide +kernel
theorem dX9_nextToKey_109 : decode cX9_nextToKey 109 = .ok (.iload_n 2, 1) := by decide +kernel
theorem dX9_nextToKey_110 : decode cX9_nextToKey 110 = .ok (.iload 4, 2) := by decide +kernel
theorem dX9_nextToKey_112 : decode cX9_nextToKey 112 = .ok (.invokestatic 159, 3) := by decide +kernel
theorem dX9_nextToKey_115 : decode cX9_nextToKey 115 = .ok (.invokevirtual 389, 3) := by decide +kernel
theorem dX9_nextToKey_118 : decode cX9_nextToKey 118 = .ok (.putfield 405, 3) := by decide +kernel
theorem dX9_nextToKey_121 : decode cX9_nextToKey 121 = .ok (.iinc 4 1, 3) := by decide +kernel
theorem dX9_nextToKey_124 : decode cX9_nextToKey 124 = .ok (.goto (-112), 3) := by decide +kernel
theorem dX9_nextToKey_127 : decode cX9_nextToKey 127 = .ok (.iload_n 3, 1) := by decide +kernel
theorem dX9_nextToKey_128 : decode cX9_nextToKey 128 = .ok (.ireturn, 1) := by decide +kernel
set_option maxRecDepth 20000 in
set_option maxHeartbeats 4000000 in
theorem wk_X9_nextToKey_12 {p : Program} {l : Launch} {e : Env} {s : State} {m : MethodId} {args : Array Value} {below : List Frame} {meth : Method} {c : Code} {G : Gp} {x1 : Int32} {x2 : Int32}  {Q : Int32 → St → Prop} (F : FX p s m args meth c cX9_nextToKey 6 (some .int) RX9 G)   : ∀ (n9 : Nat) (σ : St) (x3 : Int32) (x4 : Int32), LP3 (wp_X9_nextToKey_12 x1 x2 Q) n9 σ x3 x4 → J p l e (rmF 5 119) s m args below meth c 6 G (MQ below (QQ G (qI Q)) args s 0 0 (fr G)) 0 0 12 [(0, .ref (gb G + 244)), (1, .int x1), (2, .int x2), (3, .int x3), (4, .int x4)] [] σ := by
  intro n9
  induction n9 with
  | zero => intro σ x3 x4 h; exact h.elim
  | succ n9 i12 =>
    intro σ x3 x4 h
    have h : wp_X9_nextToKey_12 x1 x2 Q (LP3 (wp_X9_nextToKey_12 x1 x2 Q) n9) σ x3 x4 := h
    unfold wp_X9_nextToKey_12 at h
    refine J_il F 4 dX9_nextToKey_12 rfl ?_
    refine J_aln F 0 dX9_nextToKey_14 rfl rfl ?_
    refine J_gfa F (ci := 9) 1 rfl inX9 ly_244 (by decide) (by decide) rfl lf_X9_7 rfl dX9_nextToKey_15 ?_
    refine J_bi F dX9_nextToKey_18 kb_37 ?_
    refine J_ialdc F ly_245 (by decide) (by decide) dX9_nextToKey_20 ?_
    refine J_cge F (tgt := 127) dX9_nextToKey_21 (by decide) (fun c_1 => ?_) (fun c_1 => ?_)
    · have h := h.1 c_1
      refine J_iln F 3 dX9_nextToKey_127 rfl rfl ?_
      exact J_reti F ⟨_, rfl, h⟩ dX9_nextToKey_128
    · have h := h.2 c_1
      refine J_aln F 0 dX9_nextToKey_24 rfl rfl ?_
      refine J_iln F 2 dX9_nextToKey_25 rfl rfl ?_
      refine J_il F 4 dX9_nextToKey_26 rfl ?_
      refine J_callVi F (As := [.int x2, .int x4]) (st := []) (C_X9_isHeld l G x2 x4  h) (ci := 9) ly_244 (by decide) rfl rfl lm_X9_165 li_X9_isHeld ls_X9_isHeld ini_X9 lc_X9_isHeld hd_X9_isHeld (by decide) (Nat.le_of_ble_eq_true rfl) (by decide) rfl dX9_nextToKey_28 (fun r_2 σ_3 hh => ?_)
      clear h
      obtain ⟨e9, h⟩ := hh
      subst σ_3
      refine J_zne F (tgt := 37) dX9_nextToKey_31 (by decide) (fun c_4 => ?_) (fun c_4 => ?_)
      · have h := h.1 c_4
        refine J_aln F 0 dX9_nextToKey_37 rfl rfl ?_
        refine J_il F 4 dX9_nextToKey_38 rfl ?_
        refine J_callVv F (As := [.int x4]) (st := []) (C_X9_laysList l G x4  h) (ci := 9) ly_244 (by decide) rfl rfl lm_X9_132 li_X9_laysList ls_X9_laysList ini_X9 lc_X9_laysList hd_X9_laysList (by decide) (Nat.le_of_ble_eq_true rfl) (by decide) rfl dX9_nextToKey_40 (fun σ_5 h => ?_)
        refine J_aln F 0 dX9_nextToKey_43 rfl rfl ?_
        refine J_iln F 1 dX9_nextToKey_44 rfl rfl ?_
        refine J_iln F 2 dX9_nextToKey_45 rfl rfl ?_
        refine J_il F 4 dX9_nextToKey_46 rfl ?_
        refine J_callSi F (As := [.int x2, .int x4]) (st := [.int x1, .ref (gb G + 244)]) (C_X9_pointX l G x2 x4  h) lm_X9_156 li_X9_pointX ini_X9 lc_X9_pointX hd_X9_pointX (by decide) (Nat.le_of_ble_eq_true rfl) (by decide) rfl dX9_nextToKey_48 (fun r_6 σ_7 hh => ?_)
        clear h
        obtain ⟨e9, h⟩ := hh
        subst σ_7
        refine J_iln F 2 dX9_nextToKey_51 rfl rfl ?_
        refine J_il F 4 dX9_nextToKey_52 rfl ?_
        refine J_callSi F (As := [.int x2, .int x4]) (st := [.int r_6, .int x1, .ref (gb G + 244)]) (C_X9_pointY l G x2 x4  h) lm_X9_159 li_X9_pointY ini_X9 lc_X9_pointY hd_X9_pointY (by decide) (Nat.le_of_ble_eq_true rfl) (by decide) rfl dX9_nextToKey_54 (fun r_8 σ_9 hh => ?_)
        clear h
        obtain ⟨e9, h⟩ := hh
        subst σ_9
        refine J_callVi F (As := [.int x1, .int r_6, .int r_8]) (st := []) (C_X9_nearestTo l G x1 r_6 r_8  h) (ci := 9) ly_244 (by decide) rfl rfl lm_X9_399 li_X9_nearestTo ls_X9_nearestTo ini_X9 lc_X9_nearestTo hd_X9_nearestTo (by decide) (Nat.le_of_ble_eq_true rfl) (by decide) rfl dX9_nextToKey_57 (fun r_10 σ_11 hh => ?_)
        clear h
        obtain ⟨e9, h⟩ := hh
        subst σ_11
        refine J_is F (L' := [(5, .int r_10), (0, .ref (gb G + 244)), (1, .int x1), (2, .int x2), (3, .int x3), (4, .int x4)]) dX9_nextToKey_60 (by decide) rfl ?_
        refine J_il F 0 dX9_nextToKey_62 rfl ?_
        refine J_ic F dX9_nextToKey_64 ki_m1 ?_
        refine J_ceq F (tgt := 121) dX9_nextToKey_65 (by decide) (fun c_12 => ?_) (fun c_12 => ?_)
        · have h := h.1 c_12
          obtain ⟨x4_13, ex4_13⟩ : ∃ z : Int32, z = x4 + (nI 1) := ⟨_, rfl⟩
          have h := h x4_13 ex4_13
          refine J_iinc F (v := x4_13) (L' := [(4, .int x4_13), (5, .int r_10), (0, .ref (gb G + 244)), (1, .int x1), (2, .int x2), (3, .int x3)]) 5 dX9_nextToKey_121 rfl (by rw [ki_1, ex4_13]) (by decide) rfl ?_
          refine J_goto F (tgt := 12) dX9_nextToKey_124 (by decide) ?_
          refine J_sub [2, 3, 4, 5, 0] rfl ?_
          exact i12 _ _ _ h
        · have h := h.2 c_12
          refine J_aln F 1 dX9_nextToKey_68 rfl rfl ?_
          refine J_il F 0 dX9_nextToKey_69 rfl ?_
          refine J_iln F 3 dX9_nextToKey_71 rfl rfl ?_
          refine J_il F 5 dX9_nextToKey_72 rfl ?_
          refine J_callSi F (As := [.int x2, .int x4]) (st := [.int r_10, .ref (gb G + 244)]) (C_X9_pointX l G x2 x4  h) lm_X9_156 li_X9_pointX ini_X9 lc_X9_pointX hd_X9_pointX (by decide) (Nat.le_of_ble_eq_true rfl) (by decide) rfl dX9_nextToKey_74 (fun r_14 σ_15 hh => ?_)
          clear h
          obtain ⟨e9, h⟩ := hh
          subst σ_15
          refine J_iln F 3 dX9_nextToKey_77 rfl rfl ?_
          refine J_il F 5 dX9_nextToKey_78 rfl ?_
          refine J_callSi F (As := [.int x2, .int x4]) (st := [.int r_14, .int r_10, .ref (gb G + 244)]) (C_X9_pointY l G x2 x4  h) lm_X9_159 li_X9_pointY ini_X9 lc_X9_pointY hd_X9_pointY (by decide) (Nat.le_of_ble_eq_true rfl) (by decide) rfl dX9_nextToKey_80 (fun r_16 σ_17 hh => ?_)
          clear h
          obtain ⟨e9, h⟩ := hh
          subst σ_17
          refine J_callVi F (As := [.int r_10, .int r_14, .int r_16]) (st := []) (C_X9_farOf l G r_10 r_14 r_16  h) (ci := 9) ly_244 (by decide) rfl rfl lm_X9_389 li_X9_farOf ls_X9_farOf ini_X9 lc_X9_farOf hd_X9_farOf (by decide) (Nat.le_of_ble_eq_true rfl) (by decide) rfl dX9_nextToKey_83 (fun r_18 σ_19 hh => ?_)
          clear h
          obtain ⟨e9, h⟩ := hh
          subst σ_19
          refine J_aln F 1 dX9_nextToKey_86 rfl rfl ?_
          refine J_gfi F (ci := 9) 29 rfl inX9 ly_244 (by decide) (by decide) rfl lf_X9_405 rfl dX9_nextToKey_87 ?_
          refine J_clt F (tgt := 96) dX9_nextToKey_90 (by decide) (fun c_20 => ?_) (fun c_20 => ?_)
          · have h := h.1 c_20
            refine J_il F 0 dX9_nextToKey_96 rfl ?_
            refine J_isn F (L' := [(3, .int r_10), (5, .int r_10), (0, .ref (gb G + 244)), (1, .int x1), (2, .int x2), (4, .int x4)]) dX9_nextToKey_98 rfl (by decide) rfl ?_
            refine J_aln F 2 dX9_nextToKey_99 rfl rfl ?_
            refine J_aln F 2 dX9_nextToKey_100 rfl rfl ?_
            refine J_il F 1 dX9_nextToKey_101 rfl ?_
            refine J_iln F 4 dX9_nextToKey_103 rfl rfl ?_
            refine J_il F 5 dX9_nextToKey_104 rfl ?_
            refine J_callSi F (As := [.int x2, .int x4]) (st := [.int r_10, .ref (gb G + 244), .ref (gb G + 244)]) (C_X9_pointX l G x2 x4  h) lm_X9_156 li_X9_pointX ini_X9 lc_X9_pointX hd_X9_pointX (by decide) (Nat.le_of_ble_eq_true rfl) (by decide) rfl dX9_nextToKey_106 (fun r_21 σ_22 hh => ?_)
            clear h
            obtain ⟨e9, h⟩ := hh
            subst σ_22
            refine J_iln F 4 dX9_nextToKey_109 rfl rfl ?_
            refine J_il F 5 dX9_nextToKey_110 rfl ?_
            refine J_callSi F (As := [.int x2, .int x4]) (st := [.int r_21, .int r_10, .ref (gb G + 244), .ref (gb G + 244)]) (C_X9_pointY l G x2 x4  h) lm_X9_159 li_X9_pointY ini_X9 lc_X9_pointY hd_X9_pointY (by decide) (Nat.le_of_ble_eq_true rfl) (by decide) rfl dX9_nextToKey_112 (fun r_23 σ_24 hh => ?_)
            clear h
            obtain ⟨e9, h⟩ := hh
            subst σ_24
            refine J_callVi F (As := [.int r_10, .int r_21, .int r_23]) (st := [.ref (gb G + 244)]) (C_X9_farOf l G r_10 r_21 r_23  h) (ci := 9) ly_244 (by decide) rfl rfl lm_X9_389 li_X9_farOf ls_X9_farOf ini_X9 lc_X9_farOf hd_X9_farOf (by decide) (Nat.le_of_ble_eq_true rfl) (by decide) rfl dX9_nextToKey_115 (fun r_25 σ_26 hh => ?_)
            clear h
            obtain ⟨e9, h⟩ := hh
            subst σ_26
            refine J_pfi F (ci := 9) 29 rfl inX9 tyX9 tyX9_ok nmX9 ly_244 (by decide) (by decide) rfl lf_X9_405 rfl rfl (tyX9_ok 29 (by decide)) rfl rfl dX9_nextToKey_118 ?_
            refine J_st (fun σ_27 eσ_27 => ?_)
            have h := h σ_27 eσ_27
            obtain ⟨x4_28, ex4_28⟩ : ∃ z : Int32, z = x4 + (nI 1) := ⟨_, rfl⟩
            have h := h x4_28 ex4_28
            refine J_iinc F (v := x4_28) (L' := [(4, .int x4_28), (3, .int r_10), (5, .int r_10), (0, .ref (gb G + 244)), (1, .int x1), (2, .int x2)]) 5 dX9_nextToKey_121 rfl (by rw [ki_1, ex4_28]) (by decide) rfl ?_
            refine J_goto F (tgt := 12) dX9_nextToKey_124 (by decide) ?_
            refine J_sub [3, 4, 5, 1, 0] rfl ?_
            exact i12 _ _ _ h
          · have h := h.2 c_20
            refine J_goto F (tgt := 121) dX9_nextToKey_93 (by decide) ?_
            obtain ⟨x4_29, ex4_29⟩ : ∃ z : Int32, z = x4 + (nI 1) := ⟨_, rfl⟩
            have h := h x4_29 ex4_29
            refine J_iinc F (v := x4_29) (L' := [(4, .int x4_29), (5, .int r_10), (0, .ref (gb G + 244)), (1, .int x1), (2, .int x2), (3, .int x3)]) 5 dX9_nextToKey_121 rfl (by rw [ki_1, ex4_29]) (by decide) rfl ?_
            refine J_goto F (tgt := 12) dX9_nextToKey_124 (by decide) ?_
            refine J_sub [2, 3, 4, 5, 0] rfl ?_
            exact i12 _ _ _ h
      · have h := h.2 c_4
        refine J_goto F (tgt := 121) dX9_nextToKey_34 (by decide) ?_
        obtain ⟨x4_30, ex4_30⟩ : ∃ z : Int32, z = x4 + (nI 1) := ⟨_, rfl⟩
        have h := h x4_30 ex4_30
        refine J_iinc F (v := x4_30) (L' := [(4, .int x4_30), (0, .ref (gb G + 244)), (1, .int x1), (2, .int x2), (3, .int x3)]) 4 dX9_nextToKey_121 rfl (by rw [ki_1, ex4_30]) (by decide) rfl ?_
        refine J_goto F (tgt := 12) dX9_nextToKey_124 (by decide) ?_
        refine J_sub [1, 2, 3, 4, 0] rfl ?_
        exact i12 _ _ _ h
set_option maxRecDepth 20000 in
set_option maxHeartbeats 4000000 in
theorem C_X9_nextToKey (l : Launch) (G : Gp) (x1 : Int32) (x2 : Int32)  {σ : St} {Q : Int32 → St → Prop} (h : wp_X9_nextToKey σ x1 x2 Q) : Cn l yX9_nextToKey cX9_nextToKey 6 (some .int) 5 119 G [.ref (gb G + 244), .int x1, .int x2] σ (qI Q) := by
  refine Cn_of (L := [(0, .ref (gb G + 244)), (1, .int x1), (2, .int x2)]) RX9 (by decide) rfl (Nat.le_of_ble_eq_true rfl) rfl ?_
  intro p e s m below meth c F
  unfold wp_X9_nextToKey at h
  refine J_ic F dX9_nextToKey_0 ki_m1 ?_
  refine J_isn F (L' := [(3, .int (-1)), (0, .ref (gb G + 244)), (1, .int x1), (2, .int x2)]) dX9_nextToKey_1 rfl (by decide) rfl ?_
  refine J_aln F 1 dX9_nextToKey_2 rfl rfl ?_
  refine J_ldcw F dX9_nextToKey_3 lk_X9_385 ?_
  refine J_pfi F (ci := 9) 29 rfl inX9 tyX9 tyX9_ok nmX9 ly_244 (by decide) (by decide) rfl lf_X9_405 rfl rfl (tyX9_ok 29 (by decide)) rfl rfl dX9_nextToKey_6 ?_
  refine J_st (fun σ_31 eσ_31 => ?_)
  have h := h σ_31 eσ_31
  refine J_ic F dX9_nextToKey_9 ki_0 ?_
  refine J_is F (L' := [(4, .int (nI 0)), (3, .int (-1)), (0, .ref (gb G + 244)), (1, .int x1), (2, .int x2)]) dX9_nextToKey_10 (by decide) rfl ?_
  refine J_sub [2, 3, 4, 1, 0] rfl ?_
  obtain ⟨n9, h⟩ := h
  exact wk_X9_nextToKey_12 F  n9 _ _ _ h
theorem dX9_seeks_0 : decode cX9_seeks 0 = .ok (.aload_n 0, 1) := by decide +kernel
theorem dX9_seeks_1 : decode cX9_seeks 1 = .ok (.iconst 1, 1) := by decide +kernel
theorem dX9_seeks_2 : decode cX9_seeks 2 = .ok (.putfield 392, 3) := by decide +kernel
theorem dX9_seeks_5 : decode cX9_seeks 5 = .ok (.aload_n 0, 1) := by decide +kernel
theorem dX9_seeks_6 : decode cX9_seeks 6 = .ok (.getfield 51, 3) := by decide +kernel
theorem dX9_seeks_9 : decode cX9_seeks 9 = .ok (.iconst 0, 1) := by decide +kernel
theorem dX9_seeks_10 : decode cX9_seeks 10 = .ok (.iload_n 1, 1) := by decide +kernel
theorem dX9_seeks_11 : decode cX9_seeks 11 = .ok (.iastore, 1) := by decide +kernel
theorem dX9_seeks_12 : decode cX9_seeks 12 = .ok (.aload_n 0, 1) := by decide +kernel
theorem dX9_seeks_13 : decode cX9_seeks 13 = .ok (.aload_n 0, 1) := by decide +kernel
theorem dX9_seeks_14 : decode cX9_seeks 14 = .ok (.iload_n 2, 1) := by decide +kernel
theorem dX9_seeks_15 : decode cX9_seeks 15 = .ok (.invokevirtual 227, 3) := by decide +kernel
theorem dX9_seeks_18 : decode cX9_seeks 18 = .ok (.ifCond .ne 7, 3) := by decide +kernel
theorem dX9_seeks_21 : decode cX9_seeks 21 = .ok (.iconst 1, 1) := by decide +kernel
theorem dX9_seeks_22 : decode cX9_seeks 22 = .ok (.goto 4, 3) := by decide +kernel
theorem dX9_seeks_25 : decode cX9_seeks 25 = .ok (.iconst 0, 1) := by decide +kernel
theorem dX9_seeks_26 : decode cX9_seeks 26 = .ok (.putfield 395, 3) := by decide +kernel
theorem dX9_seeks_29 : decode cX9_seeks 29 = .ok (.iload_n 1, 1) := by decide +kernel
theorem dX9_seeks_30 : decode cX9_seeks 30 = .ok (.istore_n 3, 1) := by decide +kernel
theorem dX9_seeks_31 : decode cX9_seeks 31 = .ok (.aload_n 0, 1) := by decide +kernel
theorem dX9_seeks_32 : decode cX9_seeks 32 = .ok (.getfield 395, 3) := by decide +kernel
theorem dX9_seeks_35 : decode cX9_seeks 35 = .ok (.ifCond .ne 73, 3) := by decide +kernel
theorem dX9_seeks_38 : decode cX9_seeks 38 = .ok (.aload_n 0, 1) := by decide +kernel
theorem dX9_seeks_39 : decode cX9_seeks 39 = .ok (.iload_n 3, 1) := by decide +kernel
theorem dX9_seeks_40 : decode cX9_seeks 40 = .ok (.iload_n 2, 1) := by decide +kernel
theorem dX9_seeks_41 : decode cX9_seeks 41 = .ok (.invokevirtual 408, 3) := by decide +kernel
theorem dX9_seeks_44 : decode cX9_seeks 44 = .ok (.ifCond .le 64, 3) := by decide +kernel
theorem dX9_seeks_47 : decode cX9_seeks 47 = .ok (.aload_n 0, 1) := by decide +kernel
theorem dX9_seeks_48 : decode cX9_seeks 48 = .ok (.iload_n 3, 1) := by decide +kernel
theorem dX9_seeks_49 : decode cX9_seeks 49 = .ok (.iload_n 2, 1) := by decide +kernel
theorem dX9_seeks_50 : decode cX9_seeks 50 = .ok (.invokevirtual 411, 3) := by decide +kernel
theorem dX9_seeks_53 : decode cX9_seeks 53 = .ok (.istore 4, 2) := by decide +kernel
theorem dX9_seeks_55 : decode cX9_seeks 55 = .ok (.iload 4, 2) := by decide +kernel
theorem dX9_seeks_57 : decode cX9_seeks 57 = .ok (.iconst (-1), 1) := by decide +kernel
theorem dX9_seeks_58 : decode cX9_seeks 58 = .ok (.if_icmp .eq 16, 3) := by decide +kernel
theorem dX9_seeks_61 : decode cX9_seeks 61 = .ok (.aload_n 0, 1) := by decide +kernel
theorem dX9_seeks_62 : decode cX9_seeks 62 = .ok (.getfield 405, 3) := by decide +kernel
theorem dX9_seeks_65 : decode cX9_seeks 65 = .ok (.aload_n 0, 1) := by decide +kernel
theorem dX9_seeks_66 : decode cX9_seeks 66 = .ok (.iload_n 3, 1) := by decide +kernel
theorem dX9_seeks_67 : decode cX9_seeks 67 = .ok (.iload_n 2, 1) := by decide +kernel
theorem dX9_seeks_68 : decode cX9_seeks 68 = .ok (.invokevirtual 408, 3) := by decide +kernel
theorem dX9_seeks_71 : decode cX9_seeks 71 = .ok (.if_icmp .lt 11, 3) := by decide +kernel
theorem dX9_seeks_74 : decode cX9_seeks 74 = .ok (.aload_n 0, 1) := by decide +kernel
theorem dX9_seeks_75 : decode cX9_seeks 75 = .ok (.iconst 1, 1) := by decide +kernel
theorem dX9_seeks_76 : decode cX9_seeks 76 = .ok (.putfield 395, 3) := by decide +kernel
theorem dX9_seeks_79 : decode cX9_seeks 79 = .ok (.goto 26, 3) := by decide +kernel
theorem dX9_seeks_82 : decode cX9_seeks 82 = .ok (.iload 4, 2) := by decide +kernel
theorem dX9_seeks_84 : decode cX9_seeks 84 = .ok (.istore_n 3, 1) := by decide +kernel
theorem dX9_seeks_85 : decode cX9_seeks 85 = .ok (.aload_n 0, 1) := by decide +kernel
theorem dX9_seeks_86 : decode cX9_seeks 86 = .ok (.getfield 51, 3) := by decide +kernel
theorem dX9_seeks_89 : decode cX9_seeks 89 = .ok (.aload_n 0, 1) := by decide +kernel
theorem dX9_seeks_90 : decode cX9_seeks 90 = .ok (.getfield 392, 3) := by decide +kernel
theorem dX9_seeks_93 : decode cX9_seeks 93 = .ok (.iload_n 3, 1) := by decide +kernel
theorem dX9_seeks_94 : decode cX9_seeks 94 = .ok (.iastore, 1) := by decide +kernel
theorem dX9_seeks_95 : decode cX9_seeks 95 = .ok (.aload_n 0, 1) := by decide +kernel
theorem dX9_seeks_96 : decode cX9_seeks 96 = .ok (.dup, 1) := by decide +kernel
theorem dX9_seeks_97 : decode cX9_seeks 97 = .ok (.getfield 392, 3) := by decide +kernel
theorem dX9_seeks_100 : decode cX9_seeks 100 = .ok (.iconst 1, 1) := by decide +kernel
theorem dX9_seeks_101 : decode cX9_seeks 101 = .ok (.iadd, 1) := by decide +kernel
theorem dX9_seeks_102 : decode cX9_seeks 102 = .ok (.putfield 392, 3) := by decide +kernel
theorem dX9_seeks_105 : decode cX9_seeks 105 = .ok (.goto (-74), 3) := by decide +kernel
theorem dX9_seeks_108 : decode cX9_seeks 108 = .ok (.return_, 1) := by decide +kernel
set_option maxRecDepth 20000 in
set_option maxHeartbeats 4000000 in
theorem wk_X9_seeks_31 {p : Program} {l : Launch} {e : Env} {s : State} {m : MethodId} {args : Array Value} {below : List Frame} {meth : Method} {c : Code} {G : Gp} {x2 : Int32}  {Q : St → Prop} (F : FX p s m args meth c cX9_seeks 5 none RX9 G)   : ∀ (n9 : Nat) (σ : St) (x3 : Int32), LP2 (wp_X9_seeks_31 x2 Q) n9 σ x3 → J p l e (rmF 6 144) s m args below meth c 5 G (MQ below (QQ G (qV Q)) args s 0 0 (fr G)) 0 0 31 [(0, .ref (gb G + 244)), (2, .int x2), (3, .int x3)] [] σ := by
  intro n9
  induction n9 with
  | zero => intro σ x3 h; exact h.elim
  | succ n9 i31 =>
    intro σ x3 h
    have h : wp_X9_seeks_31 x2 Q (LP2 (wp_X9_seeks_31 x2 Q) n9) σ x3 := h
    unfold wp_X9_seeks_31 at h
    refine J_aln F 0 dX9_seeks_31 rfl rfl ?_
    refine J_gfi F (ci := 9) 27 rfl inX9 ly_244 (by decide) (by decide) rfl lf_X9_395 rfl dX9_seeks_32 ?_
    refine J_zne F (tgt := 108) dX9_seeks_35 (by decide) (fun c_1 => ?_) (fun c_1 => ?_)
    · have h := h.1 c_1
      exact J_retv F ⟨rfl, h⟩ dX9_seeks_108
    · have h := h.2 c_1
      refine J_aln F 0 dX9_seeks_38 rfl rfl ?_
      refine J_iln F 2 dX9_seeks_39 rfl rfl ?_
      refine J_iln F 1 dX9_seeks_40 rfl rfl ?_
      refine J_callVi F (As := [.int x3, .int x2]) (st := []) (C_X9_farFromKey l G x3 x2  h) (ci := 9) ly_244 (by decide) rfl rfl lm_X9_408 li_X9_farFromKey ls_X9_farFromKey ini_X9 lc_X9_farFromKey hd_X9_farFromKey (by decide) (Nat.le_of_ble_eq_true rfl) (by decide) rfl dX9_seeks_41 (fun r_2 σ_3 h => ?_)
      refine J_zle F (tgt := 108) dX9_seeks_44 (by decide) (fun c_4 => ?_) (fun c_4 => ?_)
      · have h := h.1 c_4
        exact J_retv F ⟨rfl, h⟩ dX9_seeks_108
      · have h := h.2 c_4
        refine J_aln F 0 dX9_seeks_47 rfl rfl ?_
        refine J_iln F 2 dX9_seeks_48 rfl rfl ?_
        refine J_iln F 1 dX9_seeks_49 rfl rfl ?_
        refine J_callVi F (As := [.int x3, .int x2]) (st := []) (C_X9_nextToKey l G x3 x2  h) (ci := 9) ly_244 (by decide) rfl rfl lm_X9_411 li_X9_nextToKey ls_X9_nextToKey ini_X9 lc_X9_nextToKey hd_X9_nextToKey (by decide) (Nat.le_of_ble_eq_true rfl) (by decide) rfl dX9_seeks_50 (fun r_5 σ_6 h => ?_)
        refine J_is F (L' := [(4, .int r_5), (0, .ref (gb G + 244)), (2, .int x2), (3, .int x3)]) dX9_seeks_53 (by decide) rfl ?_
        refine J_il F 0 dX9_seeks_55 rfl ?_
        refine J_ic F dX9_seeks_57 ki_m1 ?_
        refine J_ceq F (tgt := 74) dX9_seeks_58 (by decide) (fun c_7 => ?_) (fun c_7 => ?_)
        · have h := h.1 c_7
          refine J_aln F 1 dX9_seeks_74 rfl rfl ?_
          refine J_ic F dX9_seeks_75 ki_1 ?_
          refine J_pfi F (ci := 9) 27 rfl inX9 tyX9 tyX9_ok nmX9 ly_244 (by decide) (by decide) rfl lf_X9_395 rfl rfl (tyX9_ok 27 (by decide)) (nz_b (Or.inr rfl)) (nz_f (Or.inr rfl)) dX9_seeks_76 ?_
          refine J_st (fun σ_8 eσ_8 => ?_)
          have h := h σ_8 eσ_8
          refine J_goto F (tgt := 105) dX9_seeks_79 (by decide) ?_
          refine J_goto F (tgt := 31) dX9_seeks_105 (by decide) ?_
          refine J_sub [1, 2, 3] rfl ?_
          exact i31 _ _ h
        · have h := h.2 c_7
          refine J_aln F 1 dX9_seeks_61 rfl rfl ?_
          refine J_gfi F (ci := 9) 29 rfl inX9 ly_244 (by decide) (by decide) rfl lf_X9_405 rfl dX9_seeks_62 ?_
          refine J_aln F 1 dX9_seeks_65 rfl rfl ?_
          refine J_iln F 3 dX9_seeks_66 rfl rfl ?_
          refine J_iln F 2 dX9_seeks_67 rfl rfl ?_
          refine J_callVi F (As := [.int x3, .int x2]) (st := [.int (σ_6 244 29)]) (C_X9_farFromKey l G x3 x2  h) (ci := 9) ly_244 (by decide) rfl rfl lm_X9_408 li_X9_farFromKey ls_X9_farFromKey ini_X9 lc_X9_farFromKey hd_X9_farFromKey (by decide) (Nat.le_of_ble_eq_true rfl) (by decide) rfl dX9_seeks_68 (fun r_9 σ_10 h => ?_)
          refine J_clt F (tgt := 82) dX9_seeks_71 (by decide) (fun c_11 => ?_) (fun c_11 => ?_)
          · have h := h.1 c_11
            refine J_il F 0 dX9_seeks_82 rfl ?_
            refine J_isn F (L' := [(3, .int r_5), (4, .int r_5), (0, .ref (gb G + 244)), (2, .int x2)]) dX9_seeks_84 rfl (by decide) rfl ?_
            refine J_aln F 2 dX9_seeks_85 rfl rfl ?_
            refine J_gfa F (ci := 9) 25 rfl inX9 ly_244 (by decide) (by decide) rfl lf_X9_51 rfl dX9_seeks_86 ?_
            refine J_aln F 2 dX9_seeks_89 rfl rfl ?_
            refine J_gfi F (ci := 9) 26 rfl inX9 ly_244 (by decide) (by decide) rfl lf_X9_392 rfl dX9_seeks_90 ?_
            refine J_iln F 0 dX9_seeks_93 rfl rfl ?_
            obtain ⟨h_12, h⟩ := h
            refine J_iast F ly_257 h_12 dX9_seeks_94 ?_
            refine J_st (fun σ_13 eσ_13 => ?_)
            have h := h σ_13 eσ_13
            refine J_aln F 2 dX9_seeks_95 rfl rfl ?_
            refine J_dup F dX9_seeks_96 rfl ?_
            refine J_gfi F (ci := 9) 26 rfl inX9 ly_244 (by decide) (by decide) rfl lf_X9_392 rfl dX9_seeks_97 ?_
            refine J_ic F dX9_seeks_100 ki_1 ?_
            refine J_iadd F dX9_seeks_101 ?_
            refine J_pfi F (ci := 9) 26 rfl inX9 tyX9 tyX9_ok nmX9 ly_244 (by decide) (by decide) rfl lf_X9_392 rfl rfl (tyX9_ok 26 (by decide)) rfl rfl dX9_seeks_102 ?_
            refine J_st (fun σ_14 eσ_14 => ?_)
            have h := h σ_14 eσ_14
            refine J_goto F (tgt := 31) dX9_seeks_105 (by decide) ?_
            refine J_sub [2, 3, 0] rfl ?_
            exact i31 _ _ h
          · have h := h.2 c_11
            refine J_aln F 1 dX9_seeks_74 rfl rfl ?_
            refine J_ic F dX9_seeks_75 ki_1 ?_
            refine J_pfi F (ci := 9) 27 rfl inX9 tyX9 tyX9_ok nmX9 ly_244 (by decide) (by decide) rfl lf_X9_395 rfl rfl (tyX9_ok 27 (by decide)) (nz_b (Or.inr rfl)) (nz_f (Or.inr rfl)) dX9_seeks_76 ?_
            refine J_st (fun σ_15 eσ_15 => ?_)
            have h := h σ_15 eσ_15
            refine J_goto F (tgt := 105) dX9_seeks_79 (by decide) ?_
            refine J_goto F (tgt := 31) dX9_seeks_105 (by decide) ?_
            refine J_sub [1, 2, 3] rfl ?_
            exact i31 _ _ h
set_option maxRecDepth 20000 in
set_option maxHeartbeats 4000000 in
theorem C_X9_seeks (l : Launch) (G : Gp) (x1 : Int32) (x2 : Int32)  {σ : St} {Q : St → Prop} (h : wp_X9_seeks σ x1 x2 Q) : Cn l yX9_seeks cX9_seeks 5 none 6 144 G [.ref (gb G + 244), .int x1, .int x2] σ (qV Q) := by
  refine Cn_of (L := [(0, .ref (gb G + 244)), (1, .int x1), (2, .int x2)]) RX9 (by decide) rfl (Nat.le_of_ble_eq_true rfl) rfl ?_
  intro p e s m below meth c F
  unfold wp_X9_seeks at h
  refine J_aln F 0 dX9_seeks_0 rfl rfl ?_
  refine J_ic F dX9_seeks_1 ki_1 ?_
  refine J_pfi F (ci := 9) 26 rfl inX9 tyX9 tyX9_ok nmX9 ly_244 (by decide) (by decide) rfl lf_X9_392 rfl rfl (tyX9_ok 26 (by decide)) rfl rfl dX9_seeks_2 ?_
  refine J_st (fun σ_16 eσ_16 => ?_)
  have h := h σ_16 eσ_16
  refine J_aln F 0 dX9_seeks_5 rfl rfl ?_
  refine J_gfa F (ci := 9) 25 rfl inX9 ly_244 (by decide) (by decide) rfl lf_X9_51 rfl dX9_seeks_6 ?_
  refine J_ic F dX9_seeks_9 ki_0 ?_
  refine J_iln F 1 dX9_seeks_10 rfl rfl ?_
  refine J_iastc F ly_257 (by decide) (by decide) dX9_seeks_11 ?_
  refine J_st (fun σ_17 eσ_17 => ?_)
  have h := h σ_17 eσ_17
  refine J_aln F 0 dX9_seeks_12 rfl rfl ?_
  refine J_aln F 0 dX9_seeks_13 rfl rfl ?_
  refine J_iln F 2 dX9_seeks_14 rfl rfl ?_
  refine J_callVi F (As := [.int x2]) (st := [.ref (gb G + 244)]) (C_X9_heldIn l G x2  h) (ci := 9) ly_244 (by decide) rfl rfl lm_X9_227 li_X9_heldIn ls_X9_heldIn ini_X9 lc_X9_heldIn hd_X9_heldIn (by decide) (Nat.le_of_ble_eq_true rfl) (by decide) rfl dX9_seeks_15 (fun r_18 σ_19 hh => ?_)
  clear h
  obtain ⟨e9, h⟩ := hh
  subst σ_19
  refine J_zne F (tgt := 25) dX9_seeks_18 (by decide) (fun c_20 => ?_) (fun c_20 => ?_)
  · have h := h.1 c_20
    refine J_ic F dX9_seeks_25 ki_0 ?_
    refine J_pfi F (ci := 9) 27 rfl inX9 tyX9 tyX9_ok nmX9 ly_244 (by decide) (by decide) rfl lf_X9_395 rfl rfl (tyX9_ok 27 (by decide)) (nz_b (Or.inl rfl)) (nz_f (Or.inl rfl)) dX9_seeks_26 ?_
    refine J_st (fun σ_21 eσ_21 => ?_)
    have h := h σ_21 eσ_21
    refine J_iln F 1 dX9_seeks_29 rfl rfl ?_
    refine J_isn F (L' := [(3, .int x1), (0, .ref (gb G + 244)), (1, .int x1), (2, .int x2)]) dX9_seeks_30 rfl (by decide) rfl ?_
    refine J_sub [1, 3, 0] rfl ?_
    obtain ⟨n9, h⟩ := h
    exact wk_X9_seeks_31 F  n9 _ _ h
  · have h := h.2 c_20
    refine J_ic F dX9_seeks_21 ki_1 ?_
    refine J_goto F (tgt := 26) dX9_seeks_22 (by decide) ?_
    refine J_pfi F (ci := 9) 27 rfl inX9 tyX9 tyX9_ok nmX9 ly_244 (by decide) (by decide) rfl lf_X9_395 rfl rfl (tyX9_ok 27 (by decide)) (nz_b (Or.inr rfl)) (nz_f (Or.inr rfl)) dX9_seeks_26 ?_
    refine J_st (fun σ_22 eσ_22 => ?_)
    have h := h σ_22 eσ_22
    refine J_iln F 1 dX9_seeks_29 rfl rfl ?_
    refine J_isn F (L' := [(3, .int x1), (0, .ref (gb G + 244)), (1, .int x1), (2, .int x2)]) dX9_seeks_30 rfl (by decide) rfl ?_
    refine J_sub [1, 3, 0] rfl ?_
    obtain ⟨n9, h⟩ := h
    exact wk_X9_seeks_31 F  n9 _ _ h
theorem dX9_placesApart_0 : decode cX9_placesApart 0 = .ok (.aload_n 0, 1) := by decide +kernel
theorem dX9_placesApart_1 : decode cX9_placesApart 1 = .ok (.getfield 7, 3) := by decide +kernel
theorem dX9_placesApart_4 : decode cX9_placesApart 4 = .ok (.bipush 10, 2) := by decide +kernel
theorem dX9_placesApart_6 : decode cX9_placesApart 6 = .ok (.iload_n 1, 1) := by decide +kernel
theorem dX9_placesApart_7 : decode cX9_placesApart 7 = .ok (.iadd, 1) := by decide +kernel
theorem dX9_placesApart_8 : decode cX9_placesApart 8 = .ok (.iaload, 1) := by decide +kernel
theorem dX9_placesApart_9 : decode cX9_placesApart 9 = .ok (.aload_n 0, 1) := by decide +kernel
theorem dX9_placesApart_10 : decode cX9_placesApart 10 = .ok (.getfield 7, 3) := by decide +kernel
theorem dX9_placesApart_13 : decode cX9_placesApart 13 = .ok (.bipush 10, 2) := by decide +kernel
theorem dX9_placesApart_15 : decode cX9_placesApart 15 = .ok (.iload_n 2, 1) := by decide +kernel
theorem dX9_placesApart_16 : decode cX9_placesApart 16 = .ok (.iadd, 1) := by decide +kernel
theorem dX9_placesApart_17 : decode cX9_placesApart 17 = .ok (.iaload, 1) := by decide +kernel
theorem dX9_placesApart_18 : decode cX9_placesApart 18 = .ok (.invokestatic 180, 3) := by decide +kernel
theorem dX9_placesApart_21 : decode cX9_placesApart 21 = .ok (.aload_n 0, 1) := by decide +kernel
theorem dX9_placesApart_22 : decode cX9_placesApart 22 = .ok (.getfield 7, 3) := by decide +kernel
theorem dX9_placesApart_25 : decode cX9_placesApart 25 = .ok (.bipush 20, 2) := by decide +kernel
theorem dX9_placesApart_27 : decode cX9_placesApart 27 = .ok (.iload_n 1, 1) := by decide +kernel
theorem dX9_placesApart_28 : decode cX9_placesApart 28 = .ok (.iadd, 1) := by decide +kernel
theorem dX9_placesApart_29 : decode cX9_placesApart 29 = .ok (.iaload, 1) := by decide +kernel
theorem dX9_placesApart_30 : decode cX9_placesApart 30 = .ok (.aload_n 0, 1) := by decide +kernel
theorem dX9_placesApart_31 : decode cX9_placesApart 31 = .ok (.getfield 7, 3) := by decide +kernel
theorem dX9_placesApart_34 : decode cX9_placesApart 34 = .ok (.bipush 20, 2) := by decide +kernel
theorem dX9_placesApart_36 : decode cX9_placesApart 36 = .ok (.iload_n 2, 1) := by decide +kernel
theorem dX9_placesApart_37 : decode cX9_placesApart 37 = .ok (.iadd, 1) := by decide +kernel
theorem dX9_placesApart_38 : decode cX9_placesApart 38 = .ok (.iaload, 1) := by decide +kernel
theorem dX9_placesApart_39 : decode cX9_placesApart 39 = .ok (.invokestatic 180, 3) := by decide +kernel
theorem dX9_placesApart_42 : decode cX9_placesApart 42 = .ok (.iadd, 1) := by decide +kernel
theorem dX9_placesApart_43 : decode cX9_placesApart 43 = .ok (.ireturn, 1) := by decide +kernel
set_option maxRecDepth 20000 in
set_option maxHeartbeats 4000000 in
theorem C_X9_placesApart (l : Launch) (G : Gp) (x1 : Int32) (x2 : Int32)  {σ : St} {Q : Int32 → Prop} (h : wp_X9_placesApart σ x1 x2 Q) : Cn l yX9_placesApart cX9_placesApart 3 (some .int) 1 21 G [.ref (gb G + 244), .int x1, .int x2] σ (qI (fun r σ' => σ' = σ ∧ Q r)) := by
  refine Cn_of (L := [(0, .ref (gb G + 244)), (1, .int x1), (2, .int x2)]) RX9 (by decide) rfl (Nat.le_of_ble_eq_true rfl) rfl ?_
  intro p e s m below meth c F
  unfold wp_X9_placesApart at h
  refine J_aln F 0 dX9_placesApart_0 rfl rfl ?_
  refine J_gfa F (ci := 9) 1 rfl inX9 ly_244 (by decide) (by decide) rfl lf_X9_7 rfl dX9_placesApart_1 ?_
  refine J_bi F dX9_placesApart_4 kb_10 ?_
  refine J_iln F 1 dX9_placesApart_6 rfl rfl ?_
  refine J_iadd F dX9_placesApart_7 ?_
  obtain ⟨h_1, h⟩ := h
  refine J_iald F ly_245 h_1 dX9_placesApart_8 ?_
  refine J_aln F 0 dX9_placesApart_9 rfl rfl ?_
  refine J_gfa F (ci := 9) 1 rfl inX9 ly_244 (by decide) (by decide) rfl lf_X9_7 rfl dX9_placesApart_10 ?_
  refine J_bi F dX9_placesApart_13 kb_10 ?_
  refine J_iln F 2 dX9_placesApart_15 rfl rfl ?_
  refine J_iadd F dX9_placesApart_16 ?_
  obtain ⟨h_2, h⟩ := h
  refine J_iald F ly_245 h_2 dX9_placesApart_17 ?_
  refine J_callSi F (As := [.int (σ 245 (Int32.toNatClampNeg ((nI 10) + x1))), .int (σ 245 (Int32.toNatClampNeg ((nI 10) + x2)))]) (st := []) (C_X9_apart l G (σ 245 (Int32.toNatClampNeg ((nI 10) + x1))) (σ 245 (Int32.toNatClampNeg ((nI 10) + x2)))  h) lm_X9_180 li_X9_apart ini_X9 lc_X9_apart hd_X9_apart (by decide) (Nat.le_of_ble_eq_true rfl) (by decide) rfl dX9_placesApart_18 (fun r_3 σ_4 hh => ?_)
  clear h
  obtain ⟨e9, h⟩ := hh
  subst σ_4
  refine J_aln F 0 dX9_placesApart_21 rfl rfl ?_
  refine J_gfa F (ci := 9) 1 rfl inX9 ly_244 (by decide) (by decide) rfl lf_X9_7 rfl dX9_placesApart_22 ?_
  refine J_bi F dX9_placesApart_25 kb_20 ?_
  refine J_iln F 1 dX9_placesApart_27 rfl rfl ?_
  refine J_iadd F dX9_placesApart_28 ?_
  obtain ⟨h_5, h⟩ := h
  refine J_iald F ly_245 h_5 dX9_placesApart_29 ?_
  refine J_aln F 0 dX9_placesApart_30 rfl rfl ?_
  refine J_gfa F (ci := 9) 1 rfl inX9 ly_244 (by decide) (by decide) rfl lf_X9_7 rfl dX9_placesApart_31 ?_
  refine J_bi F dX9_placesApart_34 kb_20 ?_
  refine J_iln F 2 dX9_placesApart_36 rfl rfl ?_
  refine J_iadd F dX9_placesApart_37 ?_
  obtain ⟨h_6, h⟩ := h
  refine J_iald F ly_245 h_6 dX9_placesApart_38 ?_
  refine J_callSi F (As := [.int (σ 245 (Int32.toNatClampNeg ((nI 20) + x1))), .int (σ 245 (Int32.toNatClampNeg ((nI 20) + x2)))]) (st := [.int r_3]) (C_X9_apart l G (σ 245 (Int32.toNatClampNeg ((nI 20) + x1))) (σ 245 (Int32.toNatClampNeg ((nI 20) + x2)))  h) lm_X9_180 li_X9_apart ini_X9 lc_X9_apart hd_X9_apart (by decide) (Nat.le_of_ble_eq_true rfl) (by decide) rfl dX9_placesApart_39 (fun r_7 σ_8 hh => ?_)
  clear h
  obtain ⟨e9, h⟩ := hh
  subst σ_8
  refine J_iadd F dX9_placesApart_42 ?_
  exact J_reti F ⟨_, rfl, rfl, h⟩ dX9_placesApart_43
theorem dX9_delay_0 : decode cX9_delay 0 = .ok (.iconst 0, 1) := by decide +kernel
theorem dX9_delay_1 : decode cX9_delay 1 = .ok (.istore_n 1, 1) := by decide +kernel
theorem dX9_delay_2 : decode cX9_delay 2 = .ok (.iconst 1, 1) := by decide +kernel
theorem dX9_delay_3 : decode cX9_delay 3 = .ok (.istore_n 2, 1) := by decide +kernel
theorem dX9_delay_4 : decode cX9_delay 4 = .ok (.iload_n 2, 1) := by decide +kernel
theorem dX9_delay_5 : decode cX9_delay 5 = .ok (.aload_n 0, 1) := by decide +kernel
theorem dX9_delay_6 : decode cX9_delay 6 = .ok (.getfield 392, 3) := by decide +kernel
theorem dX9_delay_9 : decode cX9_delay 9 = .ok (.if_icmp .ge 30, 3) := by decide +kernel
theorem dX9_delay_12 : decode cX9_delay 12 = .ok (.iload_n 1, 1) := by decide +kernel
theorem dX9_delay_13 : decode cX9_delay 13 = .ok (.aload_n 0, 1) := by decide +kernel
theorem dX9_delay_14 : decode cX9_delay 14 = .ok (.aload_n 0, 1) := by decide +kernel
theorem dX9_delay_15 : decode cX9_delay 15 = .ok (.getfield 51, 3) := by decide +kernel
theorem dX9_delay_18 : decode cX9_delay 18 = .ok (.iload_n 2, 1) := by decide +kernel
theorem dX9_delay_19 : decode cX9_delay 19 = .ok (.iconst 1, 1) := by decide +kernel
theorem dX9_delay_20 : decode cX9_delay 20 = .ok (.isub, 1) := by decide +kernel
theorem dX9_delay_21 : decode cX9_delay 21 = .ok (.iaload, 1) := by decide +kernel
theorem dX9_delay_22 : decode cX9_delay 22 = .ok (.aload_n 0, 1) := by decide +kernel
theorem dX9_delay_23 : decode cX9_delay 23 = .ok (.getfield 51, 3) := by decide +kernel
theorem dX9_delay_26 : decode cX9_delay 26 = .ok (.iload_n 2, 1) := by decide +kernel
theorem dX9_delay_27 : decode cX9_delay 27 = .ok (.iaload, 1) := by decide +kernel
theorem dX9_delay_28 : decode cX9_delay 28 = .ok (.invokevirtual 414, 3) := by decide +kernel
theorem dX9_delay_31 : decode cX9_delay 31 = .ok (.iadd, 1) := by decide +kernel
theorem dX9_delay_32 : decode cX9_delay 32 = .ok (.istore_n 1, 1) := by decide +kernel
theorem dX9_delay_33 : decode cX9_delay 33 = .ok (.iinc 2 1, 3) := by decide +kernel
theorem dX9_delay_36 : decode cX9_delay 36 = .ok (.goto (-32), 3) := by decide +kernel
theorem dX9_delay_39 : decode cX9_delay 39 = .ok (.iload_n 1, 1) := by decide +kernel
theorem dX9_delay_40 : decode cX9_delay 40 = .ok (.ireturn, 1) := by decide +kernel
set_option maxRecDepth 20000 in
set_option maxHeartbeats 4000000 in
theorem wk_X9_delay_4 {p : Program} {l : Launch} {e : Env} {s : State} {m : MethodId} {args : Array Value} {below : List Frame} {meth : Method} {c : Code} {G : Gp} {σ : St}   {Q : Int32 → Prop} (F : FX p s m args meth c cX9_delay 3 (some .int) RX9 G)   : ∀ (n9 : Nat) (x1 : Int32) (x2 : Int32), LP2 (wp_X9_delay_4 σ Q) n9 x1 x2 → J p l e (rmF 2 43) s m args below meth c 3 G (MQ below (QQ G (qI (fun r σ' => σ' = σ ∧ Q r))) args s 0 0 (fr G)) 0 0 4 [(0, .ref (gb G + 244)), (1, .int x1), (2, .int x2)] [] σ := by
  intro n9
  induction n9 with
  | zero => intro x1 x2 h; exact h.elim
  | succ n9 i4 =>
    intro x1 x2 h
    have h : wp_X9_delay_4 σ Q (LP2 (wp_X9_delay_4 σ Q) n9) x1 x2 := h
    unfold wp_X9_delay_4 at h
    refine J_iln F 2 dX9_delay_4 rfl rfl ?_
    refine J_aln F 0 dX9_delay_5 rfl rfl ?_
    refine J_gfi F (ci := 9) 26 rfl inX9 ly_244 (by decide) (by decide) rfl lf_X9_392 rfl dX9_delay_6 ?_
    refine J_cge F (tgt := 39) dX9_delay_9 (by decide) (fun c_1 => ?_) (fun c_1 => ?_)
    · have h := h.1 c_1
      refine J_iln F 1 dX9_delay_39 rfl rfl ?_
      exact J_reti F ⟨_, rfl, rfl, h⟩ dX9_delay_40
    · have h := h.2 c_1
      refine J_iln F 1 dX9_delay_12 rfl rfl ?_
      refine J_aln F 0 dX9_delay_13 rfl rfl ?_
      refine J_aln F 0 dX9_delay_14 rfl rfl ?_
      refine J_gfa F (ci := 9) 25 rfl inX9 ly_244 (by decide) (by decide) rfl lf_X9_51 rfl dX9_delay_15 ?_
      refine J_iln F 2 dX9_delay_18 rfl rfl ?_
      refine J_ic F dX9_delay_19 ki_1 ?_
      refine J_isub F dX9_delay_20 ?_
      obtain ⟨h_2, h⟩ := h
      refine J_iald F ly_257 h_2 dX9_delay_21 ?_
      refine J_aln F 0 dX9_delay_22 rfl rfl ?_
      refine J_gfa F (ci := 9) 25 rfl inX9 ly_244 (by decide) (by decide) rfl lf_X9_51 rfl dX9_delay_23 ?_
      refine J_iln F 2 dX9_delay_26 rfl rfl ?_
      obtain ⟨h_3, h⟩ := h
      refine J_iald F ly_257 h_3 dX9_delay_27 ?_
      refine J_callVi F (As := [.int (σ 257 (Int32.toNatClampNeg (x2 - (nI 1)))), .int (σ 257 (Int32.toNatClampNeg x2))]) (st := [.int x1]) (C_X9_placesApart l G (σ 257 (Int32.toNatClampNeg (x2 - (nI 1)))) (σ 257 (Int32.toNatClampNeg x2))  h) (ci := 9) ly_244 (by decide) rfl rfl lm_X9_414 li_X9_placesApart ls_X9_placesApart ini_X9 lc_X9_placesApart hd_X9_placesApart (by decide) (Nat.le_of_ble_eq_true rfl) (by decide) rfl dX9_delay_28 (fun r_4 σ_5 hh => ?_)
      clear h
      obtain ⟨e9, h⟩ := hh
      subst σ_5
      refine J_iadd F dX9_delay_31 ?_
      refine J_top (fun x1_6 ex1_6 => ?_)
      have h := h x1_6 ex1_6
      refine J_isn F (L' := [(1, .int x1_6), (0, .ref (gb G + 244)), (2, .int x2)]) dX9_delay_32 rfl (by decide) rfl ?_
      obtain ⟨x2_7, ex2_7⟩ : ∃ z : Int32, z = x2 + (nI 1) := ⟨_, rfl⟩
      have h := h x2_7 ex2_7
      refine J_iinc F (v := x2_7) (L' := [(2, .int x2_7), (1, .int x1_6), (0, .ref (gb G + 244))]) 2 dX9_delay_33 rfl (by rw [ki_1, ex2_7]) (by decide) rfl ?_
      refine J_goto F (tgt := 4) dX9_delay_36 (by decide) ?_
      refine J_sub [2, 1, 0] rfl ?_
      exact i4 _ _ h
set_option maxRecDepth 20000 in
set_option maxHeartbeats 4000000 in
theorem C_X9_delay (l : Launch) (G : Gp)   {σ : St} {Q : Int32 → Prop} (h : wp_X9_delay σ  Q) : Cn l yX9_delay cX9_delay 3 (some .int) 2 43 G [.ref (gb G + 244)] σ (qI (fun r σ' => σ' = σ ∧ Q r)) := by
  refine Cn_of (L := [(0, .ref (gb G + 244))]) RX9 (by decide) rfl (Nat.le_of_ble_eq_true rfl) rfl ?_
  intro p e s m below meth c F
  unfold wp_X9_delay at h
  refine J_ic F dX9_delay_0 ki_0 ?_
  refine J_isn F (L' := [(1, .int (nI 0)), (0, .ref (gb G + 244))]) dX9_delay_1 rfl (by decide) rfl ?_
  refine J_ic F dX9_delay_2 ki_1 ?_
  refine J_isn F (L' := [(2, .int (nI 1)), (1, .int (nI 0)), (0, .ref (gb G + 244))]) dX9_delay_3 rfl (by decide) rfl ?_
  refine J_sub [2, 1, 0] rfl ?_
  obtain ⟨n9, h⟩ := h
  exact wk_X9_delay_4 F  n9 _ _ h
theorem dX9_common_0 : decode cX9_common 0 = .ok (.iload_n 0, 1) := by decide +kernel
theorem dX9_common_1 : decode cX9_common 1 = .ok (.istore_n 2, 1) := by decide +kernel
theorem dX9_common_2 : decode cX9_common 2 = .ok (.iload_n 1, 1) := by decide +kernel
theorem dX9_common_3 : decode cX9_common 3 = .ok (.istore_n 3, 1) := by decide +kernel
theorem dX9_common_4 : decode cX9_common 4 = .ok (.iload_n 3, 1) := by decide +kernel
theorem dX9_common_5 : decode cX9_common 5 = .ok (.ifCond .le 16, 3) := by decide +kernel
theorem dX9_common_8 : decode cX9_common 8 = .ok (.iload_n 2, 1) := by decide +kernel
theorem dX9_common_9 : decode cX9_common 9 = .ok (.iload_n 3, 1) := by decide +kernel
theorem dX9_common_10 : decode cX9_common 10 = .ok (.irem, 1) := by decide +kernel
theorem dX9_common_11 : decode cX9_common 11 = .ok (.istore 4, 2) := by decide +kernel
theorem dX9_common_13 : decode cX9_common 13 = .ok (.iload_n 3, 1) := by decide +kernel
theorem dX9_common_14 : decode cX9_common 14 = .ok (.istore_n 2, 1) := by decide +kernel
theorem dX9_common_15 : decode cX9_common 15 = .ok (.iload 4, 2) := by decide +kernel
theorem dX9_common_17 : decode cX9_common 17 = .ok (.istore_n 3, 1) := by decide +kernel
theorem dX9_common_18 : decode cX9_common 18 = .ok (.goto (-14), 3) := by decide +kernel
theorem dX9_common_21 : decode cX9_common 21 = .ok (.iload_n 2, 1) := by decide +kernel
theorem dX9_common_22 : decode cX9_common 22 = .ok (.ireturn, 1) := by decide +kernel
set_option maxRecDepth 20000 in
set_option maxHeartbeats 4000000 in
theorem wk_X9_common_4 {p : Program} {l : Launch} {e : Env} {s : State} {m : MethodId} {args : Array Value} {below : List Frame} {meth : Method} {c : Code} {G : Gp} {σ : St}   {Q : Int32 → Prop} (F : FX p s m args meth c cX9_common 5 (some .int) RX9 G)   : ∀ (n9 : Nat) (x2 : Int32) (x3 : Int32), LP2 (wp_X9_common_4 σ Q) n9 x2 x3 → J p l e (rmF 0 0) s m args below meth c 5 G (MQ below (QQ G (qI (fun r σ' => σ' = σ ∧ Q r))) args s 0 0 (fr G)) 0 0 4 [(2, .int x2), (3, .int x3)] [] σ := by
  intro n9
  induction n9 with
  | zero => intro x2 x3 h; exact h.elim
  | succ n9 i4 =>
    intro x2 x3 h
    have h : wp_X9_common_4 σ Q (LP2 (wp_X9_common_4 σ Q) n9) x2 x3 := h
    unfold wp_X9_common_4 at h
    refine J_iln F 1 dX9_common_4 rfl rfl ?_
    refine J_zle F (tgt := 21) dX9_common_5 (by decide) (fun c_1 => ?_) (fun c_1 => ?_)
    · have h := h.1 c_1
      refine J_iln F 0 dX9_common_21 rfl rfl ?_
      exact J_reti F ⟨_, rfl, rfl, h⟩ dX9_common_22
    · have h := h.2 c_1
      refine J_iln F 0 dX9_common_8 rfl rfl ?_
      refine J_iln F 1 dX9_common_9 rfl rfl ?_
      obtain ⟨h_2, h⟩ := h
      refine J_irem F dX9_common_10 h_2 ?_
      refine J_top (fun x4_3 ex4_3 => ?_)
      have h := h x4_3 ex4_3
      refine J_is F (L' := [(4, .int x4_3), (2, .int x2), (3, .int x3)]) dX9_common_11 (by decide) rfl ?_
      refine J_iln F 2 dX9_common_13 rfl rfl ?_
      refine J_isn F (L' := [(2, .int x3), (4, .int x4_3), (3, .int x3)]) dX9_common_14 rfl (by decide) rfl ?_
      refine J_il F 1 dX9_common_15 rfl ?_
      refine J_isn F (L' := [(3, .int x4_3), (2, .int x3), (4, .int x4_3)]) dX9_common_17 rfl (by decide) rfl ?_
      refine J_goto F (tgt := 4) dX9_common_18 (by decide) ?_
      refine J_sub [1, 0] rfl ?_
      exact i4 _ _ h
set_option maxRecDepth 20000 in
set_option maxHeartbeats 4000000 in
theorem C_X9_common (l : Launch) (G : Gp) (x0 : Int32) (x1 : Int32)  {σ : St} {Q : Int32 → Prop} (h : wp_X9_common σ x0 x1 Q) : Cn l yX9_common cX9_common 5 (some .int) 0 0 G [.int x0, .int x1] σ (qI (fun r σ' => σ' = σ ∧ Q r)) := by
  refine Cn_of (L := [(0, .int x0), (1, .int x1)]) RX9 (by decide) rfl (Nat.le_of_ble_eq_true rfl) rfl ?_
  intro p e s m below meth c F
  unfold wp_X9_common at h
  refine J_iln F 0 dX9_common_0 rfl rfl ?_
  refine J_isn F (L' := [(2, .int x0), (0, .int x0), (1, .int x1)]) dX9_common_1 rfl (by decide) rfl ?_
  refine J_iln F 2 dX9_common_2 rfl rfl ?_
  refine J_isn F (L' := [(3, .int x1), (2, .int x0), (0, .int x0), (1, .int x1)]) dX9_common_3 rfl (by decide) rfl ?_
  refine J_sub [1, 0] rfl ?_
  obtain ⟨n9, h⟩ := h
  exact wk_X9_common_4 F  n9 _ _ h
theorem dX9_stretch_0 : decode cX9_stretch 0 = .ok (.aload_n 0, 1) := by decide +kernel
theorem dX9_stretch_1 : decode cX9_stretch 1 = .ok (.invokevirtual 417, 3) := by decide +kernel
theorem dX9_stretch_4 : decode cX9_stretch 4 = .ok (.istore_n 2, 1) := by decide +kernel
theorem dX9_stretch_5 : decode cX9_stretch 5 = .ok (.aload_n 0, 1) := by decide +kernel
theorem dX9_stretch_6 : decode cX9_stretch 6 = .ok (.aload_n 0, 1) := by decide +kernel
theorem dX9_stretch_7 : decode cX9_stretch 7 = .ok (.getfield 51, 3) := by decide +kernel
theorem dX9_stretch_10 : decode cX9_stretch 10 = .ok (.iconst 0, 1) := by decide +kernel
theorem dX9_stretch_11 : decode cX9_stretch 11 = .ok (.iaload, 1) := by decide +kernel
theorem dX9_stretch_12 : decode cX9_stretch 12 = .ok (.aload_n 0, 1) := by decide +kernel
theorem dX9_stretch_13 : decode cX9_stretch 13 = .ok (.getfield 51, 3) := by decide +kernel
theorem dX9_stretch_16 : decode cX9_stretch 16 = .ok (.aload_n 0, 1) := by decide +kernel
theorem dX9_stretch_17 : decode cX9_stretch 17 = .ok (.getfield 392, 3) := by decide +kernel
theorem dX9_stretch_20 : decode cX9_stretch 20 = .ok (.iconst 1, 1) := by decide +kernel
theorem dX9_stretch_21 : decode cX9_stretch 21 = .ok (.isub, 1) := by decide +kernel
theorem dX9_stretch_22 : decode cX9_stretch 22 = .ok (.iaload, 1) := by decide +kernel
theorem dX9_stretch_23 : decode cX9_stretch 23 = .ok (.invokevirtual 414, 3) := by decide +kernel
theorem dX9_stretch_26 : decode cX9_stretch 26 = .ok (.istore_n 3, 1) := by decide +kernel
theorem dX9_stretch_27 : decode cX9_stretch 27 = .ok (.iload_n 2, 1) := by decide +kernel
theorem dX9_stretch_28 : decode cX9_stretch 28 = .ok (.ifCond .ne 9, 3) := by decide +kernel
theorem dX9_stretch_31 : decode cX9_stretch 31 = .ok (.iload_n 3, 1) := by decide +kernel
theorem dX9_stretch_32 : decode cX9_stretch 32 = .ok (.ifCond .ne 5, 3) := by decide +kernel
theorem dX9_stretch_35 : decode cX9_stretch 35 = .ok (.iconst 1, 1) := by decide +kernel
theorem dX9_stretch_36 : decode cX9_stretch 36 = .ok (.ireturn, 1) := by decide +kernel
theorem dX9_stretch_37 : decode cX9_stretch 37 = .ok (.iload_n 2, 1) := by decide +kernel
theorem dX9_stretch_38 : decode cX9_stretch 38 = .ok (.iload_n 3, 1) := by decide +kernel
theorem dX9_stretch_39 : decode cX9_stretch 39 = .ok (.invokestatic 420, 3) := by decide +kernel
theorem dX9_stretch_42 : decode cX9_stretch 42 = .ok (.istore 4, 2) := by decide +kernel
theorem dX9_stretch_44 : decode cX9_stretch 44 = .ok (.iload_n 1, 1) := by decide +kernel
theorem dX9_stretch_45 : decode cX9_stretch 45 = .ok (.ifCond .eq 10, 3) := by decide +kernel
theorem dX9_stretch_48 : decode cX9_stretch 48 = .ok (.iload_n 2, 1) := by decide +kernel
theorem dX9_stretch_49 : decode cX9_stretch 49 = .ok (.iload 4, 2) := by decide +kernel
theorem dX9_stretch_51 : decode cX9_stretch 51 = .ok (.idiv, 1) := by decide +kernel
theorem dX9_stretch_52 : decode cX9_stretch 52 = .ok (.goto 7, 3) := by decide +kernel
theorem dX9_stretch_55 : decode cX9_stretch 55 = .ok (.iload_n 3, 1) := by decide +kernel
theorem dX9_stretch_56 : decode cX9_stretch 56 = .ok (.iload 4, 2) := by decide +kernel
theorem dX9_stretch_58 : decode cX9_stretch 58 = .ok (.idiv, 1) := by decide +kernel
theorem dX9_stretch_59 : decode cX9_stretch 59 = .ok (.ireturn, 1) := by decide +kernel
set_option maxRecDepth 20000 in
set_option maxHeartbeats 4000000 in
theorem wk_X9_stretch_37 {p : Program} {l : Launch} {e : Env} {s : State} {m : MethodId} {args : Array Value} {below : List Frame} {meth : Method} {c : Code} {G : Gp} {σ : St} {x1 : Int32} {x2 : Int32} {x3 : Int32}  {Q : Int32 → Prop} (F : FX p s m args meth c cX9_stretch 5 (some .int) RX9 G)   (h : wp_X9_stretch_37 σ x1 x2 x3 Q) : J p l e (rmF 3 65) s m args below meth c 5 G (MQ below (QQ G (qI (fun r σ' => σ' = σ ∧ Q r))) args s 0 0 (fr G)) 0 0 37 [(1, .int x1), (2, .int x2), (3, .int x3)] [] σ := by
  unfold wp_X9_stretch_37 at h
  refine J_iln F 1 dX9_stretch_37 rfl rfl ?_
  refine J_iln F 2 dX9_stretch_38 rfl rfl ?_
  refine J_callSi F (As := [.int x2, .int x3]) (st := []) (C_X9_common l G x2 x3  h) lm_X9_420 li_X9_common ini_X9 lc_X9_common hd_X9_common (by decide) (Nat.le_of_ble_eq_true rfl) (by decide) rfl dX9_stretch_39 (fun r_1 σ_2 hh => ?_)
  clear h
  obtain ⟨e9, h⟩ := hh
  subst σ_2
  refine J_is F (L' := [(4, .int r_1), (1, .int x1), (2, .int x2), (3, .int x3)]) dX9_stretch_42 (by decide) rfl ?_
  refine J_iln F 1 dX9_stretch_44 rfl rfl ?_
  refine J_zeq F (tgt := 55) dX9_stretch_45 (by decide) (fun c_3 => ?_) (fun c_3 => ?_)
  · have h := h.1 c_3
    refine J_iln F 3 dX9_stretch_55 rfl rfl ?_
    refine J_il F 0 dX9_stretch_56 rfl ?_
    obtain ⟨h_4, h⟩ := h
    refine J_idiv F dX9_stretch_58 h_4 ?_
    exact J_reti F ⟨_, rfl, rfl, h⟩ dX9_stretch_59
  · have h := h.2 c_3
    refine J_iln F 2 dX9_stretch_48 rfl rfl ?_
    refine J_il F 0 dX9_stretch_49 rfl ?_
    obtain ⟨h_5, h⟩ := h
    refine J_idiv F dX9_stretch_51 h_5 ?_
    refine J_goto F (tgt := 59) dX9_stretch_52 (by decide) ?_
    exact J_reti F ⟨_, rfl, rfl, h⟩ dX9_stretch_59
set_option maxRecDepth 20000 in
set_option maxHeartbeats 4000000 in
theorem C_X9_stretch (l : Launch) (G : Gp) (x1 : Int32)  {σ : St} {Q : Int32 → Prop} (h : wp_X9_stretch σ x1 Q) : Cn l yX9_stretch cX9_stretch 5 (some .int) 3 65 G [.ref (gb G + 244), .int x1] σ (qI (fun r σ' => σ' = σ ∧ Q r)) := by
  refine Cn_of (L := [(0, .ref (gb G + 244)), (1, .int x1)]) RX9 (by decide) rfl (Nat.le_of_ble_eq_true rfl) rfl ?_
  intro p e s m below meth c F
  unfold wp_X9_stretch at h
  refine J_aln F 0 dX9_stretch_0 rfl rfl ?_
  refine J_callVi F (As := []) (st := []) (C_X9_delay l G   h) (ci := 9) ly_244 (by decide) rfl rfl lm_X9_417 li_X9_delay ls_X9_delay ini_X9 lc_X9_delay hd_X9_delay (by decide) (Nat.le_of_ble_eq_true rfl) (by decide) rfl dX9_stretch_1 (fun r_6 σ_7 hh => ?_)
  clear h
  obtain ⟨e9, h⟩ := hh
  subst σ_7
  refine J_isn F (L' := [(2, .int r_6), (0, .ref (gb G + 244)), (1, .int x1)]) dX9_stretch_4 rfl (by decide) rfl ?_
  refine J_aln F 1 dX9_stretch_5 rfl rfl ?_
  refine J_aln F 1 dX9_stretch_6 rfl rfl ?_
  refine J_gfa F (ci := 9) 25 rfl inX9 ly_244 (by decide) (by decide) rfl lf_X9_51 rfl dX9_stretch_7 ?_
  refine J_ic F dX9_stretch_10 ki_0 ?_
  refine J_ialdc F ly_257 (by decide) (by decide) dX9_stretch_11 ?_
  refine J_aln F 1 dX9_stretch_12 rfl rfl ?_
  refine J_gfa F (ci := 9) 25 rfl inX9 ly_244 (by decide) (by decide) rfl lf_X9_51 rfl dX9_stretch_13 ?_
  refine J_aln F 1 dX9_stretch_16 rfl rfl ?_
  refine J_gfi F (ci := 9) 26 rfl inX9 ly_244 (by decide) (by decide) rfl lf_X9_392 rfl dX9_stretch_17 ?_
  refine J_ic F dX9_stretch_20 ki_1 ?_
  refine J_isub F dX9_stretch_21 ?_
  obtain ⟨h_8, h⟩ := h
  refine J_iald F ly_257 h_8 dX9_stretch_22 ?_
  refine J_callVi F (As := [.int (σ 257 0), .int (σ 257 (Int32.toNatClampNeg ((σ 244 26) - (nI 1))))]) (st := []) (C_X9_placesApart l G (σ 257 0) (σ 257 (Int32.toNatClampNeg ((σ 244 26) - (nI 1))))  h) (ci := 9) ly_244 (by decide) rfl rfl lm_X9_414 li_X9_placesApart ls_X9_placesApart ini_X9 lc_X9_placesApart hd_X9_placesApart (by decide) (Nat.le_of_ble_eq_true rfl) (by decide) rfl dX9_stretch_23 (fun r_9 σ_10 hh => ?_)
  clear h
  obtain ⟨e9, h⟩ := hh
  subst σ_10
  refine J_isn F (L' := [(3, .int r_9), (2, .int r_6), (0, .ref (gb G + 244)), (1, .int x1)]) dX9_stretch_26 rfl (by decide) rfl ?_
  refine J_iln F 1 dX9_stretch_27 rfl rfl ?_
  refine J_zne F (tgt := 37) dX9_stretch_28 (by decide) (fun c_11 => ?_) (fun c_11 => ?_)
  · have h := h.1 c_11
    refine J_sub [3, 1, 0] rfl ?_
    exact wk_X9_stretch_37 F  h
  · have h := h.2 c_11
    refine J_iln F 0 dX9_stretch_31 rfl rfl ?_
    refine J_zne F (tgt := 37) dX9_stretch_32 (by decide) (fun c_12 => ?_) (fun c_12 => ?_)
    · have h := h.1 c_12
      refine J_sub [3, 1, 0] rfl ?_
      exact wk_X9_stretch_37 F  h
    · have h := h.2 c_12
      refine J_ic F dX9_stretch_35 ki_1 ?_
      exact J_reti F ⟨_, rfl, rfl, h⟩ dX9_stretch_36
theorem dX9_seek_0 : decode cX9_seek 0 = .ok (.aload_n 0, 1) := by decide +kernel
theorem dX9_seek_1 : decode cX9_seek 1 = .ok (.iload_n 1, 1) := by decide +kernel
theorem dX9_seek_2 : decode cX9_seek 2 = .ok (.invokestatic 354, 3) := by decide +kernel
theorem dX9_seek_5 : decode cX9_seek 5 = .ok (.ifCond .eq 10, 3) := by decide +kernel
theorem dX9_seek_8 : decode cX9_seek 8 = .ok (.iload_n 2, 1) := by decide +kernel
theorem dX9_seek_9 : decode cX9_seek 9 = .ok (.invokestatic 361, 3) := by decide +kernel
theorem dX9_seek_12 : decode cX9_seek 12 = .ok (.ifCond .ne 7, 3) := by decide +kernel
theorem dX9_seek_15 : decode cX9_seek 15 = .ok (.iconst 1, 1) := by decide +kernel
theorem dX9_seek_16 : decode cX9_seek 16 = .ok (.goto 30, 3) := by decide +kernel
theorem dX9_seek_19 : decode cX9_seek 19 = .ok (.iload_n 3, 1) := by decide +kernel
theorem dX9_seek_20 : decode cX9_seek 20 = .ok (.iconst 0, 1) := by decide +kernel
theorem dX9_seek_21 : decode cX9_seek 21 = .ok (.iconst 4, 1) := by decide +kernel
theorem dX9_seek_22 : decode cX9_seek 22 = .ok (.invokestatic 77, 3) := by decide +kernel
theorem dX9_seek_25 : decode cX9_seek 25 = .ok (.ifCond .ne 7, 3) := by decide +kernel
theorem dX9_seek_28 : decode cX9_seek 28 = .ok (.iconst 2, 1) := by decide +kernel
theorem dX9_seek_29 : decode cX9_seek 29 = .ok (.goto 17, 3) := by decide +kernel
theorem dX9_seek_32 : decode cX9_seek 32 = .ok (.aload_n 0, 1) := by decide +kernel
theorem dX9_seek_33 : decode cX9_seek 33 = .ok (.iload_n 1, 1) := by decide +kernel
theorem dX9_seek_34 : decode cX9_seek 34 = .ok (.iconst 1, 1) := by decide +kernel
theorem dX9_seek_35 : decode cX9_seek 35 = .ok (.invokevirtual 57, 3) := by decide +kernel
theorem dX9_seek_38 : decode cX9_seek 38 = .ok (.ifCond .ne 7, 3) := by decide +kernel
theorem dX9_seek_41 : decode cX9_seek 41 = .ok (.iconst 3, 1) := by decide +kernel
theorem dX9_seek_42 : decode cX9_seek 42 = .ok (.goto 4, 3) := by decide +kernel
theorem dX9_seek_45 : decode cX9_seek 45 = .ok (.iconst 0, 1) := by decide +kernel
theorem dX9_seek_46 : decode cX9_seek 46 = .ok (.putfield 54, 3) := by decide +kernel
theorem dX9_seek_49 : decode cX9_seek 49 = .ok (.aload_n 0, 1) := by decide +kernel
theorem dX9_seek_50 : decode cX9_seek 50 = .ok (.getfield 54, 3) := by decide +kernel
theorem dX9_seek_53 : decode cX9_seek 53 = .ok (.ifCond .le 5, 3) := by decide +kernel
theorem dX9_seek_56 : decode cX9_seek 56 = .ok (.iconst 0, 1) := by decide +kernel
theorem dX9_seek_57 : decode cX9_seek 57 = .ok (.ireturn, 1) := by decide +kernel
theorem dX9_seek_58 : decode cX9_seek 58 = .ok (.aload_n 0, 1) := by decide +kernel
theorem dX9_seek_59 : decode cX9_seek 59 = .ok (.iload_n 1, 1) := by decide +kernel
theorem dX9_seek_60 : decode cX9_seek 60 = .ok (.iload_n 2, 1) := by decide +kernel
theorem dX9_seek_61 : decode cX9_seek 61 = .ok (.invokevirtual 423, 3) := by decide +kernel
theorem dX9_seek_64 : decode cX9_seek 64 = .ok (.iload_n 3, 1) := by decide +kernel
theorem dX9_seek_65 : decode cX9_seek 65 = .ok (.tableswitch 72 0 3 #[31, 49, 54, 66], 31) := by decide +kernel
theorem dX9_seek_96 : decode cX9_seek 96 = .ok (.aload_n 0, 1) := by decide +kernel
theorem dX9_seek_97 : decode cX9_seek 97 = .ok (.getfield 395, 3) := by decide +kernel
theorem dX9_seek_100 : decode cX9_seek 100 = .ok (.ifCond .eq 7, 3) := by decide +kernel
theorem dX9_seek_103 : decode cX9_seek 103 = .ok (.iconst (-1), 1) := by decide +kernel
theorem dX9_seek_104 : decode cX9_seek 104 = .ok (.goto 9, 3) := by decide +kernel
theorem dX9_seek_107 : decode cX9_seek 107 = .ok (.aload_n 0, 1) := by decide +kernel
theorem dX9_seek_108 : decode cX9_seek 108 = .ok (.getfield 392, 3) := by decide +kernel
theorem dX9_seek_111 : decode cX9_seek 111 = .ok (.iconst 1, 1) := by decide +kernel
theorem dX9_seek_112 : decode cX9_seek 112 = .ok (.isub, 1) := by decide +kernel
theorem dX9_seek_113 : decode cX9_seek 113 = .ok (.ireturn, 1) := by decide +kernel
theorem dX9_seek_114 : decode cX9_seek 114 = .ok (.aload_n 0, 1) := by decide +kernel
theorem dX9_seek_115 : decode cX9_seek 115 = .ok (.invokevirtual 417, 3) := by decide +kernel
theorem dX9_seek_118 : decode cX9_seek 118 = .ok (.ireturn, 1) := by decide +kernel
theorem dX9_seek_119 : decode cX9_seek 119 = .ok (.aload_n 0, 1) := by decide +kernel
theorem dX9_seek_120 : decode cX9_seek 120 = .ok (.getfield 51, 3) := by decide +kernel
theorem dX9_seek_123 : decode cX9_seek 123 = .ok (.aload_n 0, 1) := by decide +kernel
theorem dX9_seek_124 : decode cX9_seek 124 = .ok (.getfield 392, 3) := by decide +kernel
theorem dX9_seek_127 : decode cX9_seek 127 = .ok (.iconst 1, 1) := by decide +kernel
theorem dX9_seek_128 : decode cX9_seek 128 = .ok (.isub, 1) := by decide +kernel
theorem dX9_seek_129 : decode cX9_seek 129 = .ok (.iaload, 1) := by decide +kernel
theorem dX9_seek_130 : decode cX9_seek 130 = .ok (.ireturn, 1) := by decide +kernel
theorem dX9_seek_131 : decode cX9_seek 131 = .ok (.aload_n 0, 1) := by decide +kernel
theorem dX9_seek_132 : decode cX9_seek 132 = .ok (.iconst 1, 1) := by decide +kernel
theorem dX9_seek_133 : decode cX9_seek 133 = .ok (.invokevirtual 426, 3) := by decide +kernel
theorem dX9_seek_136 : decode cX9_seek 136 = .ok (.ireturn, 1) := by decide +kernel
theorem dX9_seek_137 : decode cX9_seek 137 = .ok (.aload_n 0, 1) := by decide +kernel
theorem dX9_seek_138 : decode cX9_seek 138 = .ok (.iconst 0, 1) := by decide +kernel
theorem dX9_seek_139 : decode cX9_seek 139 = .ok (.invokevirtual 426, 3) := by decide +kernel
theorem dX9_seek_142 : decode cX9_seek 142 = .ok (.ireturn, 1) := by decide +kernel
set_option maxRecDepth 20000 in
set_option maxHeartbeats 4000000 in
theorem wk_X9_seek_46 {p : Program} {l : Launch} {e : Env} {s : State} {m : MethodId} {args : Array Value} {below : List Frame} {meth : Method} {c : Code} {G : Gp} {σ : St} {x1 : Int32} {x2 : Int32} {x3 : Int32} {t1 : Int32}  {Q : Int32 → St → Prop} (F : FX p s m args meth c cX9_seek 4 (some .int) RX9 G)   (h : wp_X9_seek_46 σ x1 x2 x3 t1 Q) : J p l e (rmF 7 168) s m args below meth c 4 G (MQ below (QQ G (qI Q)) args s 0 0 (fr G)) 0 0 46 [(0, .ref (gb G + 244)), (1, .int x1), (2, .int x2), (3, .int x3)] [.int t1, .ref (gb G + 244)] σ := by
  unfold wp_X9_seek_46 at h
  refine J_pfi F (ci := 9) 0 rfl inX9 tyX9 tyX9_ok nmX9 ly_244 (by decide) (by decide) rfl lf_X9_54 rfl rfl (tyX9_ok 0 (by decide)) rfl rfl dX9_seek_46 ?_
  refine J_st (fun σ_1 eσ_1 => ?_)
  have h := h σ_1 eσ_1
  refine J_aln F 0 dX9_seek_49 rfl rfl ?_
  refine J_gfi F (ci := 9) 0 rfl inX9 ly_244 (by decide) (by decide) rfl lf_X9_54 rfl dX9_seek_50 ?_
  refine J_zle F (tgt := 58) dX9_seek_53 (by decide) (fun c_2 => ?_) (fun c_2 => ?_)
  · have h := h.1 c_2
    refine J_aln F 0 dX9_seek_58 rfl rfl ?_
    refine J_iln F 1 dX9_seek_59 rfl rfl ?_
    refine J_iln F 2 dX9_seek_60 rfl rfl ?_
    refine J_callVv F (As := [.int x1, .int x2]) (st := []) (C_X9_seeks l G x1 x2  h) (ci := 9) ly_244 (by decide) rfl rfl lm_X9_423 li_X9_seeks ls_X9_seeks ini_X9 lc_X9_seeks hd_X9_seeks (by decide) (Nat.le_of_ble_eq_true rfl) (by decide) rfl dX9_seek_61 (fun σ_3 h => ?_)
    refine J_iln F 3 dX9_seek_64 rfl rfl ?_
    refine J_case (v := nI 0) (fun c_5 => ?_) (fun c_5 => ?_)
    · have h := h.1 c_5
      refine J_tabIn F (off := 31) (tgt := 96) dX9_seek_65 (by decide) (by decide) (by decide) (by decide) ?_
      refine J_aln F 0 dX9_seek_96 rfl rfl ?_
      refine J_gfi F (ci := 9) 27 rfl inX9 ly_244 (by decide) (by decide) rfl lf_X9_395 rfl dX9_seek_97 ?_
      refine J_zeq F (tgt := 107) dX9_seek_100 (by decide) (fun c_6 => ?_) (fun c_6 => ?_)
      · have h := h.1 c_6
        refine J_aln F 0 dX9_seek_107 rfl rfl ?_
        refine J_gfi F (ci := 9) 26 rfl inX9 ly_244 (by decide) (by decide) rfl lf_X9_392 rfl dX9_seek_108 ?_
        refine J_ic F dX9_seek_111 ki_1 ?_
        refine J_isub F dX9_seek_112 ?_
        exact J_reti F ⟨_, rfl, h⟩ dX9_seek_113
      · have h := h.2 c_6
        refine J_ic F dX9_seek_103 ki_m1 ?_
        refine J_goto F (tgt := 113) dX9_seek_104 (by decide) ?_
        exact J_reti F ⟨_, rfl, h⟩ dX9_seek_113
    · have h := h.2 c_5
      refine J_case (v := nI 1) (fun c_7 => ?_) (fun c_7 => ?_)
      · have h := h.1 c_7
        refine J_tabIn F (off := 49) (tgt := 114) dX9_seek_65 (by decide) (by decide) (by decide) (by decide) ?_
        refine J_aln F 0 dX9_seek_114 rfl rfl ?_
        refine J_callVi F (As := []) (st := []) (C_X9_delay l G   h) (ci := 9) ly_244 (by decide) rfl rfl lm_X9_417 li_X9_delay ls_X9_delay ini_X9 lc_X9_delay hd_X9_delay (by decide) (Nat.le_of_ble_eq_true rfl) (by decide) rfl dX9_seek_115 (fun r_8 σ_9 hh => ?_)
        clear h
        obtain ⟨e9, h⟩ := hh
        subst σ_9
        exact J_reti F ⟨_, rfl, h⟩ dX9_seek_118
      · have h := h.2 c_7
        refine J_case (v := nI 2) (fun c_10 => ?_) (fun c_10 => ?_)
        · have h := h.1 c_10
          refine J_tabIn F (off := 54) (tgt := 119) dX9_seek_65 (by decide) (by decide) (by decide) (by decide) ?_
          refine J_aln F 0 dX9_seek_119 rfl rfl ?_
          refine J_gfa F (ci := 9) 25 rfl inX9 ly_244 (by decide) (by decide) rfl lf_X9_51 rfl dX9_seek_120 ?_
          refine J_aln F 0 dX9_seek_123 rfl rfl ?_
          refine J_gfi F (ci := 9) 26 rfl inX9 ly_244 (by decide) (by decide) rfl lf_X9_392 rfl dX9_seek_124 ?_
          refine J_ic F dX9_seek_127 ki_1 ?_
          refine J_isub F dX9_seek_128 ?_
          obtain ⟨h_11, h⟩ := h
          refine J_iald F ly_257 h_11 dX9_seek_129 ?_
          exact J_reti F ⟨_, rfl, h⟩ dX9_seek_130
        · have h := h.2 c_10
          refine J_case (v := nI 3) (fun c_12 => ?_) (fun c_12 => ?_)
          · have h := h.1 c_12
            refine J_tabIn F (off := 66) (tgt := 131) dX9_seek_65 (by decide) (by decide) (by decide) (by decide) ?_
            refine J_aln F 0 dX9_seek_131 rfl rfl ?_
            refine J_ic F dX9_seek_132 ki_1 ?_
            refine J_callVi F (As := [.int (nI 1)]) (st := []) (C_X9_stretch l G (nI 1)  h) (ci := 9) ly_244 (by decide) rfl rfl lm_X9_426 li_X9_stretch ls_X9_stretch ini_X9 lc_X9_stretch hd_X9_stretch (by decide) (Nat.le_of_ble_eq_true rfl) (by decide) rfl dX9_seek_133 (fun r_13 σ_14 hh => ?_)
            clear h
            obtain ⟨e9, h⟩ := hh
            subst σ_14
            exact J_reti F ⟨_, rfl, h⟩ dX9_seek_136
          · have h := h.2 c_12
            refine J_tabOut F (tgt := 137) dX9_seek_65 (tab_out 0 3 (fun k h1 h2 => by rcases (show k = 0 ∨ k = 1 ∨ k = 2 ∨ k = 3 by omega) with rfl | rfl | rfl | rfl <;> assumption)) (by decide) ?_
            refine J_aln F 0 dX9_seek_137 rfl rfl ?_
            refine J_ic F dX9_seek_138 ki_0 ?_
            refine J_callVi F (As := [.int (nI 0)]) (st := []) (C_X9_stretch l G (nI 0)  h) (ci := 9) ly_244 (by decide) rfl rfl lm_X9_426 li_X9_stretch ls_X9_stretch ini_X9 lc_X9_stretch hd_X9_stretch (by decide) (Nat.le_of_ble_eq_true rfl) (by decide) rfl dX9_seek_139 (fun r_15 σ_16 hh => ?_)
            clear h
            obtain ⟨e9, h⟩ := hh
            subst σ_16
            exact J_reti F ⟨_, rfl, h⟩ dX9_seek_142
  · have h := h.2 c_2
    refine J_ic F dX9_seek_56 ki_0 ?_
    exact J_reti F ⟨_, rfl, h⟩ dX9_seek_57
set_option maxRecDepth 20000 in
set_option maxHeartbeats 4000000 in
theorem wk_X9_seek_15 {p : Program} {l : Launch} {e : Env} {s : State} {m : MethodId} {args : Array Value} {below : List Frame} {meth : Method} {c : Code} {G : Gp} {σ : St} {x1 : Int32} {x2 : Int32} {x3 : Int32}  {Q : Int32 → St → Prop} (F : FX p s m args meth c cX9_seek 4 (some .int) RX9 G)   (h : wp_X9_seek_15 σ x1 x2 x3 Q) : J p l e (rmF 7 168) s m args below meth c 4 G (MQ below (QQ G (qI Q)) args s 0 0 (fr G)) 0 0 15 [(0, .ref (gb G + 244)), (1, .int x1), (2, .int x2), (3, .int x3)] [.ref (gb G + 244)] σ := by
  unfold wp_X9_seek_15 at h
  refine J_ic F dX9_seek_15 ki_1 ?_
  refine J_goto F (tgt := 46) dX9_seek_16 (by decide) ?_
  exact wk_X9_seek_46 F  h
set_option maxRecDepth 20000 in
set_option maxHeartbeats 4000000 in
theorem C_X9_seek (l : Launch) (G : Gp) (x1 : Int32) (x2 : Int32) (x3 : Int32)  {σ : St} {Q : Int32 → St → Prop} (h : wp_X9_seek σ x1 x2 x3 Q) : Cn l yX9_seek cX9_seek 4 (some .int) 7 168 G [.ref (gb G + 244), .int x1, .int x2, .int x3] σ (qI Q) := by
  refine Cn_of (L := [(0, .ref (gb G + 244)), (1, .int x1), (2, .int x2), (3, .int x3)]) RX9 (by decide) rfl (Nat.le_of_ble_eq_true rfl) rfl ?_
  intro p e s m below meth c F
  unfold wp_X9_seek at h
  refine J_aln F 0 dX9_seek_0 rfl rfl ?_
  refine J_iln F 1 dX9_seek_1 rfl rfl ?_
  refine J_callSi F (As := [.int x1]) (st := [.ref (gb G + 244)]) (C_X9_isNode l G x1  h) lm_X9_354 li_X9_isNode ini_X9 lc_X9_isNode hd_X9_isNode (by decide) (Nat.le_of_ble_eq_true rfl) (by decide) rfl dX9_seek_2 (fun r_17 σ_18 hh => ?_)
  clear h
  obtain ⟨e9, h⟩ := hh
  subst σ_18
  refine J_zeq F (tgt := 15) dX9_seek_5 (by decide) (fun c_19 => ?_) (fun c_19 => ?_)
  · have h := h.1 c_19
    exact wk_X9_seek_15 F  h
  · have h := h.2 c_19
    refine J_iln F 2 dX9_seek_8 rfl rfl ?_
    refine J_callSi F (As := [.int x2]) (st := [.ref (gb G + 244)]) (C_X9_isKey l G x2  h) lm_X9_361 li_X9_isKey ini_X9 lc_X9_isKey hd_X9_isKey (by decide) (Nat.le_of_ble_eq_true rfl) (by decide) rfl dX9_seek_9 (fun r_20 σ_21 hh => ?_)
    clear h
    obtain ⟨e9, h⟩ := hh
    subst σ_21
    refine J_zne F (tgt := 19) dX9_seek_12 (by decide) (fun c_22 => ?_) (fun c_22 => ?_)
    · have h := h.1 c_22
      refine J_iln F 3 dX9_seek_19 rfl rfl ?_
      refine J_ic F dX9_seek_20 ki_0 ?_
      refine J_ic F dX9_seek_21 ki_4 ?_
      refine J_callSi F (As := [.int x3, .int (nI 0), .int (nI 4)]) (st := [.ref (gb G + 244)]) (C_X9_isIn l G x3 (nI 0) (nI 4)  h) lm_X9_77 li_X9_isIn ini_X9 lc_X9_isIn hd_X9_isIn (by decide) (Nat.le_of_ble_eq_true rfl) (by decide) rfl dX9_seek_22 (fun r_23 σ_24 hh => ?_)
      clear h
      obtain ⟨e9, h⟩ := hh
      subst σ_24
      refine J_zne F (tgt := 32) dX9_seek_25 (by decide) (fun c_25 => ?_) (fun c_25 => ?_)
      · have h := h.1 c_25
        refine J_aln F 0 dX9_seek_32 rfl rfl ?_
        refine J_iln F 1 dX9_seek_33 rfl rfl ?_
        refine J_ic F dX9_seek_34 ki_1 ?_
        refine J_callVi F (As := [.int x1, .int (nI 1)]) (st := [.ref (gb G + 244)]) (C_X9_isState l G x1 (nI 1)  h) (ci := 9) ly_244 (by decide) rfl rfl lm_X9_57 li_X9_isState ls_X9_isState ini_X9 lc_X9_isState hd_X9_isState (by decide) (Nat.le_of_ble_eq_true rfl) (by decide) rfl dX9_seek_35 (fun r_26 σ_27 hh => ?_)
        clear h
        obtain ⟨e9, h⟩ := hh
        subst σ_27
        refine J_zne F (tgt := 45) dX9_seek_38 (by decide) (fun c_28 => ?_) (fun c_28 => ?_)
        · have h := h.1 c_28
          refine J_ic F dX9_seek_45 ki_0 ?_
          exact wk_X9_seek_46 F  h
        · have h := h.2 c_28
          refine J_ic F dX9_seek_41 ki_3 ?_
          refine J_goto F (tgt := 46) dX9_seek_42 (by decide) ?_
          exact wk_X9_seek_46 F  h
      · have h := h.2 c_25
        refine J_ic F dX9_seek_28 ki_2 ?_
        refine J_goto F (tgt := 46) dX9_seek_29 (by decide) ?_
        exact wk_X9_seek_46 F  h
    · have h := h.2 c_22
      exact wk_X9_seek_15 F  h
theorem dX9_isAllWith_0 : decode cX9_isAllWith 0 = .ok (.iconst 0, 1) := by decide +kernel
theorem dX9_isAllWith_1 : decode cX9_isAllWith 1 = .ok (.istore_n 3, 1) := by decide +kernel
theorem dX9_isAllWith_2 : decode cX9_isAllWith 2 = .ok (.iload_n 3, 1) := by decide +kernel
theorem dX9_isAllWith_3 : decode cX9_isAllWith 3 = .ok (.aload_n 0, 1) := by decide +kernel
theorem dX9_isAllWith_4 : decode cX9_isAllWith 4 = .ok (.getfield 7, 3) := by decide +kernel
theorem dX9_isAllWith_7 : decode cX9_isAllWith 7 = .ok (.bipush 37, 2) := by decide +kernel
theorem dX9_isAllWith_9 : decode cX9_isAllWith 9 = .ok (.iaload, 1) := by decide +kernel
theorem dX9_isAllWith_10 : decode cX9_isAllWith 10 = .ok (.if_icmp .ge 30, 3) := by decide +kernel
theorem dX9_isAllWith_13 : decode cX9_isAllWith 13 = .ok (.aload_n 0, 1) := by decide +kernel
theorem dX9_isAllWith_14 : decode cX9_isAllWith 14 = .ok (.iload_n 1, 1) := by decide +kernel
theorem dX9_isAllWith_15 : decode cX9_isAllWith 15 = .ok (.iload_n 3, 1) := by decide +kernel
theorem dX9_isAllWith_16 : decode cX9_isAllWith 16 = .ok (.invokevirtual 165, 3) := by decide +kernel
theorem dX9_isAllWith_19 : decode cX9_isAllWith 19 = .ok (.ifCond .eq 15, 3) := by decide +kernel
theorem dX9_isAllWith_22 : decode cX9_isAllWith 22 = .ok (.aload_n 0, 1) := by decide +kernel
theorem dX9_isAllWith_23 : decode cX9_isAllWith 23 = .ok (.iload_n 1, 1) := by decide +kernel
theorem dX9_isAllWith_24 : decode cX9_isAllWith 24 = .ok (.iload_n 3, 1) := by decide +kernel
theorem dX9_isAllWith_25 : decode cX9_isAllWith 25 = .ok (.invokevirtual 168, 3) := by decide +kernel
theorem dX9_isAllWith_28 : decode cX9_isAllWith 28 = .ok (.iload_n 2, 1) := by decide +kernel
theorem dX9_isAllWith_29 : decode cX9_isAllWith 29 = .ok (.if_icmp .eq 5, 3) := by decide +kernel
theorem dX9_isAllWith_32 : decode cX9_isAllWith 32 = .ok (.iconst 0, 1) := by decide +kernel
theorem dX9_isAllWith_33 : decode cX9_isAllWith 33 = .ok (.ireturn, 1) := by decide +kernel
theorem dX9_isAllWith_34 : decode cX9_isAllWith 34 = .ok (.iinc 3 1, 3) := by decide +kernel
theorem dX9_isAllWith_37 : decode cX9_isAllWith 37 = .ok (.goto (-35), 3) := by decide +kernel
theorem dX9_isAllWith_40 : decode cX9_isAllWith 40 = .ok (.iconst 1, 1) := by decide +kernel
theorem dX9_isAllWith_41 : decode cX9_isAllWith 41 = .ok (.ireturn, 1) := by decide +kernel
set_option maxRecDepth 20000 in
set_option maxHeartbeats 4000000 in
theorem wk_X9_isAllWith_2 {p : Program} {l : Launch} {e : Env} {s : State} {m : MethodId} {args : Array Value} {below : List Frame} {meth : Method} {c : Code} {G : Gp} {x1 : Int32} {x2 : Int32}  {Q : Int32 → St → Prop} (F : FX p s m args meth c cX9_isAllWith 4 (some .boolean) RX9 G)   : ∀ (n9 : Nat) (σ : St) (x3 : Int32), LP2 (wp_X9_isAllWith_2 x1 x2 Q) n9 σ x3 → J p l e (rmF 6 137) s m args below meth c 4 G (MQ below (QQ G (qI Q)) args s 0 0 (fr G)) 0 0 2 [(0, .ref (gb G + 244)), (1, .int x1), (2, .int x2), (3, .int x3)] [] σ := by
  intro n9
  induction n9 with
  | zero => intro σ x3 h; exact h.elim
  | succ n9 i2 =>
    intro σ x3 h
    have h : wp_X9_isAllWith_2 x1 x2 Q (LP2 (wp_X9_isAllWith_2 x1 x2 Q) n9) σ x3 := h
    unfold wp_X9_isAllWith_2 at h
    refine J_iln F 3 dX9_isAllWith_2 rfl rfl ?_
    refine J_aln F 0 dX9_isAllWith_3 rfl rfl ?_
    refine J_gfa F (ci := 9) 1 rfl inX9 ly_244 (by decide) (by decide) rfl lf_X9_7 rfl dX9_isAllWith_4 ?_
    refine J_bi F dX9_isAllWith_7 kb_37 ?_
    refine J_ialdc F ly_245 (by decide) (by decide) dX9_isAllWith_9 ?_
    refine J_cge F (tgt := 40) dX9_isAllWith_10 (by decide) (fun c_1 => ?_) (fun c_1 => ?_)
    · have h := h.1 c_1
      refine J_ic F dX9_isAllWith_40 ki_1 ?_
      exact J_retz F (Or.inr rfl) ⟨_, rfl, h⟩ dX9_isAllWith_41
    · have h := h.2 c_1
      refine J_aln F 0 dX9_isAllWith_13 rfl rfl ?_
      refine J_iln F 1 dX9_isAllWith_14 rfl rfl ?_
      refine J_iln F 3 dX9_isAllWith_15 rfl rfl ?_
      refine J_callVi F (As := [.int x1, .int x3]) (st := []) (C_X9_isHeld l G x1 x3  h) (ci := 9) ly_244 (by decide) rfl rfl lm_X9_165 li_X9_isHeld ls_X9_isHeld ini_X9 lc_X9_isHeld hd_X9_isHeld (by decide) (Nat.le_of_ble_eq_true rfl) (by decide) rfl dX9_isAllWith_16 (fun r_2 σ_3 hh => ?_)
      clear h
      obtain ⟨e9, h⟩ := hh
      subst σ_3
      refine J_zeq F (tgt := 34) dX9_isAllWith_19 (by decide) (fun c_4 => ?_) (fun c_4 => ?_)
      · have h := h.1 c_4
        obtain ⟨x3_5, ex3_5⟩ : ∃ z : Int32, z = x3 + (nI 1) := ⟨_, rfl⟩
        have h := h x3_5 ex3_5
        refine J_iinc F (v := x3_5) (L' := [(3, .int x3_5), (0, .ref (gb G + 244)), (1, .int x1), (2, .int x2)]) 3 dX9_isAllWith_34 rfl (by rw [ki_1, ex3_5]) (by decide) rfl ?_
        refine J_goto F (tgt := 2) dX9_isAllWith_37 (by decide) ?_
        refine J_sub [1, 2, 3, 0] rfl ?_
        exact i2 _ _ h
      · have h := h.2 c_4
        refine J_aln F 0 dX9_isAllWith_22 rfl rfl ?_
        refine J_iln F 1 dX9_isAllWith_23 rfl rfl ?_
        refine J_iln F 3 dX9_isAllWith_24 rfl rfl ?_
        refine J_callVi F (As := [.int x1, .int x3]) (st := []) (C_X9_keeperOf l G x1 x3  h) (ci := 9) ly_244 (by decide) rfl rfl lm_X9_168 li_X9_keeperOf ls_X9_keeperOf ini_X9 lc_X9_keeperOf hd_X9_keeperOf (by decide) (Nat.le_of_ble_eq_true rfl) (by decide) rfl dX9_isAllWith_25 (fun r_6 σ_7 h => ?_)
        refine J_iln F 2 dX9_isAllWith_28 rfl rfl ?_
        refine J_ceq F (tgt := 34) dX9_isAllWith_29 (by decide) (fun c_8 => ?_) (fun c_8 => ?_)
        · have h := h.1 c_8
          obtain ⟨x3_9, ex3_9⟩ : ∃ z : Int32, z = x3 + (nI 1) := ⟨_, rfl⟩
          have h := h x3_9 ex3_9
          refine J_iinc F (v := x3_9) (L' := [(3, .int x3_9), (0, .ref (gb G + 244)), (1, .int x1), (2, .int x2)]) 3 dX9_isAllWith_34 rfl (by rw [ki_1, ex3_9]) (by decide) rfl ?_
          refine J_goto F (tgt := 2) dX9_isAllWith_37 (by decide) ?_
          refine J_sub [1, 2, 3, 0] rfl ?_
          exact i2 _ _ h
        · have h := h.2 c_8
          refine J_ic F dX9_isAllWith_32 ki_0 ?_
          exact J_retz F (Or.inl rfl) ⟨_, rfl, h⟩ dX9_isAllWith_33
set_option maxRecDepth 20000 in
set_option maxHeartbeats 4000000 in
theorem C_X9_isAllWith (l : Launch) (G : Gp) (x1 : Int32) (x2 : Int32)  {σ : St} {Q : Int32 → St → Prop} (h : wp_X9_isAllWith σ x1 x2 Q) : Cn l yX9_isAllWith cX9_isAllWith 4 (some .boolean) 6 137 G [.ref (gb G + 244), .int x1, .int x2] σ (qI Q) := by
  refine Cn_of (L := [(0, .ref (gb G + 244)), (1, .int x1), (2, .int x2)]) RX9 (by decide) rfl (Nat.le_of_ble_eq_true rfl) rfl ?_
  intro p e s m below meth c F
  unfold wp_X9_isAllWith at h
  refine J_ic F dX9_isAllWith_0 ki_0 ?_
  refine J_isn F (L' := [(3, .int (nI 0)), (0, .ref (gb G + 244)), (1, .int x1), (2, .int x2)]) dX9_isAllWith_1 rfl (by decide) rfl ?_
  refine J_sub [1, 2, 3, 0] rfl ?_
  obtain ⟨n9, h⟩ := h
  exact wk_X9_isAllWith_2 F  n9 _ _ h
theorem dX9_risk_0 : decode cX9_risk 0 = .ok (.aload_n 0, 1) := by decide +kernel
theorem dX9_risk_1 : decode cX9_risk 1 = .ok (.iload_n 1, 1) := by decide +kernel
theorem dX9_risk_2 : decode cX9_risk 2 = .ok (.invokestatic 354, 3) := by decide +kernel
theorem dX9_risk_5 : decode cX9_risk 5 = .ok (.ifCond .eq 7, 3) := by decide +kernel
theorem dX9_risk_8 : decode cX9_risk 8 = .ok (.iconst 0, 1) := by decide +kernel
theorem dX9_risk_9 : decode cX9_risk 9 = .ok (.goto 4, 3) := by decide +kernel
theorem dX9_risk_12 : decode cX9_risk 12 = .ok (.iconst 1, 1) := by decide +kernel
theorem dX9_risk_13 : decode cX9_risk 13 = .ok (.putfield 54, 3) := by decide +kernel
theorem dX9_risk_16 : decode cX9_risk 16 = .ok (.aload_n 0, 1) := by decide +kernel
theorem dX9_risk_17 : decode cX9_risk 17 = .ok (.getfield 54, 3) := by decide +kernel
theorem dX9_risk_20 : decode cX9_risk 20 = .ok (.ifCond .le 5, 3) := by decide +kernel
theorem dX9_risk_23 : decode cX9_risk 23 = .ok (.iconst 0, 1) := by decide +kernel
theorem dX9_risk_24 : decode cX9_risk 24 = .ok (.ireturn, 1) := by decide +kernel
theorem dX9_risk_25 : decode cX9_risk 25 = .ok (.iconst 0, 1) := by decide +kernel
theorem dX9_risk_26 : decode cX9_risk 26 = .ok (.istore_n 2, 1) := by decide +kernel
theorem dX9_risk_27 : decode cX9_risk 27 = .ok (.iconst 0, 1) := by decide +kernel
theorem dX9_risk_28 : decode cX9_risk 28 = .ok (.istore_n 3, 1) := by decide +kernel
theorem dX9_risk_29 : decode cX9_risk 29 = .ok (.iload_n 3, 1) := by decide +kernel
theorem dX9_risk_30 : decode cX9_risk 30 = .ok (.bipush 100, 2) := by decide +kernel
theorem dX9_risk_32 : decode cX9_risk 32 = .ok (.if_icmp .ge 34, 3) := by decide +kernel
theorem dX9_risk_35 : decode cX9_risk 35 = .ok (.iload_n 2, 1) := by decide +kernel
theorem dX9_risk_36 : decode cX9_risk 36 = .ok (.aload_n 0, 1) := by decide +kernel
theorem dX9_risk_37 : decode cX9_risk 37 = .ok (.iload_n 3, 1) := by decide +kernel
theorem dX9_risk_38 : decode cX9_risk 38 = .ok (.invokevirtual 227, 3) := by decide +kernel
theorem dX9_risk_41 : decode cX9_risk 41 = .ok (.ifCond .eq 16, 3) := by decide +kernel
theorem dX9_risk_44 : decode cX9_risk 44 = .ok (.aload_n 0, 1) := by decide +kernel
theorem dX9_risk_45 : decode cX9_risk 45 = .ok (.iload_n 3, 1) := by decide +kernel
theorem dX9_risk_46 : decode cX9_risk 46 = .ok (.iload_n 1, 1) := by decide +kernel
theorem dX9_risk_47 : decode cX9_risk 47 = .ok (.invokevirtual 430, 3) := by decide +kernel
theorem dX9_risk_50 : decode cX9_risk 50 = .ok (.ifCond .eq 7, 3) := by decide +kernel
theorem dX9_risk_53 : decode cX9_risk 53 = .ok (.iconst 1, 1) := by decide +kernel
theorem dX9_risk_54 : decode cX9_risk 54 = .ok (.goto 4, 3) := by decide +kernel
theorem dX9_risk_57 : decode cX9_risk 57 = .ok (.iconst 0, 1) := by decide +kernel
theorem dX9_risk_58 : decode cX9_risk 58 = .ok (.iadd, 1) := by decide +kernel
theorem dX9_risk_59 : decode cX9_risk 59 = .ok (.istore_n 2, 1) := by decide +kernel
theorem dX9_risk_60 : decode cX9_risk 60 = .ok (.iinc 3 1, 3) := by decide +kernel
theorem dX9_risk_63 : decode cX9_risk 63 = .ok (.goto (-34), 3) := by decide +kernel
theorem dX9_risk_66 : decode cX9_risk 66 = .ok (.iload_n 2, 1) := by decide +kernel
theorem dX9_risk_67 : decode cX9_risk 67 = .ok (.ireturn, 1) := by decide +kernel
set_option maxRecDepth 20000 in
set_option maxHeartbeats 4000000 in
theorem wk_X9_risk_29 {p : Program} {l : Launch} {e : Env} {s : State} {m : MethodId} {args : Array Value} {below : List Frame} {meth : Method} {c : Code} {G : Gp} {x1 : Int32}  {Q : Int32 → St → Prop} (F : FX p s m args meth c cX9_risk 4 (some .int) RX9 G)   : ∀ (n9 : Nat) (σ : St) (x2 : Int32) (x3 : Int32), LP3 (wp_X9_risk_29 x1 Q) n9 σ x2 x3 → J p l e (rmF 7 160) s m args below meth c 4 G (MQ below (QQ G (qI Q)) args s 0 0 (fr G)) 0 0 29 [(0, .ref (gb G + 244)), (1, .int x1), (2, .int x2), (3, .int x3)] [] σ := by
  intro n9
  induction n9 with
  | zero => intro σ x2 x3 h; exact h.elim
  | succ n9 i29 =>
    intro σ x2 x3 h
    have h : wp_X9_risk_29 x1 Q (LP3 (wp_X9_risk_29 x1 Q) n9) σ x2 x3 := h
    unfold wp_X9_risk_29 at h
    refine J_iln F 3 dX9_risk_29 rfl rfl ?_
    refine J_bi F dX9_risk_30 kb_100 ?_
    refine J_cge F (tgt := 66) dX9_risk_32 (by decide) (fun c_1 => ?_) (fun c_1 => ?_)
    · have h := h.1 c_1
      refine J_iln F 2 dX9_risk_66 rfl rfl ?_
      exact J_reti F ⟨_, rfl, h⟩ dX9_risk_67
    · have h := h.2 c_1
      refine J_iln F 2 dX9_risk_35 rfl rfl ?_
      refine J_aln F 0 dX9_risk_36 rfl rfl ?_
      refine J_iln F 3 dX9_risk_37 rfl rfl ?_
      refine J_callVi F (As := [.int x3]) (st := [.int x2]) (C_X9_heldIn l G x3  h) (ci := 9) ly_244 (by decide) rfl rfl lm_X9_227 li_X9_heldIn ls_X9_heldIn ini_X9 lc_X9_heldIn hd_X9_heldIn (by decide) (Nat.le_of_ble_eq_true rfl) (by decide) rfl dX9_risk_38 (fun r_2 σ_3 hh => ?_)
      clear h
      obtain ⟨e9, h⟩ := hh
      subst σ_3
      refine J_zeq F (tgt := 57) dX9_risk_41 (by decide) (fun c_4 => ?_) (fun c_4 => ?_)
      · have h := h.1 c_4
        refine J_ic F dX9_risk_57 ki_0 ?_
        refine J_iadd F dX9_risk_58 ?_
        refine J_top (fun x2_5 ex2_5 => ?_)
        have h := h x2_5 ex2_5
        refine J_isn F (L' := [(2, .int x2_5), (0, .ref (gb G + 244)), (1, .int x1), (3, .int x3)]) dX9_risk_59 rfl (by decide) rfl ?_
        obtain ⟨x3_6, ex3_6⟩ : ∃ z : Int32, z = x3 + (nI 1) := ⟨_, rfl⟩
        have h := h x3_6 ex3_6
        refine J_iinc F (v := x3_6) (L' := [(3, .int x3_6), (2, .int x2_5), (0, .ref (gb G + 244)), (1, .int x1)]) 3 dX9_risk_60 rfl (by rw [ki_1, ex3_6]) (by decide) rfl ?_
        refine J_goto F (tgt := 29) dX9_risk_63 (by decide) ?_
        refine J_sub [2, 3, 1, 0] rfl ?_
        exact i29 _ _ _ h
      · have h := h.2 c_4
        refine J_aln F 0 dX9_risk_44 rfl rfl ?_
        refine J_iln F 3 dX9_risk_45 rfl rfl ?_
        refine J_iln F 1 dX9_risk_46 rfl rfl ?_
        refine J_callVi F (As := [.int x3, .int x1]) (st := [.int x2]) (C_X9_isAllWith l G x3 x1  h) (ci := 9) ly_244 (by decide) rfl rfl lm_X9_430 li_X9_isAllWith ls_X9_isAllWith ini_X9 lc_X9_isAllWith hd_X9_isAllWith (by decide) (Nat.le_of_ble_eq_true rfl) (by decide) rfl dX9_risk_47 (fun r_7 σ_8 h => ?_)
        refine J_zeq F (tgt := 57) dX9_risk_50 (by decide) (fun c_9 => ?_) (fun c_9 => ?_)
        · have h := h.1 c_9
          refine J_ic F dX9_risk_57 ki_0 ?_
          refine J_iadd F dX9_risk_58 ?_
          refine J_top (fun x2_10 ex2_10 => ?_)
          have h := h x2_10 ex2_10
          refine J_isn F (L' := [(2, .int x2_10), (0, .ref (gb G + 244)), (1, .int x1), (3, .int x3)]) dX9_risk_59 rfl (by decide) rfl ?_
          obtain ⟨x3_11, ex3_11⟩ : ∃ z : Int32, z = x3 + (nI 1) := ⟨_, rfl⟩
          have h := h x3_11 ex3_11
          refine J_iinc F (v := x3_11) (L' := [(3, .int x3_11), (2, .int x2_10), (0, .ref (gb G + 244)), (1, .int x1)]) 3 dX9_risk_60 rfl (by rw [ki_1, ex3_11]) (by decide) rfl ?_
          refine J_goto F (tgt := 29) dX9_risk_63 (by decide) ?_
          refine J_sub [2, 3, 1, 0] rfl ?_
          exact i29 _ _ _ h
        · have h := h.2 c_9
          refine J_ic F dX9_risk_53 ki_1 ?_
          refine J_goto F (tgt := 58) dX9_risk_54 (by decide) ?_
          refine J_iadd F dX9_risk_58 ?_
          refine J_top (fun x2_12 ex2_12 => ?_)
          have h := h x2_12 ex2_12
          refine J_isn F (L' := [(2, .int x2_12), (0, .ref (gb G + 244)), (1, .int x1), (3, .int x3)]) dX9_risk_59 rfl (by decide) rfl ?_
          obtain ⟨x3_13, ex3_13⟩ : ∃ z : Int32, z = x3 + (nI 1) := ⟨_, rfl⟩
          have h := h x3_13 ex3_13
          refine J_iinc F (v := x3_13) (L' := [(3, .int x3_13), (2, .int x2_12), (0, .ref (gb G + 244)), (1, .int x1)]) 3 dX9_risk_60 rfl (by rw [ki_1, ex3_13]) (by decide) rfl ?_
          refine J_goto F (tgt := 29) dX9_risk_63 (by decide) ?_
          refine J_sub [2, 3, 1, 0] rfl ?_
          exact i29 _ _ _ h
set_option maxRecDepth 20000 in
set_option maxHeartbeats 4000000 in
theorem wk_X9_risk_13 {p : Program} {l : Launch} {e : Env} {s : State} {m : MethodId} {args : Array Value} {below : List Frame} {meth : Method} {c : Code} {G : Gp} {σ : St} {x1 : Int32} {t1 : Int32}  {Q : Int32 → St → Prop} (F : FX p s m args meth c cX9_risk 4 (some .int) RX9 G)   (h : wp_X9_risk_13 σ x1 t1 Q) : J p l e (rmF 7 160) s m args below meth c 4 G (MQ below (QQ G (qI Q)) args s 0 0 (fr G)) 0 0 13 [(0, .ref (gb G + 244)), (1, .int x1)] [.int t1, .ref (gb G + 244)] σ := by
  unfold wp_X9_risk_13 at h
  refine J_pfi F (ci := 9) 0 rfl inX9 tyX9 tyX9_ok nmX9 ly_244 (by decide) (by decide) rfl lf_X9_54 rfl rfl (tyX9_ok 0 (by decide)) rfl rfl dX9_risk_13 ?_
  refine J_st (fun σ_14 eσ_14 => ?_)
  have h := h σ_14 eσ_14
  refine J_aln F 0 dX9_risk_16 rfl rfl ?_
  refine J_gfi F (ci := 9) 0 rfl inX9 ly_244 (by decide) (by decide) rfl lf_X9_54 rfl dX9_risk_17 ?_
  refine J_zle F (tgt := 25) dX9_risk_20 (by decide) (fun c_15 => ?_) (fun c_15 => ?_)
  · have h := h.1 c_15
    refine J_ic F dX9_risk_25 ki_0 ?_
    refine J_isn F (L' := [(2, .int (nI 0)), (0, .ref (gb G + 244)), (1, .int x1)]) dX9_risk_26 rfl (by decide) rfl ?_
    refine J_ic F dX9_risk_27 ki_0 ?_
    refine J_isn F (L' := [(3, .int (nI 0)), (2, .int (nI 0)), (0, .ref (gb G + 244)), (1, .int x1)]) dX9_risk_28 rfl (by decide) rfl ?_
    refine J_sub [2, 3, 1, 0] rfl ?_
    obtain ⟨n9, h⟩ := h
    exact wk_X9_risk_29 F  n9 _ _ _ h
  · have h := h.2 c_15
    refine J_ic F dX9_risk_23 ki_0 ?_
    exact J_reti F ⟨_, rfl, h⟩ dX9_risk_24
set_option maxRecDepth 20000 in
set_option maxHeartbeats 4000000 in
theorem C_X9_risk (l : Launch) (G : Gp) (x1 : Int32)  {σ : St} {Q : Int32 → St → Prop} (h : wp_X9_risk σ x1 Q) : Cn l yX9_risk cX9_risk 4 (some .int) 7 160 G [.ref (gb G + 244), .int x1] σ (qI Q) := by
  refine Cn_of (L := [(0, .ref (gb G + 244)), (1, .int x1)]) RX9 (by decide) rfl (Nat.le_of_ble_eq_true rfl) rfl ?_
  intro p e s m below meth c F
  unfold wp_X9_risk at h
  refine J_aln F 0 dX9_risk_0 rfl rfl ?_
  refine J_iln F 1 dX9_risk_1 rfl rfl ?_
  refine J_callSi F (As := [.int x1]) (st := [.ref (gb G + 244)]) (C_X9_isNode l G x1  h) lm_X9_354 li_X9_isNode ini_X9 lc_X9_isNode hd_X9_isNode (by decide) (Nat.le_of_ble_eq_true rfl) (by decide) rfl dX9_risk_2 (fun r_16 σ_17 hh => ?_)
  clear h
  obtain ⟨e9, h⟩ := hh
  subst σ_17
  refine J_zeq F (tgt := 12) dX9_risk_5 (by decide) (fun c_18 => ?_) (fun c_18 => ?_)
  · have h := h.1 c_18
    refine J_ic F dX9_risk_12 ki_1 ?_
    exact wk_X9_risk_13 F  h
  · have h := h.2 c_18
    refine J_ic F dX9_risk_8 ki_0 ?_
    refine J_goto F (tgt := 13) dX9_risk_9 (by decide) ?_
    exact wk_X9_risk_13 F  h
theorem dX9_order_0 : decode cX9_order 0 = .ok (.aload_n 0, 1) := by decide +kernel
theorem dX9_order_1 : decode cX9_order 1 = .ok (.iload_n 1, 1) := by decide +kernel
theorem dX9_order_2 : decode cX9_order 2 = .ok (.iload_n 2, 1) := by decide +kernel
theorem dX9_order_3 : decode cX9_order 3 = .ok (.invokestatic 336, 3) := by decide +kernel
theorem dX9_order_6 : decode cX9_order 6 = .ok (.ifCond .eq 7, 3) := by decide +kernel
theorem dX9_order_9 : decode cX9_order 9 = .ok (.iconst 0, 1) := by decide +kernel
theorem dX9_order_10 : decode cX9_order 10 = .ok (.goto 4, 3) := by decide +kernel
theorem dX9_order_13 : decode cX9_order 13 = .ok (.iconst 1, 1) := by decide +kernel
theorem dX9_order_14 : decode cX9_order 14 = .ok (.putfield 54, 3) := by decide +kernel
theorem dX9_order_17 : decode cX9_order 17 = .ok (.aload_n 0, 1) := by decide +kernel
theorem dX9_order_18 : decode cX9_order 18 = .ok (.getfield 54, 3) := by decide +kernel
theorem dX9_order_21 : decode cX9_order 21 = .ok (.ifCond .le 7, 3) := by decide +kernel
theorem dX9_order_24 : decode cX9_order 24 = .ok (.iconst 0, 1) := by decide +kernel
theorem dX9_order_25 : decode cX9_order 25 = .ok (.goto 9, 3) := by decide +kernel
theorem dX9_order_28 : decode cX9_order 28 = .ok (.aload_n 0, 1) := by decide +kernel
theorem dX9_order_29 : decode cX9_order 29 = .ok (.iload_n 1, 1) := by decide +kernel
theorem dX9_order_30 : decode cX9_order 30 = .ok (.iload_n 2, 1) := by decide +kernel
theorem dX9_order_31 : decode cX9_order 31 = .ok (.invokevirtual 193, 3) := by decide +kernel
theorem dX9_order_34 : decode cX9_order 34 = .ok (.ireturn, 1) := by decide +kernel
set_option maxRecDepth 20000 in
set_option maxHeartbeats 4000000 in
theorem wk_X9_order_14 {p : Program} {l : Launch} {e : Env} {s : State} {m : MethodId} {args : Array Value} {below : List Frame} {meth : Method} {c : Code} {G : Gp} {σ : St} {x1 : Int32} {x2 : Int32} {t1 : Int32}  {Q : Int32 → St → Prop} (F : FX p s m args meth c cX9_order 3 (some .int) RX9 G)   (h : wp_X9_order_14 σ x1 x2 t1 Q) : J p l e (rmF 4 97) s m args below meth c 3 G (MQ below (QQ G (qI Q)) args s 0 0 (fr G)) 0 0 14 [(0, .ref (gb G + 244)), (1, .int x1), (2, .int x2)] [.int t1, .ref (gb G + 244)] σ := by
  unfold wp_X9_order_14 at h
  refine J_pfi F (ci := 9) 0 rfl inX9 tyX9 tyX9_ok nmX9 ly_244 (by decide) (by decide) rfl lf_X9_54 rfl rfl (tyX9_ok 0 (by decide)) rfl rfl dX9_order_14 ?_
  refine J_st (fun σ_1 eσ_1 => ?_)
  have h := h σ_1 eσ_1
  refine J_aln F 0 dX9_order_17 rfl rfl ?_
  refine J_gfi F (ci := 9) 0 rfl inX9 ly_244 (by decide) (by decide) rfl lf_X9_54 rfl dX9_order_18 ?_
  refine J_zle F (tgt := 28) dX9_order_21 (by decide) (fun c_2 => ?_) (fun c_2 => ?_)
  · have h := h.1 c_2
    refine J_aln F 0 dX9_order_28 rfl rfl ?_
    refine J_iln F 1 dX9_order_29 rfl rfl ?_
    refine J_iln F 2 dX9_order_30 rfl rfl ?_
    refine J_callVi F (As := [.int x1, .int x2]) (st := []) (C_X9_orderOf l G x1 x2  h) (ci := 9) ly_244 (by decide) rfl rfl lm_X9_193 li_X9_orderOf ls_X9_orderOf ini_X9 lc_X9_orderOf hd_X9_orderOf (by decide) (Nat.le_of_ble_eq_true rfl) (by decide) rfl dX9_order_31 (fun r_3 σ_4 hh => ?_)
    clear h
    obtain ⟨e9, h⟩ := hh
    subst σ_4
    exact J_reti F ⟨_, rfl, h⟩ dX9_order_34
  · have h := h.2 c_2
    refine J_ic F dX9_order_24 ki_0 ?_
    refine J_goto F (tgt := 34) dX9_order_25 (by decide) ?_
    exact J_reti F ⟨_, rfl, h⟩ dX9_order_34
set_option maxRecDepth 20000 in
set_option maxHeartbeats 4000000 in
theorem C_X9_order (l : Launch) (G : Gp) (x1 : Int32) (x2 : Int32)  {σ : St} {Q : Int32 → St → Prop} (h : wp_X9_order σ x1 x2 Q) : Cn l yX9_order cX9_order 3 (some .int) 4 97 G [.ref (gb G + 244), .int x1, .int x2] σ (qI Q) := by
  refine Cn_of (L := [(0, .ref (gb G + 244)), (1, .int x1), (2, .int x2)]) RX9 (by decide) rfl (Nat.le_of_ble_eq_true rfl) rfl ?_
  intro p e s m below meth c F
  unfold wp_X9_order at h
  refine J_aln F 0 dX9_order_0 rfl rfl ?_
  refine J_iln F 1 dX9_order_1 rfl rfl ?_
  refine J_iln F 2 dX9_order_2 rfl rfl ?_
  refine J_callSi F (As := [.int x1, .int x2]) (st := [.ref (gb G + 244)]) (C_X9_isPlace l G x1 x2  h) lm_X9_336 li_X9_isPlace ini_X9 lc_X9_isPlace hd_X9_isPlace (by decide) (Nat.le_of_ble_eq_true rfl) (by decide) rfl dX9_order_3 (fun r_5 σ_6 hh => ?_)
  clear h
  obtain ⟨e9, h⟩ := hh
  subst σ_6
  refine J_zeq F (tgt := 13) dX9_order_6 (by decide) (fun c_7 => ?_) (fun c_7 => ?_)
  · have h := h.1 c_7
    refine J_ic F dX9_order_13 ki_1 ?_
    exact wk_X9_order_14 F  h
  · have h := h.2 c_7
    refine J_ic F dX9_order_9 ki_0 ?_
    refine J_goto F (tgt := 14) dX9_order_10 (by decide) ?_
    exact wk_X9_order_14 F  h
theorem dX9_even_0 : decode cX9_even 0 = .ok (.ldc_w 385, 3) := by decide +kernel
theorem dX9_even_3 : decode cX9_even 3 = .ok (.istore_n 1, 1) := by decide +kernel
theorem dX9_even_4 : decode cX9_even 4 = .ok (.iconst (-1), 1) := by decide +kernel
theorem dX9_even_5 : decode cX9_even 5 = .ok (.istore_n 2, 1) := by decide +kernel
theorem dX9_even_6 : decode cX9_even 6 = .ok (.iconst 0, 1) := by decide +kernel
theorem dX9_even_7 : decode cX9_even 7 = .ok (.istore_n 3, 1) := by decide +kernel
theorem dX9_even_8 : decode cX9_even 8 = .ok (.iload_n 3, 1) := by decide +kernel
theorem dX9_even_9 : decode cX9_even 9 = .ok (.bipush 10, 2) := by decide +kernel
theorem dX9_even_11 : decode cX9_even 11 = .ok (.if_icmp .ge 44, 3) := by decide +kernel
theorem dX9_even_14 : decode cX9_even 14 = .ok (.aload_n 0, 1) := by decide +kernel
theorem dX9_even_15 : decode cX9_even 15 = .ok (.iload_n 3, 1) := by decide +kernel
theorem dX9_even_16 : decode cX9_even 16 = .ok (.iconst 1, 1) := by decide +kernel
theorem dX9_even_17 : decode cX9_even 17 = .ok (.invokevirtual 57, 3) := by decide +kernel
theorem dX9_even_20 : decode cX9_even 20 = .ok (.ifCond .ne 6, 3) := by decide +kernel
theorem dX9_even_23 : decode cX9_even 23 = .ok (.goto 26, 3) := by decide +kernel
theorem dX9_even_26 : decode cX9_even 26 = .ok (.aload_n 0, 1) := by decide +kernel
theorem dX9_even_27 : decode cX9_even 27 = .ok (.iload_n 3, 1) := by decide +kernel
theorem dX9_even_28 : decode cX9_even 28 = .ok (.invokevirtual 129, 3) := by decide +kernel
theorem dX9_even_31 : decode cX9_even 31 = .ok (.istore 4, 2) := by decide +kernel
theorem dX9_even_33 : decode cX9_even 33 = .ok (.iload_n 1, 1) := by decide +kernel
theorem dX9_even_34 : decode cX9_even 34 = .ok (.iload 4, 2) := by decide +kernel
theorem dX9_even_36 : decode cX9_even 36 = .ok (.invokestatic 382, 3) := by decide +kernel
theorem dX9_even_39 : decode cX9_even 39 = .ok (.istore_n 1, 1) := by decide +kernel
theorem dX9_even_40 : decode cX9_even 40 = .ok (.iload 4, 2) := by decide +kernel
theorem dX9_even_42 : decode cX9_even 42 = .ok (.iload_n 2, 1) := by decide +kernel
theorem dX9_even_43 : decode cX9_even 43 = .ok (.if_icmp .le 6, 3) := by decide +kernel
theorem dX9_even_46 : decode cX9_even 46 = .ok (.iload 4, 2) := by decide +kernel
theorem dX9_even_48 : decode cX9_even 48 = .ok (.istore_n 2, 1) := by decide +kernel
theorem dX9_even_49 : decode cX9_even 49 = .ok (.iinc 3 1, 3) := by decide +kernel
theorem dX9_even_52 : decode cX9_even 52 = .ok (.goto (-44), 3) := by decide +kernel
theorem dX9_even_55 : decode cX9_even 55 = .ok (.iload_n 2, 1) := by decide +kernel
theorem dX9_even_56 : decode cX9_even 56 = .ok (.iconst (-1), 1) := by decide +kernel
theorem dX9_even_57 : decode cX9_even 57 = .ok (.if_icmp .ne 7, 3) := by decide +kernel
theorem dX9_even_60 : decode cX9_even 60 = .ok (.iconst (-1), 1) := by decide +kernel
theorem dX9_even_61 : decode cX9_even 61 = .ok (.goto 6, 3) := by decide +kernel
theorem dX9_even_64 : decode cX9_even 64 = .ok (.iload_n 2, 1) := by decide +kernel
theorem dX9_even_65 : decode cX9_even 65 = .ok (.iload_n 1, 1) := by decide +kernel
theorem dX9_even_66 : decode cX9_even 66 = .ok (.isub, 1) := by decide +kernel
theorem dX9_even_67 : decode cX9_even 67 = .ok (.ireturn, 1) := by decide +kernel
set_option maxRecDepth 20000 in
set_option maxHeartbeats 4000000 in
theorem wk_X9_even_55 {p : Program} {l : Launch} {e : Env} {s : State} {m : MethodId} {args : Array Value} {below : List Frame} {meth : Method} {c : Code} {G : Gp} {σ : St} {x1 : Int32} {x2 : Int32}  {Q : Int32 → Prop} (F : FX p s m args meth c cX9_even 5 (some .int) RX9 G)   (h : wp_X9_even_55 σ x1 x2 Q) : J p l e (rmF 1 23) s m args below meth c 5 G (MQ below (QQ G (qI (fun r σ' => σ' = σ ∧ Q r))) args s 0 0 (fr G)) 0 0 55 [(1, .int x1), (2, .int x2)] [] σ := by
  unfold wp_X9_even_55 at h
  refine J_iln F 1 dX9_even_55 rfl rfl ?_
  refine J_ic F dX9_even_56 ki_m1 ?_
  refine J_cne F (tgt := 64) dX9_even_57 (by decide) (fun c_1 => ?_) (fun c_1 => ?_)
  · have h := h.1 c_1
    refine J_iln F 1 dX9_even_64 rfl rfl ?_
    refine J_iln F 0 dX9_even_65 rfl rfl ?_
    refine J_isub F dX9_even_66 ?_
    exact J_reti F ⟨_, rfl, rfl, h⟩ dX9_even_67
  · have h := h.2 c_1
    refine J_ic F dX9_even_60 ki_m1 ?_
    refine J_goto F (tgt := 67) dX9_even_61 (by decide) ?_
    exact J_reti F ⟨_, rfl, rfl, h⟩ dX9_even_67
set_option maxRecDepth 20000 in
set_option maxHeartbeats 4000000 in
theorem wk_X9_even_8 {p : Program} {l : Launch} {e : Env} {s : State} {m : MethodId} {args : Array Value} {below : List Frame} {meth : Method} {c : Code} {G : Gp} {σ : St}   {Q : Int32 → Prop} (F : FX p s m args meth c cX9_even 5 (some .int) RX9 G)   : ∀ (n9 : Nat) (x1 : Int32) (x2 : Int32) (x3 : Int32), LP3 (wp_X9_even_8 σ Q) n9 x1 x2 x3 → J p l e (rmF 1 23) s m args below meth c 5 G (MQ below (QQ G (qI (fun r σ' => σ' = σ ∧ Q r))) args s 0 0 (fr G)) 0 0 8 [(0, .ref (gb G + 244)), (1, .int x1), (2, .int x2), (3, .int x3)] [] σ := by
  intro n9
  induction n9 with
  | zero => intro x1 x2 x3 h; exact h.elim
  | succ n9 i8 =>
    intro x1 x2 x3 h
    have h : wp_X9_even_8 σ Q (LP3 (wp_X9_even_8 σ Q) n9) x1 x2 x3 := h
    unfold wp_X9_even_8 at h
    refine J_iln F 3 dX9_even_8 rfl rfl ?_
    refine J_bi F dX9_even_9 kb_10 ?_
    refine J_cge F (tgt := 55) dX9_even_11 (by decide) (fun c_2 => ?_) (fun c_2 => ?_)
    · have h := h.1 c_2
      refine J_sub [1, 2] rfl ?_
      exact wk_X9_even_55 F  h
    · have h := h.2 c_2
      refine J_aln F 0 dX9_even_14 rfl rfl ?_
      refine J_iln F 3 dX9_even_15 rfl rfl ?_
      refine J_ic F dX9_even_16 ki_1 ?_
      refine J_callVi F (As := [.int x3, .int (nI 1)]) (st := []) (C_X9_isState l G x3 (nI 1)  h) (ci := 9) ly_244 (by decide) rfl rfl lm_X9_57 li_X9_isState ls_X9_isState ini_X9 lc_X9_isState hd_X9_isState (by decide) (Nat.le_of_ble_eq_true rfl) (by decide) rfl dX9_even_17 (fun r_3 σ_4 hh => ?_)
      clear h
      obtain ⟨e9, h⟩ := hh
      subst σ_4
      refine J_zne F (tgt := 26) dX9_even_20 (by decide) (fun c_5 => ?_) (fun c_5 => ?_)
      · have h := h.1 c_5
        refine J_aln F 0 dX9_even_26 rfl rfl ?_
        refine J_iln F 3 dX9_even_27 rfl rfl ?_
        refine J_callVi F (As := [.int x3]) (st := []) (C_X9_volumeOf l G x3  h) (ci := 9) ly_244 (by decide) rfl rfl lm_X9_129 li_X9_volumeOf ls_X9_volumeOf ini_X9 lc_X9_volumeOf hd_X9_volumeOf (by decide) (Nat.le_of_ble_eq_true rfl) (by decide) rfl dX9_even_28 (fun r_6 σ_7 hh => ?_)
        clear h
        obtain ⟨e9, h⟩ := hh
        subst σ_7
        refine J_is F (L' := [(4, .int r_6), (0, .ref (gb G + 244)), (1, .int x1), (2, .int x2), (3, .int x3)]) dX9_even_31 (by decide) rfl ?_
        refine J_iln F 2 dX9_even_33 rfl rfl ?_
        refine J_il F 0 dX9_even_34 rfl ?_
        refine J_callSi F (As := [.int x1, .int r_6]) (st := []) (C_X9_lesser l G x1 r_6  h) lm_X9_382 li_X9_lesser ini_X9 lc_X9_lesser hd_X9_lesser (by decide) (Nat.le_of_ble_eq_true rfl) (by decide) rfl dX9_even_36 (fun r_8 σ_9 hh => ?_)
        clear h
        obtain ⟨e9, h⟩ := hh
        subst σ_9
        refine J_isn F (L' := [(1, .int r_8), (4, .int r_6), (0, .ref (gb G + 244)), (2, .int x2), (3, .int x3)]) dX9_even_39 rfl (by decide) rfl ?_
        refine J_il F 1 dX9_even_40 rfl ?_
        refine J_iln F 3 dX9_even_42 rfl rfl ?_
        refine J_cle F (tgt := 49) dX9_even_43 (by decide) (fun c_10 => ?_) (fun c_10 => ?_)
        · have h := h.1 c_10
          obtain ⟨x3_11, ex3_11⟩ : ∃ z : Int32, z = x3 + (nI 1) := ⟨_, rfl⟩
          have h := h x3_11 ex3_11
          refine J_iinc F (v := x3_11) (L' := [(3, .int x3_11), (1, .int r_8), (4, .int r_6), (0, .ref (gb G + 244)), (2, .int x2)]) 4 dX9_even_49 rfl (by rw [ki_1, ex3_11]) (by decide) rfl ?_
          refine J_goto F (tgt := 8) dX9_even_52 (by decide) ?_
          refine J_sub [3, 1, 4, 0] rfl ?_
          exact i8 _ _ _ h
        · have h := h.2 c_10
          refine J_il F 1 dX9_even_46 rfl ?_
          refine J_isn F (L' := [(2, .int r_6), (1, .int r_8), (4, .int r_6), (0, .ref (gb G + 244)), (3, .int x3)]) dX9_even_48 rfl (by decide) rfl ?_
          obtain ⟨x3_12, ex3_12⟩ : ∃ z : Int32, z = x3 + (nI 1) := ⟨_, rfl⟩
          have h := h x3_12 ex3_12
          refine J_iinc F (v := x3_12) (L' := [(3, .int x3_12), (2, .int r_6), (1, .int r_8), (4, .int r_6), (0, .ref (gb G + 244))]) 4 dX9_even_49 rfl (by rw [ki_1, ex3_12]) (by decide) rfl ?_
          refine J_goto F (tgt := 8) dX9_even_52 (by decide) ?_
          refine J_sub [4, 2, 1, 0] rfl ?_
          exact i8 _ _ _ h
      · have h := h.2 c_5
        refine J_goto F (tgt := 49) dX9_even_23 (by decide) ?_
        obtain ⟨x3_13, ex3_13⟩ : ∃ z : Int32, z = x3 + (nI 1) := ⟨_, rfl⟩
        have h := h x3_13 ex3_13
        refine J_iinc F (v := x3_13) (L' := [(3, .int x3_13), (0, .ref (gb G + 244)), (1, .int x1), (2, .int x2)]) 3 dX9_even_49 rfl (by rw [ki_1, ex3_13]) (by decide) rfl ?_
        refine J_goto F (tgt := 8) dX9_even_52 (by decide) ?_
        refine J_sub [1, 2, 3, 0] rfl ?_
        exact i8 _ _ _ h
set_option maxRecDepth 20000 in
set_option maxHeartbeats 4000000 in
theorem C_X9_even (l : Launch) (G : Gp)   {σ : St} {Q : Int32 → Prop} (h : wp_X9_even σ  Q) : Cn l yX9_even cX9_even 5 (some .int) 1 23 G [.ref (gb G + 244)] σ (qI (fun r σ' => σ' = σ ∧ Q r)) := by
  refine Cn_of (L := [(0, .ref (gb G + 244))]) RX9 (by decide) rfl (Nat.le_of_ble_eq_true rfl) rfl ?_
  intro p e s m below meth c F
  unfold wp_X9_even at h
  refine J_ldcw F dX9_even_0 lk_X9_385 ?_
  refine J_isn F (L' := [(1, .int (nI 1000000)), (0, .ref (gb G + 244))]) dX9_even_3 rfl (by decide) rfl ?_
  refine J_ic F dX9_even_4 ki_m1 ?_
  refine J_isn F (L' := [(2, .int (-1)), (1, .int (nI 1000000)), (0, .ref (gb G + 244))]) dX9_even_5 rfl (by decide) rfl ?_
  refine J_ic F dX9_even_6 ki_0 ?_
  refine J_isn F (L' := [(3, .int (nI 0)), (2, .int (-1)), (1, .int (nI 1000000)), (0, .ref (gb G + 244))]) dX9_even_7 rfl (by decide) rfl ?_
  refine J_sub [3, 2, 1, 0] rfl ?_
  obtain ⟨n9, h⟩ := h
  exact wk_X9_even_8 F  n9 _ _ _ h
theorem dX9_goesTo_0 : decode cX9_goesTo 0 = .ok (.iconst 0, 1) := by decide +kernel
theorem dX9_goesTo_1 : decode cX9_goesTo 1 = .ok (.istore_n 3, 1) := by decide +kernel
theorem dX9_goesTo_2 : decode cX9_goesTo 2 = .ok (.aload_n 0, 1) := by decide +kernel
theorem dX9_goesTo_3 : decode cX9_goesTo 3 = .ok (.getfield 33, 3) := by decide +kernel
theorem dX9_goesTo_6 : decode cX9_goesTo 6 = .ok (.iload_n 3, 1) := by decide +kernel
theorem dX9_goesTo_7 : decode cX9_goesTo 7 = .ok (.iaload, 1) := by decide +kernel
theorem dX9_goesTo_8 : decode cX9_goesTo 8 = .ok (.iload_n 2, 1) := by decide +kernel
theorem dX9_goesTo_9 : decode cX9_goesTo 9 = .ok (.if_icmp .eq 9, 3) := by decide +kernel
theorem dX9_goesTo_12 : decode cX9_goesTo 12 = .ok (.iinc 3 1, 3) := by decide +kernel
theorem dX9_goesTo_15 : decode cX9_goesTo 15 = .ok (.goto (-13), 3) := by decide +kernel
theorem dX9_goesTo_18 : decode cX9_goesTo 18 = .ok (.aload_n 0, 1) := by decide +kernel
theorem dX9_goesTo_19 : decode cX9_goesTo 19 = .ok (.iload_n 1, 1) := by decide +kernel
theorem dX9_goesTo_20 : decode cX9_goesTo 20 = .ok (.aload_n 0, 1) := by decide +kernel
theorem dX9_goesTo_21 : decode cX9_goesTo 21 = .ok (.getfield 36, 3) := by decide +kernel
theorem dX9_goesTo_24 : decode cX9_goesTo 24 = .ok (.iload_n 3, 1) := by decide +kernel
theorem dX9_goesTo_25 : decode cX9_goesTo 25 = .ok (.iaload, 1) := by decide +kernel
theorem dX9_goesTo_26 : decode cX9_goesTo 26 = .ok (.aload_n 0, 1) := by decide +kernel
theorem dX9_goesTo_27 : decode cX9_goesTo 27 = .ok (.getfield 39, 3) := by decide +kernel
theorem dX9_goesTo_30 : decode cX9_goesTo 30 = .ok (.iload_n 3, 1) := by decide +kernel
theorem dX9_goesTo_31 : decode cX9_goesTo 31 = .ok (.iaload, 1) := by decide +kernel
theorem dX9_goesTo_32 : decode cX9_goesTo 32 = .ok (.invokevirtual 402, 3) := by decide +kernel
theorem dX9_goesTo_35 : decode cX9_goesTo 35 = .ok (.return_, 1) := by decide +kernel
set_option maxRecDepth 20000 in
set_option maxHeartbeats 4000000 in
theorem wk_X9_goesTo_18 {p : Program} {l : Launch} {e : Env} {s : State} {m : MethodId} {args : Array Value} {below : List Frame} {meth : Method} {c : Code} {G : Gp} {σ : St} {x1 : Int32} {x3 : Int32}  {Q : St → Prop} (F : FX p s m args meth c cX9_goesTo 4 none RX9 G)   (h : wp_X9_goesTo_18 σ x1 x3 Q) : J p l e (rmF 6 144) s m args below meth c 4 G (MQ below (QQ G (qV Q)) args s 0 0 (fr G)) 0 0 18 [(0, .ref (gb G + 244)), (1, .int x1), (3, .int x3)] [] σ := by
  unfold wp_X9_goesTo_18 at h
  refine J_aln F 0 dX9_goesTo_18 rfl rfl ?_
  refine J_iln F 1 dX9_goesTo_19 rfl rfl ?_
  refine J_aln F 0 dX9_goesTo_20 rfl rfl ?_
  refine J_gfa F (ci := 9) 19 rfl inX9 ly_244 (by decide) (by decide) rfl lf_X9_36 rfl dX9_goesTo_21 ?_
  refine J_iln F 2 dX9_goesTo_24 rfl rfl ?_
  obtain ⟨h_1, h⟩ := h
  refine J_iald F ly_252 h_1 dX9_goesTo_25 ?_
  refine J_aln F 0 dX9_goesTo_26 rfl rfl ?_
  refine J_gfa F (ci := 9) 20 rfl inX9 ly_244 (by decide) (by decide) rfl lf_X9_39 rfl dX9_goesTo_27 ?_
  refine J_iln F 2 dX9_goesTo_30 rfl rfl ?_
  obtain ⟨h_2, h⟩ := h
  refine J_iald F ly_253 h_2 dX9_goesTo_31 ?_
  refine J_callVv F (As := [.int x1, .int (σ 252 (Int32.toNatClampNeg x3)), .int (σ 253 (Int32.toNatClampNeg x3))]) (st := []) (C_X9_goes l G x1 (σ 252 (Int32.toNatClampNeg x3)) (σ 253 (Int32.toNatClampNeg x3))  h) (ci := 9) ly_244 (by decide) rfl rfl lm_X9_402 li_X9_goes ls_X9_goes ini_X9 lc_X9_goes hd_X9_goes (by decide) (Nat.le_of_ble_eq_true rfl) (by decide) rfl dX9_goesTo_32 (fun σ_3 h => ?_)
  exact J_retv F ⟨rfl, h⟩ dX9_goesTo_35
set_option maxRecDepth 20000 in
set_option maxHeartbeats 4000000 in
theorem wk_X9_goesTo_2 {p : Program} {l : Launch} {e : Env} {s : State} {m : MethodId} {args : Array Value} {below : List Frame} {meth : Method} {c : Code} {G : Gp} {σ : St} {x1 : Int32} {x2 : Int32}  {Q : St → Prop} (F : FX p s m args meth c cX9_goesTo 4 none RX9 G)   : ∀ (n9 : Nat) (x3 : Int32), LP1 (wp_X9_goesTo_2 σ x1 x2 Q) n9 x3 → J p l e (rmF 6 144) s m args below meth c 4 G (MQ below (QQ G (qV Q)) args s 0 0 (fr G)) 0 0 2 [(0, .ref (gb G + 244)), (1, .int x1), (2, .int x2), (3, .int x3)] [] σ := by
  intro n9
  induction n9 with
  | zero => intro x3 h; exact h.elim
  | succ n9 i2 =>
    intro x3 h
    have h : wp_X9_goesTo_2 σ x1 x2 Q (LP1 (wp_X9_goesTo_2 σ x1 x2 Q) n9) x3 := h
    unfold wp_X9_goesTo_2 at h
    refine J_aln F 0 dX9_goesTo_2 rfl rfl ?_
    refine J_gfa F (ci := 9) 18 rfl inX9 ly_244 (by decide) (by decide) rfl lf_X9_33 rfl dX9_goesTo_3 ?_
    refine J_iln F 3 dX9_goesTo_6 rfl rfl ?_
    obtain ⟨h_4, h⟩ := h
    refine J_iald F ly_251 h_4 dX9_goesTo_7 ?_
    refine J_iln F 2 dX9_goesTo_8 rfl rfl ?_
    refine J_ceq F (tgt := 18) dX9_goesTo_9 (by decide) (fun c_5 => ?_) (fun c_5 => ?_)
    · have h := h.1 c_5
      refine J_sub [0, 1, 3] rfl ?_
      exact wk_X9_goesTo_18 F  h
    · have h := h.2 c_5
      obtain ⟨x3_6, ex3_6⟩ : ∃ z : Int32, z = x3 + (nI 1) := ⟨_, rfl⟩
      have h := h x3_6 ex3_6
      refine J_iinc F (v := x3_6) (L' := [(3, .int x3_6), (0, .ref (gb G + 244)), (1, .int x1), (2, .int x2)]) 3 dX9_goesTo_12 rfl (by rw [ki_1, ex3_6]) (by decide) rfl ?_
      refine J_goto F (tgt := 2) dX9_goesTo_15 (by decide) ?_
      refine J_sub [1, 2, 3, 0] rfl ?_
      exact i2 _ h
set_option maxRecDepth 20000 in
set_option maxHeartbeats 4000000 in
theorem C_X9_goesTo (l : Launch) (G : Gp) (x1 : Int32) (x2 : Int32)  {σ : St} {Q : St → Prop} (h : wp_X9_goesTo σ x1 x2 Q) : Cn l yX9_goesTo cX9_goesTo 4 none 6 144 G [.ref (gb G + 244), .int x1, .int x2] σ (qV Q) := by
  refine Cn_of (L := [(0, .ref (gb G + 244)), (1, .int x1), (2, .int x2)]) RX9 (by decide) rfl (Nat.le_of_ble_eq_true rfl) rfl ?_
  intro p e s m below meth c F
  unfold wp_X9_goesTo at h
  refine J_ic F dX9_goesTo_0 ki_0 ?_
  refine J_isn F (L' := [(3, .int (nI 0)), (0, .ref (gb G + 244)), (1, .int x1), (2, .int x2)]) dX9_goesTo_1 rfl (by decide) rfl ?_
  refine J_sub [1, 2, 3, 0] rfl ?_
  obtain ⟨n9, h⟩ := h
  exact wk_X9_goesTo_2 F  n9 _ h
theorem dX9_arePair_0 : decode cX9_arePair 0 = .ok (.iload_n 1, 1) := by decide +kernel
theorem dX9_arePair_1 : decode cX9_arePair 1 = .ok (.iload_n 2, 1) := by decide +kernel
theorem dX9_arePair_2 : decode cX9_arePair 2 = .ok (.if_icmp .eq 25, 3) := by decide +kernel
theorem dX9_arePair_5 : decode cX9_arePair 5 = .ok (.aload_n 0, 1) := by decide +kernel
theorem dX9_arePair_6 : decode cX9_arePair 6 = .ok (.iload_n 1, 1) := by decide +kernel
theorem dX9_arePair_7 : decode cX9_arePair 7 = .ok (.iconst 1, 1) := by decide +kernel
theorem dX9_arePair_8 : decode cX9_arePair 8 = .ok (.invokevirtual 57, 3) := by decide +kernel
theorem dX9_arePair_11 : decode cX9_arePair 11 = .ok (.ifCond .eq 16, 3) := by decide +kernel
theorem dX9_arePair_14 : decode cX9_arePair 14 = .ok (.aload_n 0, 1) := by decide +kernel
theorem dX9_arePair_15 : decode cX9_arePair 15 = .ok (.iload_n 2, 1) := by decide +kernel
theorem dX9_arePair_16 : decode cX9_arePair 16 = .ok (.iconst 1, 1) := by decide +kernel
theorem dX9_arePair_17 : decode cX9_arePair 17 = .ok (.invokevirtual 57, 3) := by decide +kernel
theorem dX9_arePair_20 : decode cX9_arePair 20 = .ok (.ifCond .eq 7, 3) := by decide +kernel
theorem dX9_arePair_23 : decode cX9_arePair 23 = .ok (.iconst 1, 1) := by decide +kernel
theorem dX9_arePair_24 : decode cX9_arePair 24 = .ok (.goto 4, 3) := by decide +kernel
theorem dX9_arePair_27 : decode cX9_arePair 27 = .ok (.iconst 0, 1) := by decide +kernel
theorem dX9_arePair_28 : decode cX9_arePair 28 = .ok (.ireturn, 1) := by decide +kernel
set_option maxRecDepth 20000 in
set_option maxHeartbeats 4000000 in
theorem C_X9_arePair (l : Launch) (G : Gp) (x1 : Int32) (x2 : Int32)  {σ : St} {Q : Int32 → Prop} (h : wp_X9_arePair σ x1 x2 Q) : Cn l yX9_arePair cX9_arePair 3 (some .boolean) 1 22 G [.ref (gb G + 244), .int x1, .int x2] σ (qI (fun r σ' => σ' = σ ∧ Q r)) := by
  refine Cn_of (L := [(0, .ref (gb G + 244)), (1, .int x1), (2, .int x2)]) RX9 (by decide) rfl (Nat.le_of_ble_eq_true rfl) rfl ?_
  intro p e s m below meth c F
  unfold wp_X9_arePair at h
  refine J_iln F 1 dX9_arePair_0 rfl rfl ?_
  refine J_iln F 2 dX9_arePair_1 rfl rfl ?_
  refine J_ceq F (tgt := 27) dX9_arePair_2 (by decide) (fun c_1 => ?_) (fun c_1 => ?_)
  · have h := h.1 c_1
    refine J_ic F dX9_arePair_27 ki_0 ?_
    exact J_retz F (Or.inl rfl) ⟨_, rfl, rfl, h⟩ dX9_arePair_28
  · have h := h.2 c_1
    refine J_aln F 0 dX9_arePair_5 rfl rfl ?_
    refine J_iln F 1 dX9_arePair_6 rfl rfl ?_
    refine J_ic F dX9_arePair_7 ki_1 ?_
    refine J_callVi F (As := [.int x1, .int (nI 1)]) (st := []) (C_X9_isState l G x1 (nI 1)  h) (ci := 9) ly_244 (by decide) rfl rfl lm_X9_57 li_X9_isState ls_X9_isState ini_X9 lc_X9_isState hd_X9_isState (by decide) (Nat.le_of_ble_eq_true rfl) (by decide) rfl dX9_arePair_8 (fun r_2 σ_3 hh => ?_)
    clear h
    obtain ⟨e9, h⟩ := hh
    subst σ_3
    refine J_zeq F (tgt := 27) dX9_arePair_11 (by decide) (fun c_4 => ?_) (fun c_4 => ?_)
    · have h := h.1 c_4
      refine J_ic F dX9_arePair_27 ki_0 ?_
      exact J_retz F (Or.inl rfl) ⟨_, rfl, rfl, h⟩ dX9_arePair_28
    · have h := h.2 c_4
      refine J_aln F 0 dX9_arePair_14 rfl rfl ?_
      refine J_iln F 2 dX9_arePair_15 rfl rfl ?_
      refine J_ic F dX9_arePair_16 ki_1 ?_
      refine J_callVi F (As := [.int x2, .int (nI 1)]) (st := []) (C_X9_isState l G x2 (nI 1)  h) (ci := 9) ly_244 (by decide) rfl rfl lm_X9_57 li_X9_isState ls_X9_isState ini_X9 lc_X9_isState hd_X9_isState (by decide) (Nat.le_of_ble_eq_true rfl) (by decide) rfl dX9_arePair_17 (fun r_5 σ_6 hh => ?_)
      clear h
      obtain ⟨e9, h⟩ := hh
      subst σ_6
      refine J_zeq F (tgt := 27) dX9_arePair_20 (by decide) (fun c_7 => ?_) (fun c_7 => ?_)
      · have h := h.1 c_7
        refine J_ic F dX9_arePair_27 ki_0 ?_
        exact J_retz F (Or.inl rfl) ⟨_, rfl, rfl, h⟩ dX9_arePair_28
      · have h := h.2 c_7
        refine J_ic F dX9_arePair_23 ki_1 ?_
        refine J_goto F (tgt := 28) dX9_arePair_24 (by decide) ?_
        exact J_retz F (Or.inr rfl) ⟨_, rfl, rfl, h⟩ dX9_arePair_28
theorem dX9_allWays_0 : decode cX9_allWays 0 = .ok (.aload_n 0, 1) := by decide +kernel
theorem dX9_allWays_1 : decode cX9_allWays 1 = .ok (.iconst (-1), 1) := by decide +kernel
theorem dX9_allWays_2 : decode cX9_allWays 2 = .ok (.putfield 433, 3) := by decide +kernel
theorem dX9_allWays_5 : decode cX9_allWays 5 = .ok (.aload_n 0, 1) := by decide +kernel
theorem dX9_allWays_6 : decode cX9_allWays 6 = .ok (.iconst 0, 1) := by decide +kernel
theorem dX9_allWays_7 : decode cX9_allWays 7 = .ok (.putfield 436, 3) := by decide +kernel
theorem dX9_allWays_10 : decode cX9_allWays 10 = .ok (.aload_n 0, 1) := by decide +kernel
theorem dX9_allWays_11 : decode cX9_allWays 11 = .ok (.iconst 0, 1) := by decide +kernel
theorem dX9_allWays_12 : decode cX9_allWays 12 = .ok (.putfield 439, 3) := by decide +kernel
theorem dX9_allWays_15 : decode cX9_allWays 15 = .ok (.iconst 0, 1) := by decide +kernel
theorem dX9_allWays_16 : decode cX9_allWays 16 = .ok (.istore_n 1, 1) := by decide +kernel
theorem dX9_allWays_17 : decode cX9_allWays 17 = .ok (.iload_n 1, 1) := by decide +kernel
theorem dX9_allWays_18 : decode cX9_allWays 18 = .ok (.bipush 10, 2) := by decide +kernel
theorem dX9_allWays_20 : decode cX9_allWays 20 = .ok (.if_icmp .ge 99, 3) := by decide +kernel
theorem dX9_allWays_23 : decode cX9_allWays 23 = .ok (.iconst 0, 1) := by decide +kernel
theorem dX9_allWays_24 : decode cX9_allWays 24 = .ok (.istore_n 2, 1) := by decide +kernel
theorem dX9_allWays_25 : decode cX9_allWays 25 = .ok (.iload_n 2, 1) := by decide +kernel
theorem dX9_allWays_26 : decode cX9_allWays 26 = .ok (.bipush 10, 2) := by decide +kernel
theorem dX9_allWays_28 : decode cX9_allWays 28 = .ok (.if_icmp .ge 85, 3) := by decide +kernel
theorem dX9_allWays_31 : decode cX9_allWays 31 = .ok (.aload_n 0, 1) := by decide +kernel
theorem dX9_allWays_32 : decode cX9_allWays 32 = .ok (.iload_n 1, 1) := by decide +kernel
theorem dX9_allWays_33 : decode cX9_allWays 33 = .ok (.iload_n 2, 1) := by decide +kernel
theorem dX9_allWays_34 : decode cX9_allWays 34 = .ok (.invokevirtual 442, 3) := by decide +kernel
theorem dX9_allWays_37 : decode cX9_allWays 37 = .ok (.ifCond .ne 6, 3) := by decide +kernel
theorem dX9_allWays_40 : decode cX9_allWays 40 = .ok (.goto 67, 3) := by decide +kernel
theorem dX9_allWays_43 : decode cX9_allWays 43 = .ok (.aload_n 0, 1) := by decide +kernel
theorem dX9_allWays_44 : decode cX9_allWays 44 = .ok (.iload_n 1, 1) := by decide +kernel
theorem dX9_allWays_45 : decode cX9_allWays 45 = .ok (.iload_n 2, 1) := by decide +kernel
theorem dX9_allWays_46 : decode cX9_allWays 46 = .ok (.invokevirtual 445, 3) := by decide +kernel
theorem dX9_allWays_49 : decode cX9_allWays 49 = .ok (.aload_n 0, 1) := by decide +kernel
theorem dX9_allWays_50 : decode cX9_allWays 50 = .ok (.getfield 395, 3) := by decide +kernel
theorem dX9_allWays_53 : decode cX9_allWays 53 = .ok (.ifCond .eq 6, 3) := by decide +kernel
theorem dX9_allWays_56 : decode cX9_allWays 56 = .ok (.goto 51, 3) := by decide +kernel
theorem dX9_allWays_59 : decode cX9_allWays 59 = .ok (.aload_n 0, 1) := by decide +kernel
theorem dX9_allWays_60 : decode cX9_allWays 60 = .ok (.getfield 392, 3) := by decide +kernel
theorem dX9_allWays_63 : decode cX9_allWays 63 = .ok (.iconst 1, 1) := by decide +kernel
theorem dX9_allWays_64 : decode cX9_allWays 64 = .ok (.isub, 1) := by decide +kernel
theorem dX9_allWays_65 : decode cX9_allWays 65 = .ok (.aload_n 0, 1) := by decide +kernel
theorem dX9_allWays_66 : decode cX9_allWays 66 = .ok (.getfield 433, 3) := by decide +kernel
theorem dX9_allWays_69 : decode cX9_allWays 69 = .ok (.if_icmp .le 13, 3) := by decide +kernel
theorem dX9_allWays_72 : decode cX9_allWays 72 = .ok (.aload_n 0, 1) := by decide +kernel
theorem dX9_allWays_73 : decode cX9_allWays 73 = .ok (.aload_n 0, 1) := by decide +kernel
theorem dX9_allWays_74 : decode cX9_allWays 74 = .ok (.getfield 392, 3) := by decide +kernel
theorem dX9_allWays_77 : decode cX9_allWays 77 = .ok (.iconst 1, 1) := by decide +kernel
theorem dX9_allWays_78 : decode cX9_allWays 78 = .ok (.isub, 1) := by decide +kernel
theorem dX9_allWays_79 : decode cX9_allWays 79 = .ok (.putfield 433, 3) := by decide +kernel
theorem dX9_allWays_82 : decode cX9_allWays 82 = .ok (.aload_n 0, 1) := by decide +kernel
theorem dX9_allWays_83 : decode cX9_allWays 83 = .ok (.dup, 1) := by decide +kernel
theorem dX9_allWays_84 : decode cX9_allWays 84 = .ok (.getfield 436, 3) := by decide +kernel
theorem dX9_allWays_87 : decode cX9_allWays 87 = .ok (.aload_n 0, 1) := by decide +kernel
theorem dX9_allWays_88 : decode cX9_allWays 88 = .ok (.getfield 392, 3) := by decide +kernel
theorem dX9_allWays_91 : decode cX9_allWays 91 = .ok (.iconst 1, 1) := by decide +kernel
theorem dX9_allWays_92 : decode cX9_allWays 92 = .ok (.isub, 1) := by decide +kernel
theorem dX9_allWays_93 : decode cX9_allWays 93 = .ok (.iadd, 1) := by decide +kernel
theorem dX9_allWays_94 : decode cX9_allWays 94 = .ok (.putfield 436, 3) := by decide +kernel
theorem dX9_allWays_97 : decode cX9_allWays 97 = .ok (.aload_n 0, 1) := by decide +kernel
theorem dX9_allWays_98 : decode cX9_allWays 98 = .ok (.dup, 1) := by decide +kernel
theorem dX9_allWays_99 : decode cX9_allWays 99 = .ok (.getfield 439, 3) := by decide +kernel
theorem dX9_allWays_102 : decode cX9_allWays 102 = .ok (.iconst 1, 1) := by decide +kernel
theorem dX9_allWays_103 : decode cX9_allWays 103 = .ok (.iadd, 1) := by decide +kernel
theorem dX9_allWays_104 : decode cX9_allWays 104 = .ok (.putfield 439, 3) := by decide +kernel
theorem dX9_allWays_107 : decode cX9_allWays 107 = .ok (.iinc 2 1, 3) := by decide +kernel
theorem dX9_allWays_110 : decode cX9_allWays 110 = .ok (.goto (-85), 3) := by decide +kernel
theorem dX9_allWays_113 : decode cX9_allWays 113 = .ok (.iinc 1 1, 3) := by decide +kernel
theorem dX9_allWays_116 : decode cX9_allWays 116 = .ok (.goto (-99), 3) := by decide +kernel
theorem dX9_allWays_119 : decode cX9_allWays 119 = .ok (.return_, 1) := by decide +kernel
set_option maxRecDepth 20000 in
set_option maxHeartbeats 4000000 in
theorem wk_X9_allWays_82 {p : Program} {l : Launch} {e : Env} {s : State} {m : MethodId} {args : Array Value} {below : List Frame} {meth : Method} {c : Code} {G : Gp} {σ : St} {x1 : Int32} {x2 : Int32} {ih17 : St → Int32 → Prop} {ih25 : St → Int32 → Prop} {Q : St → Prop} (F : FX p s m args meth c cX9_allWays 3 none RX9 G)  (i17 : ∀ (σ : St) (x1 : Int32), ih17 σ x1 → J p l e (rmF 7 167) s m args below meth c 3 G (MQ below (QQ G (qV Q)) args s 0 0 (fr G)) 0 0 17 [(0, .ref (gb G + 244)), (1, .int x1)] [] σ) (i25 : ∀ (σ : St) (x2 : Int32), ih25 σ x2 → J p l e (rmF 7 167) s m args below meth c 3 G (MQ below (QQ G (qV Q)) args s 0 0 (fr G)) 0 0 25 [(0, .ref (gb G + 244)), (1, .int x1), (2, .int x2)] [] σ) (h : wp_X9_allWays_82 σ x1 x2 ih17 ih25 Q) : J p l e (rmF 7 167) s m args below meth c 3 G (MQ below (QQ G (qV Q)) args s 0 0 (fr G)) 0 0 82 [(0, .ref (gb G + 244)), (1, .int x1), (2, .int x2)] [] σ := by
  unfold wp_X9_allWays_82 at h
  refine J_aln F 0 dX9_allWays_82 rfl rfl ?_
  refine J_dup F dX9_allWays_83 rfl ?_
  refine J_gfi F (ci := 9) 31 rfl inX9 ly_244 (by decide) (by decide) rfl lf_X9_436 rfl dX9_allWays_84 ?_
  refine J_aln F 0 dX9_allWays_87 rfl rfl ?_
  refine J_gfi F (ci := 9) 26 rfl inX9 ly_244 (by decide) (by decide) rfl lf_X9_392 rfl dX9_allWays_88 ?_
  refine J_ic F dX9_allWays_91 ki_1 ?_
  refine J_isub F dX9_allWays_92 ?_
  refine J_iadd F dX9_allWays_93 ?_
  refine J_pfi F (ci := 9) 31 rfl inX9 tyX9 tyX9_ok nmX9 ly_244 (by decide) (by decide) rfl lf_X9_436 rfl rfl (tyX9_ok 31 (by decide)) rfl rfl dX9_allWays_94 ?_
  refine J_st (fun σ_1 eσ_1 => ?_)
  have h := h σ_1 eσ_1
  refine J_aln F 0 dX9_allWays_97 rfl rfl ?_
  refine J_dup F dX9_allWays_98 rfl ?_
  refine J_gfi F (ci := 9) 32 rfl inX9 ly_244 (by decide) (by decide) rfl lf_X9_439 rfl dX9_allWays_99 ?_
  refine J_ic F dX9_allWays_102 ki_1 ?_
  refine J_iadd F dX9_allWays_103 ?_
  refine J_pfi F (ci := 9) 32 rfl inX9 tyX9 tyX9_ok nmX9 ly_244 (by decide) (by decide) rfl lf_X9_439 rfl rfl (tyX9_ok 32 (by decide)) rfl rfl dX9_allWays_104 ?_
  refine J_st (fun σ_2 eσ_2 => ?_)
  have h := h σ_2 eσ_2
  obtain ⟨x2_3, ex2_3⟩ : ∃ z : Int32, z = x2 + (nI 1) := ⟨_, rfl⟩
  have h := h x2_3 ex2_3
  refine J_iinc F (v := x2_3) (L' := [(2, .int x2_3), (0, .ref (gb G + 244)), (1, .int x1)]) 2 dX9_allWays_107 rfl (by rw [ki_1, ex2_3]) (by decide) rfl ?_
  refine J_goto F (tgt := 25) dX9_allWays_110 (by decide) ?_
  refine J_sub [1, 2, 0] rfl ?_
  exact i25 _ _ h
set_option maxRecDepth 20000 in
set_option maxHeartbeats 4000000 in
theorem wk_X9_allWays_25 {p : Program} {l : Launch} {e : Env} {s : State} {m : MethodId} {args : Array Value} {below : List Frame} {meth : Method} {c : Code} {G : Gp} {x1 : Int32} {ih17 : St → Int32 → Prop} {Q : St → Prop} (F : FX p s m args meth c cX9_allWays 3 none RX9 G)  (i17 : ∀ (σ : St) (x1 : Int32), ih17 σ x1 → J p l e (rmF 7 167) s m args below meth c 3 G (MQ below (QQ G (qV Q)) args s 0 0 (fr G)) 0 0 17 [(0, .ref (gb G + 244)), (1, .int x1)] [] σ) : ∀ (n9 : Nat) (σ : St) (x2 : Int32), LP2 (wp_X9_allWays_25 x1 ih17 Q) n9 σ x2 → J p l e (rmF 7 167) s m args below meth c 3 G (MQ below (QQ G (qV Q)) args s 0 0 (fr G)) 0 0 25 [(0, .ref (gb G + 244)), (1, .int x1), (2, .int x2)] [] σ := by
  intro n9
  induction n9 with
  | zero => intro σ x2 h; exact h.elim
  | succ n9 i25 =>
    intro σ x2 h
    have h : wp_X9_allWays_25 x1 ih17 Q (LP2 (wp_X9_allWays_25 x1 ih17 Q) n9) σ x2 := h
    unfold wp_X9_allWays_25 at h
    refine J_iln F 2 dX9_allWays_25 rfl rfl ?_
    refine J_bi F dX9_allWays_26 kb_10 ?_
    refine J_cge F (tgt := 113) dX9_allWays_28 (by decide) (fun c_4 => ?_) (fun c_4 => ?_)
    · have h := h.1 c_4
      obtain ⟨x1_5, ex1_5⟩ : ∃ z : Int32, z = x1 + (nI 1) := ⟨_, rfl⟩
      have h := h x1_5 ex1_5
      refine J_iinc F (v := x1_5) (L' := [(1, .int x1_5), (0, .ref (gb G + 244)), (2, .int x2)]) 1 dX9_allWays_113 rfl (by rw [ki_1, ex1_5]) (by decide) rfl ?_
      refine J_goto F (tgt := 17) dX9_allWays_116 (by decide) ?_
      refine J_sub [1, 0] rfl ?_
      exact i17 _ _ h
    · have h := h.2 c_4
      refine J_aln F 0 dX9_allWays_31 rfl rfl ?_
      refine J_iln F 1 dX9_allWays_32 rfl rfl ?_
      refine J_iln F 2 dX9_allWays_33 rfl rfl ?_
      refine J_callVi F (As := [.int x1, .int x2]) (st := []) (C_X9_arePair l G x1 x2  h) (ci := 9) ly_244 (by decide) rfl rfl lm_X9_442 li_X9_arePair ls_X9_arePair ini_X9 lc_X9_arePair hd_X9_arePair (by decide) (Nat.le_of_ble_eq_true rfl) (by decide) rfl dX9_allWays_34 (fun r_6 σ_7 hh => ?_)
      clear h
      obtain ⟨e9, h⟩ := hh
      subst σ_7
      refine J_zne F (tgt := 43) dX9_allWays_37 (by decide) (fun c_8 => ?_) (fun c_8 => ?_)
      · have h := h.1 c_8
        refine J_aln F 0 dX9_allWays_43 rfl rfl ?_
        refine J_iln F 1 dX9_allWays_44 rfl rfl ?_
        refine J_iln F 2 dX9_allWays_45 rfl rfl ?_
        refine J_callVv F (As := [.int x1, .int x2]) (st := []) (C_X9_goesTo l G x1 x2  h) (ci := 9) ly_244 (by decide) rfl rfl lm_X9_445 li_X9_goesTo ls_X9_goesTo ini_X9 lc_X9_goesTo hd_X9_goesTo (by decide) (Nat.le_of_ble_eq_true rfl) (by decide) rfl dX9_allWays_46 (fun σ_9 h => ?_)
        refine J_aln F 0 dX9_allWays_49 rfl rfl ?_
        refine J_gfi F (ci := 9) 27 rfl inX9 ly_244 (by decide) (by decide) rfl lf_X9_395 rfl dX9_allWays_50 ?_
        refine J_zeq F (tgt := 59) dX9_allWays_53 (by decide) (fun c_10 => ?_) (fun c_10 => ?_)
        · have h := h.1 c_10
          refine J_aln F 0 dX9_allWays_59 rfl rfl ?_
          refine J_gfi F (ci := 9) 26 rfl inX9 ly_244 (by decide) (by decide) rfl lf_X9_392 rfl dX9_allWays_60 ?_
          refine J_ic F dX9_allWays_63 ki_1 ?_
          refine J_isub F dX9_allWays_64 ?_
          refine J_aln F 0 dX9_allWays_65 rfl rfl ?_
          refine J_gfi F (ci := 9) 30 rfl inX9 ly_244 (by decide) (by decide) rfl lf_X9_433 rfl dX9_allWays_66 ?_
          refine J_cle F (tgt := 82) dX9_allWays_69 (by decide) (fun c_11 => ?_) (fun c_11 => ?_)
          · have h := h.1 c_11
            exact wk_X9_allWays_82 F i17 i25 h
          · have h := h.2 c_11
            refine J_aln F 0 dX9_allWays_72 rfl rfl ?_
            refine J_aln F 0 dX9_allWays_73 rfl rfl ?_
            refine J_gfi F (ci := 9) 26 rfl inX9 ly_244 (by decide) (by decide) rfl lf_X9_392 rfl dX9_allWays_74 ?_
            refine J_ic F dX9_allWays_77 ki_1 ?_
            refine J_isub F dX9_allWays_78 ?_
            refine J_pfi F (ci := 9) 30 rfl inX9 tyX9 tyX9_ok nmX9 ly_244 (by decide) (by decide) rfl lf_X9_433 rfl rfl (tyX9_ok 30 (by decide)) rfl rfl dX9_allWays_79 ?_
            refine J_st (fun σ_12 eσ_12 => ?_)
            have h := h σ_12 eσ_12
            exact wk_X9_allWays_82 F i17 i25 h
        · have h := h.2 c_10
          refine J_goto F (tgt := 107) dX9_allWays_56 (by decide) ?_
          obtain ⟨x2_13, ex2_13⟩ : ∃ z : Int32, z = x2 + (nI 1) := ⟨_, rfl⟩
          have h := h x2_13 ex2_13
          refine J_iinc F (v := x2_13) (L' := [(2, .int x2_13), (0, .ref (gb G + 244)), (1, .int x1)]) 2 dX9_allWays_107 rfl (by rw [ki_1, ex2_13]) (by decide) rfl ?_
          refine J_goto F (tgt := 25) dX9_allWays_110 (by decide) ?_
          refine J_sub [1, 2, 0] rfl ?_
          exact i25 _ _ h
      · have h := h.2 c_8
        refine J_goto F (tgt := 107) dX9_allWays_40 (by decide) ?_
        obtain ⟨x2_14, ex2_14⟩ : ∃ z : Int32, z = x2 + (nI 1) := ⟨_, rfl⟩
        have h := h x2_14 ex2_14
        refine J_iinc F (v := x2_14) (L' := [(2, .int x2_14), (0, .ref (gb G + 244)), (1, .int x1)]) 2 dX9_allWays_107 rfl (by rw [ki_1, ex2_14]) (by decide) rfl ?_
        refine J_goto F (tgt := 25) dX9_allWays_110 (by decide) ?_
        refine J_sub [1, 2, 0] rfl ?_
        exact i25 _ _ h
set_option maxRecDepth 20000 in
set_option maxHeartbeats 4000000 in
theorem wk_X9_allWays_17 {p : Program} {l : Launch} {e : Env} {s : State} {m : MethodId} {args : Array Value} {below : List Frame} {meth : Method} {c : Code} {G : Gp}   {Q : St → Prop} (F : FX p s m args meth c cX9_allWays 3 none RX9 G)   : ∀ (n9 : Nat) (σ : St) (x1 : Int32), LP2 (wp_X9_allWays_17 Q) n9 σ x1 → J p l e (rmF 7 167) s m args below meth c 3 G (MQ below (QQ G (qV Q)) args s 0 0 (fr G)) 0 0 17 [(0, .ref (gb G + 244)), (1, .int x1)] [] σ := by
  intro n9
  induction n9 with
  | zero => intro σ x1 h; exact h.elim
  | succ n9 i17 =>
    intro σ x1 h
    have h : wp_X9_allWays_17 Q (LP2 (wp_X9_allWays_17 Q) n9) σ x1 := h
    unfold wp_X9_allWays_17 at h
    refine J_iln F 1 dX9_allWays_17 rfl rfl ?_
    refine J_bi F dX9_allWays_18 kb_10 ?_
    refine J_cge F (tgt := 119) dX9_allWays_20 (by decide) (fun c_15 => ?_) (fun c_15 => ?_)
    · have h := h.1 c_15
      exact J_retv F ⟨rfl, h⟩ dX9_allWays_119
    · have h := h.2 c_15
      refine J_ic F dX9_allWays_23 ki_0 ?_
      refine J_isn F (L' := [(2, .int (nI 0)), (0, .ref (gb G + 244)), (1, .int x1)]) dX9_allWays_24 rfl (by decide) rfl ?_
      refine J_sub [1, 2, 0] rfl ?_
      obtain ⟨n9, h⟩ := h
      exact wk_X9_allWays_25 F i17 n9 _ _ h
set_option maxRecDepth 20000 in
set_option maxHeartbeats 4000000 in
theorem C_X9_allWays (l : Launch) (G : Gp)   {σ : St} {Q : St → Prop} (h : wp_X9_allWays σ  Q) : Cn l yX9_allWays cX9_allWays 3 none 7 167 G [.ref (gb G + 244)] σ (qV Q) := by
  refine Cn_of (L := [(0, .ref (gb G + 244))]) RX9 (by decide) rfl (Nat.le_of_ble_eq_true rfl) rfl ?_
  intro p e s m below meth c F
  unfold wp_X9_allWays at h
  refine J_aln F 0 dX9_allWays_0 rfl rfl ?_
  refine J_ic F dX9_allWays_1 ki_m1 ?_
  refine J_pfi F (ci := 9) 30 rfl inX9 tyX9 tyX9_ok nmX9 ly_244 (by decide) (by decide) rfl lf_X9_433 rfl rfl (tyX9_ok 30 (by decide)) rfl rfl dX9_allWays_2 ?_
  refine J_st (fun σ_16 eσ_16 => ?_)
  have h := h σ_16 eσ_16
  refine J_aln F 0 dX9_allWays_5 rfl rfl ?_
  refine J_ic F dX9_allWays_6 ki_0 ?_
  refine J_pfi F (ci := 9) 31 rfl inX9 tyX9 tyX9_ok nmX9 ly_244 (by decide) (by decide) rfl lf_X9_436 rfl rfl (tyX9_ok 31 (by decide)) rfl rfl dX9_allWays_7 ?_
  refine J_st (fun σ_17 eσ_17 => ?_)
  have h := h σ_17 eσ_17
  refine J_aln F 0 dX9_allWays_10 rfl rfl ?_
  refine J_ic F dX9_allWays_11 ki_0 ?_
  refine J_pfi F (ci := 9) 32 rfl inX9 tyX9 tyX9_ok nmX9 ly_244 (by decide) (by decide) rfl lf_X9_439 rfl rfl (tyX9_ok 32 (by decide)) rfl rfl dX9_allWays_12 ?_
  refine J_st (fun σ_18 eσ_18 => ?_)
  have h := h σ_18 eσ_18
  refine J_ic F dX9_allWays_15 ki_0 ?_
  refine J_isn F (L' := [(1, .int (nI 0)), (0, .ref (gb G + 244))]) dX9_allWays_16 rfl (by decide) rfl ?_
  refine J_sub [1, 0] rfl ?_
  obtain ⟨n9, h⟩ := h
  exact wk_X9_allWays_17 F  n9 _ _ h
theorem dX9_strays_0 : decode cX9_strays 0 = .ok (.iconst 0, 1) := by decide +kernel
theorem dX9_strays_1 : decode cX9_strays 1 = .ok (.istore_n 1, 1) := by decide +kernel
theorem dX9_strays_2 : decode cX9_strays 2 = .ok (.iconst 0, 1) := by decide +kernel
theorem dX9_strays_3 : decode cX9_strays 3 = .ok (.istore_n 2, 1) := by decide +kernel
theorem dX9_strays_4 : decode cX9_strays 4 = .ok (.iload_n 2, 1) := by decide +kernel
theorem dX9_strays_5 : decode cX9_strays 5 = .ok (.aload_n 0, 1) := by decide +kernel
theorem dX9_strays_6 : decode cX9_strays 6 = .ok (.getfield 113, 3) := by decide +kernel
theorem dX9_strays_9 : decode cX9_strays 9 = .ok (.if_icmp .ge 31, 3) := by decide +kernel
theorem dX9_strays_12 : decode cX9_strays 12 = .ok (.iload_n 1, 1) := by decide +kernel
theorem dX9_strays_13 : decode cX9_strays 13 = .ok (.aload_n 0, 1) := by decide +kernel
theorem dX9_strays_14 : decode cX9_strays 14 = .ok (.aload_n 0, 1) := by decide +kernel
theorem dX9_strays_15 : decode cX9_strays 15 = .ok (.getfield 33, 3) := by decide +kernel
theorem dX9_strays_18 : decode cX9_strays 18 = .ok (.iload_n 2, 1) := by decide +kernel
theorem dX9_strays_19 : decode cX9_strays 19 = .ok (.iaload, 1) := by decide +kernel
theorem dX9_strays_20 : decode cX9_strays 20 = .ok (.invokevirtual 206, 3) := by decide +kernel
theorem dX9_strays_23 : decode cX9_strays 23 = .ok (.iconst 1, 1) := by decide +kernel
theorem dX9_strays_24 : decode cX9_strays 24 = .ok (.if_icmp .le 7, 3) := by decide +kernel
theorem dX9_strays_27 : decode cX9_strays 27 = .ok (.iconst 1, 1) := by decide +kernel
theorem dX9_strays_28 : decode cX9_strays 28 = .ok (.goto 4, 3) := by decide +kernel
theorem dX9_strays_31 : decode cX9_strays 31 = .ok (.iconst 0, 1) := by decide +kernel
theorem dX9_strays_32 : decode cX9_strays 32 = .ok (.iadd, 1) := by decide +kernel
theorem dX9_strays_33 : decode cX9_strays 33 = .ok (.istore_n 1, 1) := by decide +kernel
theorem dX9_strays_34 : decode cX9_strays 34 = .ok (.iinc 2 1, 3) := by decide +kernel
theorem dX9_strays_37 : decode cX9_strays 37 = .ok (.goto (-33), 3) := by decide +kernel
theorem dX9_strays_40 : decode cX9_strays 40 = .ok (.iload_n 1, 1) := by decide +kernel
theorem dX9_strays_41 : decode cX9_strays 41 = .ok (.ireturn, 1) := by decide +kernel
set_option maxRecDepth 20000 in
set_option maxHeartbeats 4000000 in
theorem wk_X9_strays_4 {p : Program} {l : Launch} {e : Env} {s : State} {m : MethodId} {args : Array Value} {below : List Frame} {meth : Method} {c : Code} {G : Gp} {σ : St}   {Q : Int32 → Prop} (F : FX p s m args meth c cX9_strays 3 (some .int) RX9 G)   : ∀ (n9 : Nat) (x1 : Int32) (x2 : Int32), LP2 (wp_X9_strays_4 σ Q) n9 x1 x2 → J p l e (rmF 1 23) s m args below meth c 3 G (MQ below (QQ G (qI (fun r σ' => σ' = σ ∧ Q r))) args s 0 0 (fr G)) 0 0 4 [(0, .ref (gb G + 244)), (1, .int x1), (2, .int x2)] [] σ := by
  intro n9
  induction n9 with
  | zero => intro x1 x2 h; exact h.elim
  | succ n9 i4 =>
    intro x1 x2 h
    have h : wp_X9_strays_4 σ Q (LP2 (wp_X9_strays_4 σ Q) n9) x1 x2 := h
    unfold wp_X9_strays_4 at h
    refine J_iln F 2 dX9_strays_4 rfl rfl ?_
    refine J_aln F 0 dX9_strays_5 rfl rfl ?_
    refine J_gfi F (ci := 9) 23 rfl inX9 ly_244 (by decide) (by decide) rfl lf_X9_113 rfl dX9_strays_6 ?_
    refine J_cge F (tgt := 40) dX9_strays_9 (by decide) (fun c_1 => ?_) (fun c_1 => ?_)
    · have h := h.1 c_1
      refine J_iln F 1 dX9_strays_40 rfl rfl ?_
      exact J_reti F ⟨_, rfl, rfl, h⟩ dX9_strays_41
    · have h := h.2 c_1
      refine J_iln F 1 dX9_strays_12 rfl rfl ?_
      refine J_aln F 0 dX9_strays_13 rfl rfl ?_
      refine J_aln F 0 dX9_strays_14 rfl rfl ?_
      refine J_gfa F (ci := 9) 18 rfl inX9 ly_244 (by decide) (by decide) rfl lf_X9_33 rfl dX9_strays_15 ?_
      refine J_iln F 2 dX9_strays_18 rfl rfl ?_
      obtain ⟨h_2, h⟩ := h
      refine J_iald F ly_251 h_2 dX9_strays_19 ?_
      refine J_callVi F (As := [.int (σ 251 (Int32.toNatClampNeg x2))]) (st := [.int x1]) (C_X9_zonesOf l G (σ 251 (Int32.toNatClampNeg x2))  h) (ci := 9) ly_244 (by decide) rfl rfl lm_X9_206 li_X9_zonesOf ls_X9_zonesOf ini_X9 lc_X9_zonesOf hd_X9_zonesOf (by decide) (Nat.le_of_ble_eq_true rfl) (by decide) rfl dX9_strays_20 (fun r_3 σ_4 hh => ?_)
      clear h
      obtain ⟨e9, h⟩ := hh
      subst σ_4
      refine J_ic F dX9_strays_23 ki_1 ?_
      refine J_cle F (tgt := 31) dX9_strays_24 (by decide) (fun c_5 => ?_) (fun c_5 => ?_)
      · have h := h.1 c_5
        refine J_ic F dX9_strays_31 ki_0 ?_
        refine J_iadd F dX9_strays_32 ?_
        refine J_top (fun x1_6 ex1_6 => ?_)
        have h := h x1_6 ex1_6
        refine J_isn F (L' := [(1, .int x1_6), (0, .ref (gb G + 244)), (2, .int x2)]) dX9_strays_33 rfl (by decide) rfl ?_
        obtain ⟨x2_7, ex2_7⟩ : ∃ z : Int32, z = x2 + (nI 1) := ⟨_, rfl⟩
        have h := h x2_7 ex2_7
        refine J_iinc F (v := x2_7) (L' := [(2, .int x2_7), (1, .int x1_6), (0, .ref (gb G + 244))]) 2 dX9_strays_34 rfl (by rw [ki_1, ex2_7]) (by decide) rfl ?_
        refine J_goto F (tgt := 4) dX9_strays_37 (by decide) ?_
        refine J_sub [2, 1, 0] rfl ?_
        exact i4 _ _ h
      · have h := h.2 c_5
        refine J_ic F dX9_strays_27 ki_1 ?_
        refine J_goto F (tgt := 32) dX9_strays_28 (by decide) ?_
        refine J_iadd F dX9_strays_32 ?_
        refine J_top (fun x1_8 ex1_8 => ?_)
        have h := h x1_8 ex1_8
        refine J_isn F (L' := [(1, .int x1_8), (0, .ref (gb G + 244)), (2, .int x2)]) dX9_strays_33 rfl (by decide) rfl ?_
        obtain ⟨x2_9, ex2_9⟩ : ∃ z : Int32, z = x2 + (nI 1) := ⟨_, rfl⟩
        have h := h x2_9 ex2_9
        refine J_iinc F (v := x2_9) (L' := [(2, .int x2_9), (1, .int x1_8), (0, .ref (gb G + 244))]) 2 dX9_strays_34 rfl (by rw [ki_1, ex2_9]) (by decide) rfl ?_
        refine J_goto F (tgt := 4) dX9_strays_37 (by decide) ?_
        refine J_sub [2, 1, 0] rfl ?_
        exact i4 _ _ h
set_option maxRecDepth 20000 in
set_option maxHeartbeats 4000000 in
theorem C_X9_strays (l : Launch) (G : Gp)   {σ : St} {Q : Int32 → Prop} (h : wp_X9_strays σ  Q) : Cn l yX9_strays cX9_strays 3 (some .int) 1 23 G [.ref (gb G + 244)] σ (qI (fun r σ' => σ' = σ ∧ Q r)) := by
  refine Cn_of (L := [(0, .ref (gb G + 244))]) RX9 (by decide) rfl (Nat.le_of_ble_eq_true rfl) rfl ?_
  intro p e s m below meth c F
  unfold wp_X9_strays at h
  refine J_ic F dX9_strays_0 ki_0 ?_
  refine J_isn F (L' := [(1, .int (nI 0)), (0, .ref (gb G + 244))]) dX9_strays_1 rfl (by decide) rfl ?_
  refine J_ic F dX9_strays_2 ki_0 ?_
  refine J_isn F (L' := [(2, .int (nI 0)), (1, .int (nI 0)), (0, .ref (gb G + 244))]) dX9_strays_3 rfl (by decide) rfl ?_
  refine J_sub [2, 1, 0] rfl ?_
  obtain ⟨n9, h⟩ := h
  exact wk_X9_strays_4 F  n9 _ _ h
theorem dX9_heldCopies_0 : decode cX9_heldCopies 0 = .ok (.iconst 0, 1) := by decide +kernel
theorem dX9_heldCopies_1 : decode cX9_heldCopies 1 = .ok (.istore_n 2, 1) := by decide +kernel
theorem dX9_heldCopies_2 : decode cX9_heldCopies 2 = .ok (.iconst 0, 1) := by decide +kernel
theorem dX9_heldCopies_3 : decode cX9_heldCopies 3 = .ok (.istore_n 3, 1) := by decide +kernel
theorem dX9_heldCopies_4 : decode cX9_heldCopies 4 = .ok (.iload_n 3, 1) := by decide +kernel
theorem dX9_heldCopies_5 : decode cX9_heldCopies 5 = .ok (.bipush 100, 2) := by decide +kernel
theorem dX9_heldCopies_7 : decode cX9_heldCopies 7 = .ok (.if_icmp .ge 26, 3) := by decide +kernel
theorem dX9_heldCopies_10 : decode cX9_heldCopies 10 = .ok (.iload_n 2, 1) := by decide +kernel
theorem dX9_heldCopies_11 : decode cX9_heldCopies 11 = .ok (.aload_n 0, 1) := by decide +kernel
theorem dX9_heldCopies_12 : decode cX9_heldCopies 12 = .ok (.iload_n 3, 1) := by decide +kernel
theorem dX9_heldCopies_13 : decode cX9_heldCopies 13 = .ok (.iload_n 1, 1) := by decide +kernel
theorem dX9_heldCopies_14 : decode cX9_heldCopies 14 = .ok (.invokevirtual 165, 3) := by decide +kernel
theorem dX9_heldCopies_17 : decode cX9_heldCopies 17 = .ok (.ifCond .eq 7, 3) := by decide +kernel
theorem dX9_heldCopies_20 : decode cX9_heldCopies 20 = .ok (.iconst 1, 1) := by decide +kernel
theorem dX9_heldCopies_21 : decode cX9_heldCopies 21 = .ok (.goto 4, 3) := by decide +kernel
theorem dX9_heldCopies_24 : decode cX9_heldCopies 24 = .ok (.iconst 0, 1) := by decide +kernel
theorem dX9_heldCopies_25 : decode cX9_heldCopies 25 = .ok (.iadd, 1) := by decide +kernel
theorem dX9_heldCopies_26 : decode cX9_heldCopies 26 = .ok (.istore_n 2, 1) := by decide +kernel
theorem dX9_heldCopies_27 : decode cX9_heldCopies 27 = .ok (.iinc 3 1, 3) := by decide +kernel
theorem dX9_heldCopies_30 : decode cX9_heldCopies 30 = .ok (.goto (-26), 3) := by decide +kernel
theorem dX9_heldCopies_33 : decode cX9_heldCopies 33 = .ok (.iload_n 2, 1) := by decide +kernel
theorem dX9_heldCopies_34 : decode cX9_heldCopies 34 = .ok (.ireturn, 1) := by decide +kernel
set_option maxRecDepth 20000 in
set_option maxHeartbeats 4000000 in
theorem wk_X9_heldCopies_4 {p : Program} {l : Launch} {e : Env} {s : State} {m : MethodId} {args : Array Value} {below : List Frame} {meth : Method} {c : Code} {G : Gp} {σ : St} {x1 : Int32}  {Q : Int32 → Prop} (F : FX p s m args meth c cX9_heldCopies 4 (some .int) RX9 G)   : ∀ (n9 : Nat) (x2 : Int32) (x3 : Int32), LP2 (wp_X9_heldCopies_4 σ x1 Q) n9 x2 x3 → J p l e (rmF 1 22) s m args below meth c 4 G (MQ below (QQ G (qI (fun r σ' => σ' = σ ∧ Q r))) args s 0 0 (fr G)) 0 0 4 [(0, .ref (gb G + 244)), (1, .int x1), (2, .int x2), (3, .int x3)] [] σ := by
  intro n9
  induction n9 with
  | zero => intro x2 x3 h; exact h.elim
  | succ n9 i4 =>
    intro x2 x3 h
    have h : wp_X9_heldCopies_4 σ x1 Q (LP2 (wp_X9_heldCopies_4 σ x1 Q) n9) x2 x3 := h
    unfold wp_X9_heldCopies_4 at h
    refine J_iln F 3 dX9_heldCopies_4 rfl rfl ?_
    refine J_bi F dX9_heldCopies_5 kb_100 ?_
    refine J_cge F (tgt := 33) dX9_heldCopies_7 (by decide) (fun c_1 => ?_) (fun c_1 => ?_)
    · have h := h.1 c_1
      refine J_iln F 2 dX9_heldCopies_33 rfl rfl ?_
      exact J_reti F ⟨_, rfl, rfl, h⟩ dX9_heldCopies_34
    · have h := h.2 c_1
      refine J_iln F 2 dX9_heldCopies_10 rfl rfl ?_
      refine J_aln F 0 dX9_heldCopies_11 rfl rfl ?_
      refine J_iln F 3 dX9_heldCopies_12 rfl rfl ?_
      refine J_iln F 1 dX9_heldCopies_13 rfl rfl ?_
      refine J_callVi F (As := [.int x3, .int x1]) (st := [.int x2]) (C_X9_isHeld l G x3 x1  h) (ci := 9) ly_244 (by decide) rfl rfl lm_X9_165 li_X9_isHeld ls_X9_isHeld ini_X9 lc_X9_isHeld hd_X9_isHeld (by decide) (Nat.le_of_ble_eq_true rfl) (by decide) rfl dX9_heldCopies_14 (fun r_2 σ_3 hh => ?_)
      clear h
      obtain ⟨e9, h⟩ := hh
      subst σ_3
      refine J_zeq F (tgt := 24) dX9_heldCopies_17 (by decide) (fun c_4 => ?_) (fun c_4 => ?_)
      · have h := h.1 c_4
        refine J_ic F dX9_heldCopies_24 ki_0 ?_
        refine J_iadd F dX9_heldCopies_25 ?_
        refine J_top (fun x2_5 ex2_5 => ?_)
        have h := h x2_5 ex2_5
        refine J_isn F (L' := [(2, .int x2_5), (0, .ref (gb G + 244)), (1, .int x1), (3, .int x3)]) dX9_heldCopies_26 rfl (by decide) rfl ?_
        obtain ⟨x3_6, ex3_6⟩ : ∃ z : Int32, z = x3 + (nI 1) := ⟨_, rfl⟩
        have h := h x3_6 ex3_6
        refine J_iinc F (v := x3_6) (L' := [(3, .int x3_6), (2, .int x2_5), (0, .ref (gb G + 244)), (1, .int x1)]) 3 dX9_heldCopies_27 rfl (by rw [ki_1, ex3_6]) (by decide) rfl ?_
        refine J_goto F (tgt := 4) dX9_heldCopies_30 (by decide) ?_
        refine J_sub [2, 3, 1, 0] rfl ?_
        exact i4 _ _ h
      · have h := h.2 c_4
        refine J_ic F dX9_heldCopies_20 ki_1 ?_
        refine J_goto F (tgt := 25) dX9_heldCopies_21 (by decide) ?_
        refine J_iadd F dX9_heldCopies_25 ?_
        refine J_top (fun x2_7 ex2_7 => ?_)
        have h := h x2_7 ex2_7
        refine J_isn F (L' := [(2, .int x2_7), (0, .ref (gb G + 244)), (1, .int x1), (3, .int x3)]) dX9_heldCopies_26 rfl (by decide) rfl ?_
        obtain ⟨x3_8, ex3_8⟩ : ∃ z : Int32, z = x3 + (nI 1) := ⟨_, rfl⟩
        have h := h x3_8 ex3_8
        refine J_iinc F (v := x3_8) (L' := [(3, .int x3_8), (2, .int x2_7), (0, .ref (gb G + 244)), (1, .int x1)]) 3 dX9_heldCopies_27 rfl (by rw [ki_1, ex3_8]) (by decide) rfl ?_
        refine J_goto F (tgt := 4) dX9_heldCopies_30 (by decide) ?_
        refine J_sub [2, 3, 1, 0] rfl ?_
        exact i4 _ _ h
set_option maxRecDepth 20000 in
set_option maxHeartbeats 4000000 in
theorem C_X9_heldCopies (l : Launch) (G : Gp) (x1 : Int32)  {σ : St} {Q : Int32 → Prop} (h : wp_X9_heldCopies σ x1 Q) : Cn l yX9_heldCopies cX9_heldCopies 4 (some .int) 1 22 G [.ref (gb G + 244), .int x1] σ (qI (fun r σ' => σ' = σ ∧ Q r)) := by
  refine Cn_of (L := [(0, .ref (gb G + 244)), (1, .int x1)]) RX9 (by decide) rfl (Nat.le_of_ble_eq_true rfl) rfl ?_
  intro p e s m below meth c F
  unfold wp_X9_heldCopies at h
  refine J_ic F dX9_heldCopies_0 ki_0 ?_
  refine J_isn F (L' := [(2, .int (nI 0)), (0, .ref (gb G + 244)), (1, .int x1)]) dX9_heldCopies_1 rfl (by decide) rfl ?_
  refine J_ic F dX9_heldCopies_2 ki_0 ?_
  refine J_isn F (L' := [(3, .int (nI 0)), (2, .int (nI 0)), (0, .ref (gb G + 244)), (1, .int x1)]) dX9_heldCopies_3 rfl (by decide) rfl ?_
  refine J_sub [2, 3, 1, 0] rfl ?_
  obtain ⟨n9, h⟩ := h
  exact wk_X9_heldCopies_4 F  n9 _ _ h
theorem dX9_reality_0 : decode cX9_reality 0 = .ok (.aload_n 0, 1) := by decide +kernel
theorem dX9_reality_1 : decode cX9_reality 1 = .ok (.aload_n 0, 1) := by decide +kernel
theorem dX9_reality_2 : decode cX9_reality 2 = .ok (.iload_n 1, 1) := by decide +kernel
theorem dX9_reality_3 : decode cX9_reality 3 = .ok (.invokevirtual 370, 3) := by decide +kernel
theorem dX9_reality_6 : decode cX9_reality 6 = .ok (.ifCond .ne 7, 3) := by decide +kernel
theorem dX9_reality_9 : decode cX9_reality 9 = .ok (.iconst 1, 1) := by decide +kernel
theorem dX9_reality_10 : decode cX9_reality 10 = .ok (.goto 17, 3) := by decide +kernel
theorem dX9_reality_13 : decode cX9_reality 13 = .ok (.iload_n 2, 1) := by decide +kernel
theorem dX9_reality_14 : decode cX9_reality 14 = .ok (.iconst 0, 1) := by decide +kernel
theorem dX9_reality_15 : decode cX9_reality 15 = .ok (.iconst 5, 1) := by decide +kernel
theorem dX9_reality_16 : decode cX9_reality 16 = .ok (.invokestatic 77, 3) := by decide +kernel
theorem dX9_reality_19 : decode cX9_reality 19 = .ok (.ifCond .ne 7, 3) := by decide +kernel
theorem dX9_reality_22 : decode cX9_reality 22 = .ok (.iconst 2, 1) := by decide +kernel
theorem dX9_reality_23 : decode cX9_reality 23 = .ok (.goto 4, 3) := by decide +kernel
theorem dX9_reality_26 : decode cX9_reality 26 = .ok (.iconst 0, 1) := by decide +kernel
theorem dX9_reality_27 : decode cX9_reality 27 = .ok (.putfield 54, 3) := by decide +kernel
theorem dX9_reality_30 : decode cX9_reality 30 = .ok (.aload_n 0, 1) := by decide +kernel
theorem dX9_reality_31 : decode cX9_reality 31 = .ok (.getfield 54, 3) := by decide +kernel
theorem dX9_reality_34 : decode cX9_reality 34 = .ok (.ifCond .le 5, 3) := by decide +kernel
theorem dX9_reality_37 : decode cX9_reality 37 = .ok (.iconst 0, 1) := by decide +kernel
theorem dX9_reality_38 : decode cX9_reality 38 = .ok (.ireturn, 1) := by decide +kernel
theorem dX9_reality_39 : decode cX9_reality 39 = .ok (.aload_n 0, 1) := by decide +kernel
theorem dX9_reality_40 : decode cX9_reality 40 = .ok (.iload_n 1, 1) := by decide +kernel
theorem dX9_reality_41 : decode cX9_reality 41 = .ok (.invokevirtual 132, 3) := by decide +kernel
theorem dX9_reality_44 : decode cX9_reality 44 = .ok (.iload_n 2, 1) := by decide +kernel
theorem dX9_reality_45 : decode cX9_reality 45 = .ok (.tableswitch 64 0 4 #[35, 40, 45, 50, 59], 35) := by decide +kernel
theorem dX9_reality_80 : decode cX9_reality 80 = .ok (.aload_n 0, 1) := by decide +kernel
theorem dX9_reality_81 : decode cX9_reality 81 = .ok (.getfield 113, 3) := by decide +kernel
theorem dX9_reality_84 : decode cX9_reality 84 = .ok (.ireturn, 1) := by decide +kernel
theorem dX9_reality_85 : decode cX9_reality 85 = .ok (.aload_n 0, 1) := by decide +kernel
theorem dX9_reality_86 : decode cX9_reality 86 = .ok (.invokevirtual 448, 3) := by decide +kernel
theorem dX9_reality_89 : decode cX9_reality 89 = .ok (.ireturn, 1) := by decide +kernel
theorem dX9_reality_90 : decode cX9_reality 90 = .ok (.aload_n 0, 1) := by decide +kernel
theorem dX9_reality_91 : decode cX9_reality 91 = .ok (.invokevirtual 376, 3) := by decide +kernel
theorem dX9_reality_94 : decode cX9_reality 94 = .ok (.ireturn, 1) := by decide +kernel
theorem dX9_reality_95 : decode cX9_reality 95 = .ok (.aload_n 0, 1) := by decide +kernel
theorem dX9_reality_96 : decode cX9_reality 96 = .ok (.invokevirtual 451, 3) := by decide +kernel
theorem dX9_reality_99 : decode cX9_reality 99 = .ok (.aload_n 0, 1) := by decide +kernel
theorem dX9_reality_100 : decode cX9_reality 100 = .ok (.getfield 433, 3) := by decide +kernel
theorem dX9_reality_103 : decode cX9_reality 103 = .ok (.ireturn, 1) := by decide +kernel
theorem dX9_reality_104 : decode cX9_reality 104 = .ok (.aload_n 0, 1) := by decide +kernel
theorem dX9_reality_105 : decode cX9_reality 105 = .ok (.invokevirtual 454, 3) := by decide +kernel
theorem dX9_reality_108 : decode cX9_reality 108 = .ok (.ireturn, 1) := by decide +kernel
theorem dX9_reality_109 : decode cX9_reality 109 = .ok (.aload_n 0, 1) := by decide +kernel
theorem dX9_reality_110 : decode cX9_reality 110 = .ok (.iload_n 1, 1) := by decide +kernel
theorem dX9_reality_111 : decode cX9_reality 111 = .ok (.invokevirtual 457, 3) := by decide +kernel
theorem dX9_reality_114 : decode cX9_reality 114 = .ok (.ireturn, 1) := by decide +kernel
set_option maxRecDepth 20000 in
set_option maxHeartbeats 4000000 in
theorem wk_X9_reality_27 {p : Program} {l : Launch} {e : Env} {s : State} {m : MethodId} {args : Array Value} {below : List Frame} {meth : Method} {c : Code} {G : Gp} {σ : St} {x1 : Int32} {x2 : Int32} {t1 : Int32}  {Q : Int32 → St → Prop} (F : FX p s m args meth c cX9_reality 3 (some .int) RX9 G)   (h : wp_X9_reality_27 σ x1 x2 t1 Q) : J p l e (rmF 8 189) s m args below meth c 3 G (MQ below (QQ G (qI Q)) args s 0 0 (fr G)) 0 0 27 [(0, .ref (gb G + 244)), (1, .int x1), (2, .int x2)] [.int t1, .ref (gb G + 244)] σ := by
  unfold wp_X9_reality_27 at h
  refine J_pfi F (ci := 9) 0 rfl inX9 tyX9 tyX9_ok nmX9 ly_244 (by decide) (by decide) rfl lf_X9_54 rfl rfl (tyX9_ok 0 (by decide)) rfl rfl dX9_reality_27 ?_
  refine J_st (fun σ_1 eσ_1 => ?_)
  have h := h σ_1 eσ_1
  refine J_aln F 0 dX9_reality_30 rfl rfl ?_
  refine J_gfi F (ci := 9) 0 rfl inX9 ly_244 (by decide) (by decide) rfl lf_X9_54 rfl dX9_reality_31 ?_
  refine J_zle F (tgt := 39) dX9_reality_34 (by decide) (fun c_2 => ?_) (fun c_2 => ?_)
  · have h := h.1 c_2
    refine J_aln F 0 dX9_reality_39 rfl rfl ?_
    refine J_iln F 1 dX9_reality_40 rfl rfl ?_
    refine J_callVv F (As := [.int x1]) (st := []) (C_X9_laysList l G x1  h) (ci := 9) ly_244 (by decide) rfl rfl lm_X9_132 li_X9_laysList ls_X9_laysList ini_X9 lc_X9_laysList hd_X9_laysList (by decide) (Nat.le_of_ble_eq_true rfl) (by decide) rfl dX9_reality_41 (fun σ_3 h => ?_)
    refine J_iln F 2 dX9_reality_44 rfl rfl ?_
    refine J_case (v := nI 0) (fun c_5 => ?_) (fun c_5 => ?_)
    · have h := h.1 c_5
      refine J_tabIn F (off := 35) (tgt := 80) dX9_reality_45 (by decide) (by decide) (by decide) (by decide) ?_
      refine J_aln F 0 dX9_reality_80 rfl rfl ?_
      refine J_gfi F (ci := 9) 23 rfl inX9 ly_244 (by decide) (by decide) rfl lf_X9_113 rfl dX9_reality_81 ?_
      exact J_reti F ⟨_, rfl, h⟩ dX9_reality_84
    · have h := h.2 c_5
      refine J_case (v := nI 1) (fun c_6 => ?_) (fun c_6 => ?_)
      · have h := h.1 c_6
        refine J_tabIn F (off := 40) (tgt := 85) dX9_reality_45 (by decide) (by decide) (by decide) (by decide) ?_
        refine J_aln F 0 dX9_reality_85 rfl rfl ?_
        refine J_callVi F (As := []) (st := []) (C_X9_even l G   h) (ci := 9) ly_244 (by decide) rfl rfl lm_X9_448 li_X9_even ls_X9_even ini_X9 lc_X9_even hd_X9_even (by decide) (Nat.le_of_ble_eq_true rfl) (by decide) rfl dX9_reality_86 (fun r_7 σ_8 hh => ?_)
        clear h
        obtain ⟨e9, h⟩ := hh
        subst σ_8
        exact J_reti F ⟨_, rfl, h⟩ dX9_reality_89
      · have h := h.2 c_6
        refine J_case (v := nI 2) (fun c_9 => ?_) (fun c_9 => ?_)
        · have h := h.1 c_9
          refine J_tabIn F (off := 45) (tgt := 90) dX9_reality_45 (by decide) (by decide) (by decide) (by decide) ?_
          refine J_aln F 0 dX9_reality_90 rfl rfl ?_
          refine J_callVi F (As := []) (st := []) (C_X9_hubOf l G   h) (ci := 9) ly_244 (by decide) rfl rfl lm_X9_376 li_X9_hubOf ls_X9_hubOf ini_X9 lc_X9_hubOf hd_X9_hubOf (by decide) (Nat.le_of_ble_eq_true rfl) (by decide) rfl dX9_reality_91 (fun r_10 σ_11 hh => ?_)
          clear h
          obtain ⟨e9, h⟩ := hh
          subst σ_11
          exact J_reti F ⟨_, rfl, h⟩ dX9_reality_94
        · have h := h.2 c_9
          refine J_case (v := nI 3) (fun c_12 => ?_) (fun c_12 => ?_)
          · have h := h.1 c_12
            refine J_tabIn F (off := 50) (tgt := 95) dX9_reality_45 (by decide) (by decide) (by decide) (by decide) ?_
            refine J_aln F 0 dX9_reality_95 rfl rfl ?_
            refine J_callVv F (As := []) (st := []) (C_X9_allWays l G   h) (ci := 9) ly_244 (by decide) rfl rfl lm_X9_451 li_X9_allWays ls_X9_allWays ini_X9 lc_X9_allWays hd_X9_allWays (by decide) (Nat.le_of_ble_eq_true rfl) (by decide) rfl dX9_reality_96 (fun σ_13 h => ?_)
            refine J_aln F 0 dX9_reality_99 rfl rfl ?_
            refine J_gfi F (ci := 9) 30 rfl inX9 ly_244 (by decide) (by decide) rfl lf_X9_433 rfl dX9_reality_100 ?_
            exact J_reti F ⟨_, rfl, h⟩ dX9_reality_103
          · have h := h.2 c_12
            refine J_case (v := nI 4) (fun c_14 => ?_) (fun c_14 => ?_)
            · have h := h.1 c_14
              refine J_tabIn F (off := 59) (tgt := 104) dX9_reality_45 (by decide) (by decide) (by decide) (by decide) ?_
              refine J_aln F 0 dX9_reality_104 rfl rfl ?_
              refine J_callVi F (As := []) (st := []) (C_X9_strays l G   h) (ci := 9) ly_244 (by decide) rfl rfl lm_X9_454 li_X9_strays ls_X9_strays ini_X9 lc_X9_strays hd_X9_strays (by decide) (Nat.le_of_ble_eq_true rfl) (by decide) rfl dX9_reality_105 (fun r_15 σ_16 hh => ?_)
              clear h
              obtain ⟨e9, h⟩ := hh
              subst σ_16
              exact J_reti F ⟨_, rfl, h⟩ dX9_reality_108
            · have h := h.2 c_14
              refine J_tabOut F (tgt := 109) dX9_reality_45 (tab_out 0 4 (fun k h1 h2 => by rcases (show k = 0 ∨ k = 1 ∨ k = 2 ∨ k = 3 ∨ k = 4 by omega) with rfl | rfl | rfl | rfl | rfl <;> assumption)) (by decide) ?_
              refine J_aln F 0 dX9_reality_109 rfl rfl ?_
              refine J_iln F 1 dX9_reality_110 rfl rfl ?_
              refine J_callVi F (As := [.int x1]) (st := []) (C_X9_heldCopies l G x1  h) (ci := 9) ly_244 (by decide) rfl rfl lm_X9_457 li_X9_heldCopies ls_X9_heldCopies ini_X9 lc_X9_heldCopies hd_X9_heldCopies (by decide) (Nat.le_of_ble_eq_true rfl) (by decide) rfl dX9_reality_111 (fun r_17 σ_18 hh => ?_)
              clear h
              obtain ⟨e9, h⟩ := hh
              subst σ_18
              exact J_reti F ⟨_, rfl, h⟩ dX9_reality_114
  · have h := h.2 c_2
    refine J_ic F dX9_reality_37 ki_0 ?_
    exact J_reti F ⟨_, rfl, h⟩ dX9_reality_38
set_option maxRecDepth 20000 in
set_option maxHeartbeats 4000000 in
theorem C_X9_reality (l : Launch) (G : Gp) (x1 : Int32) (x2 : Int32)  {σ : St} {Q : Int32 → St → Prop} (h : wp_X9_reality σ x1 x2 Q) : Cn l yX9_reality cX9_reality 3 (some .int) 8 189 G [.ref (gb G + 244), .int x1, .int x2] σ (qI Q) := by
  refine Cn_of (L := [(0, .ref (gb G + 244)), (1, .int x1), (2, .int x2)]) RX9 (by decide) rfl (Nat.le_of_ble_eq_true rfl) rfl ?_
  intro p e s m below meth c F
  unfold wp_X9_reality at h
  refine J_aln F 0 dX9_reality_0 rfl rfl ?_
  refine J_aln F 0 dX9_reality_1 rfl rfl ?_
  refine J_iln F 1 dX9_reality_2 rfl rfl ?_
  refine J_callVi F (As := [.int x1]) (st := [.ref (gb G + 244)]) (C_X9_isReality l G x1  h) (ci := 9) ly_244 (by decide) rfl rfl lm_X9_370 li_X9_isReality ls_X9_isReality ini_X9 lc_X9_isReality hd_X9_isReality (by decide) (Nat.le_of_ble_eq_true rfl) (by decide) rfl dX9_reality_3 (fun r_19 σ_20 hh => ?_)
  clear h
  obtain ⟨e9, h⟩ := hh
  subst σ_20
  refine J_zne F (tgt := 13) dX9_reality_6 (by decide) (fun c_21 => ?_) (fun c_21 => ?_)
  · have h := h.1 c_21
    refine J_iln F 2 dX9_reality_13 rfl rfl ?_
    refine J_ic F dX9_reality_14 ki_0 ?_
    refine J_ic F dX9_reality_15 ki_5 ?_
    refine J_callSi F (As := [.int x2, .int (nI 0), .int (nI 5)]) (st := [.ref (gb G + 244)]) (C_X9_isIn l G x2 (nI 0) (nI 5)  h) lm_X9_77 li_X9_isIn ini_X9 lc_X9_isIn hd_X9_isIn (by decide) (Nat.le_of_ble_eq_true rfl) (by decide) rfl dX9_reality_16 (fun r_22 σ_23 hh => ?_)
    clear h
    obtain ⟨e9, h⟩ := hh
    subst σ_23
    refine J_zne F (tgt := 26) dX9_reality_19 (by decide) (fun c_24 => ?_) (fun c_24 => ?_)
    · have h := h.1 c_24
      refine J_ic F dX9_reality_26 ki_0 ?_
      exact wk_X9_reality_27 F  h
    · have h := h.2 c_24
      refine J_ic F dX9_reality_22 ki_2 ?_
      refine J_goto F (tgt := 27) dX9_reality_23 (by decide) ?_
      exact wk_X9_reality_27 F  h
  · have h := h.2 c_21
    refine J_ic F dX9_reality_9 ki_1 ?_
    refine J_goto F (tgt := 27) dX9_reality_10 (by decide) ?_
    exact wk_X9_reality_27 F  h
theorem dX9_isHinge_0 : decode cX9_isHinge 0 = .ok (.iconst 0, 1) := by decide +kernel
theorem dX9_isHinge_1 : decode cX9_isHinge 1 = .ok (.istore_n 2, 1) := by decide +kernel
theorem dX9_isHinge_2 : decode cX9_isHinge 2 = .ok (.iload_n 2, 1) := by decide +kernel
theorem dX9_isHinge_3 : decode cX9_isHinge 3 = .ok (.bipush 10, 2) := by decide +kernel
theorem dX9_isHinge_5 : decode cX9_isHinge 5 = .ok (.if_icmp .ge 94, 3) := by decide +kernel
theorem dX9_isHinge_8 : decode cX9_isHinge 8 = .ok (.iconst 0, 1) := by decide +kernel
theorem dX9_isHinge_9 : decode cX9_isHinge 9 = .ok (.istore_n 3, 1) := by decide +kernel
theorem dX9_isHinge_10 : decode cX9_isHinge 10 = .ok (.iload_n 3, 1) := by decide +kernel
theorem dX9_isHinge_11 : decode cX9_isHinge 11 = .ok (.bipush 10, 2) := by decide +kernel
theorem dX9_isHinge_13 : decode cX9_isHinge 13 = .ok (.if_icmp .ge 80, 3) := by decide +kernel
theorem dX9_isHinge_16 : decode cX9_isHinge 16 = .ok (.iload_n 2, 1) := by decide +kernel
theorem dX9_isHinge_17 : decode cX9_isHinge 17 = .ok (.iload_n 1, 1) := by decide +kernel
theorem dX9_isHinge_18 : decode cX9_isHinge 18 = .ok (.if_icmp .eq 69, 3) := by decide +kernel
theorem dX9_isHinge_21 : decode cX9_isHinge 21 = .ok (.iload_n 3, 1) := by decide +kernel
theorem dX9_isHinge_22 : decode cX9_isHinge 22 = .ok (.iload_n 1, 1) := by decide +kernel
theorem dX9_isHinge_23 : decode cX9_isHinge 23 = .ok (.if_icmp .eq 64, 3) := by decide +kernel
theorem dX9_isHinge_26 : decode cX9_isHinge 26 = .ok (.aload_n 0, 1) := by decide +kernel
theorem dX9_isHinge_27 : decode cX9_isHinge 27 = .ok (.iload_n 2, 1) := by decide +kernel
theorem dX9_isHinge_28 : decode cX9_isHinge 28 = .ok (.iload_n 3, 1) := by decide +kernel
theorem dX9_isHinge_29 : decode cX9_isHinge 29 = .ok (.invokevirtual 442, 3) := by decide +kernel
theorem dX9_isHinge_32 : decode cX9_isHinge 32 = .ok (.ifCond .ne 6, 3) := by decide +kernel
theorem dX9_isHinge_35 : decode cX9_isHinge 35 = .ok (.goto 52, 3) := by decide +kernel
theorem dX9_isHinge_38 : decode cX9_isHinge 38 = .ok (.aload_n 0, 1) := by decide +kernel
theorem dX9_isHinge_39 : decode cX9_isHinge 39 = .ok (.iload_n 2, 1) := by decide +kernel
theorem dX9_isHinge_40 : decode cX9_isHinge 40 = .ok (.iload_n 3, 1) := by decide +kernel
theorem dX9_isHinge_41 : decode cX9_isHinge 41 = .ok (.invokevirtual 445, 3) := by decide +kernel
theorem dX9_isHinge_44 : decode cX9_isHinge 44 = .ok (.aload_n 0, 1) := by decide +kernel
theorem dX9_isHinge_45 : decode cX9_isHinge 45 = .ok (.getfield 395, 3) := by decide +kernel
theorem dX9_isHinge_48 : decode cX9_isHinge 48 = .ok (.ifCond .eq 6, 3) := by decide +kernel
theorem dX9_isHinge_51 : decode cX9_isHinge 51 = .ok (.goto 36, 3) := by decide +kernel
theorem dX9_isHinge_54 : decode cX9_isHinge 54 = .ok (.aload_n 0, 1) := by decide +kernel
theorem dX9_isHinge_55 : decode cX9_isHinge 55 = .ok (.getfield 7, 3) := by decide +kernel
theorem dX9_isHinge_58 : decode cX9_isHinge 58 = .ok (.iconst 0, 1) := by decide +kernel
theorem dX9_isHinge_59 : decode cX9_isHinge 59 = .ok (.iload_n 1, 1) := by decide +kernel
theorem dX9_isHinge_60 : decode cX9_isHinge 60 = .ok (.iadd, 1) := by decide +kernel
theorem dX9_isHinge_61 : decode cX9_isHinge 61 = .ok (.iconst 2, 1) := by decide +kernel
theorem dX9_isHinge_62 : decode cX9_isHinge 62 = .ok (.iastore, 1) := by decide +kernel
theorem dX9_isHinge_63 : decode cX9_isHinge 63 = .ok (.aload_n 0, 1) := by decide +kernel
theorem dX9_isHinge_64 : decode cX9_isHinge 64 = .ok (.iload_n 2, 1) := by decide +kernel
theorem dX9_isHinge_65 : decode cX9_isHinge 65 = .ok (.iload_n 3, 1) := by decide +kernel
theorem dX9_isHinge_66 : decode cX9_isHinge 66 = .ok (.invokevirtual 445, 3) := by decide +kernel
theorem dX9_isHinge_69 : decode cX9_isHinge 69 = .ok (.aload_n 0, 1) := by decide +kernel
theorem dX9_isHinge_70 : decode cX9_isHinge 70 = .ok (.getfield 7, 3) := by decide +kernel
theorem dX9_isHinge_73 : decode cX9_isHinge 73 = .ok (.iconst 0, 1) := by decide +kernel
theorem dX9_isHinge_74 : decode cX9_isHinge 74 = .ok (.iload_n 1, 1) := by decide +kernel
theorem dX9_isHinge_75 : decode cX9_isHinge 75 = .ok (.iadd, 1) := by decide +kernel
theorem dX9_isHinge_76 : decode cX9_isHinge 76 = .ok (.iconst 1, 1) := by decide +kernel
theorem dX9_isHinge_77 : decode cX9_isHinge 77 = .ok (.iastore, 1) := by decide +kernel
theorem dX9_isHinge_78 : decode cX9_isHinge 78 = .ok (.aload_n 0, 1) := by decide +kernel
theorem dX9_isHinge_79 : decode cX9_isHinge 79 = .ok (.getfield 395, 3) := by decide +kernel
theorem dX9_isHinge_82 : decode cX9_isHinge 82 = .ok (.ifCond .eq 5, 3) := by decide +kernel
theorem dX9_isHinge_85 : decode cX9_isHinge 85 = .ok (.iconst 1, 1) := by decide +kernel
theorem dX9_isHinge_86 : decode cX9_isHinge 86 = .ok (.ireturn, 1) := by decide +kernel
theorem dX9_isHinge_87 : decode cX9_isHinge 87 = .ok (.iinc 3 1, 3) := by decide +kernel
theorem dX9_isHinge_90 : decode cX9_isHinge 90 = .ok (.goto (-80), 3) := by decide +kernel
theorem dX9_isHinge_93 : decode cX9_isHinge 93 = .ok (.iinc 2 1, 3) := by decide +kernel
theorem dX9_isHinge_96 : decode cX9_isHinge 96 = .ok (.goto (-94), 3) := by decide +kernel
theorem dX9_isHinge_99 : decode cX9_isHinge 99 = .ok (.iconst 0, 1) := by decide +kernel
theorem dX9_isHinge_100 : decode cX9_isHinge 100 = .ok (.ireturn, 1) := by decide +kernel
set_option maxRecDepth 20000 in
set_option maxHeartbeats 4000000 in
theorem wk_X9_isHinge_10 {p : Program} {l : Launch} {e : Env} {s : State} {m : MethodId} {args : Array Value} {below : List Frame} {meth : Method} {c : Code} {G : Gp} {x1 : Int32} {x2 : Int32} {ih2 : St → Int32 → Prop} {Q : Int32 → St → Prop} (F : FX p s m args meth c cX9_isHinge 4 (some .boolean) RX9 G)  (i2 : ∀ (σ : St) (x2 : Int32), ih2 σ x2 → J p l e (rmF 7 167) s m args below meth c 4 G (MQ below (QQ G (qI Q)) args s 0 0 (fr G)) 0 0 2 [(0, .ref (gb G + 244)), (1, .int x1), (2, .int x2)] [] σ) : ∀ (n9 : Nat) (σ : St) (x3 : Int32), LP2 (wp_X9_isHinge_10 x1 x2 ih2 Q) n9 σ x3 → J p l e (rmF 7 167) s m args below meth c 4 G (MQ below (QQ G (qI Q)) args s 0 0 (fr G)) 0 0 10 [(0, .ref (gb G + 244)), (1, .int x1), (2, .int x2), (3, .int x3)] [] σ := by
  intro n9
  induction n9 with
  | zero => intro σ x3 h; exact h.elim
  | succ n9 i10 =>
    intro σ x3 h
    have h : wp_X9_isHinge_10 x1 x2 ih2 Q (LP2 (wp_X9_isHinge_10 x1 x2 ih2 Q) n9) σ x3 := h
    unfold wp_X9_isHinge_10 at h
    refine J_iln F 3 dX9_isHinge_10 rfl rfl ?_
    refine J_bi F dX9_isHinge_11 kb_10 ?_
    refine J_cge F (tgt := 93) dX9_isHinge_13 (by decide) (fun c_1 => ?_) (fun c_1 => ?_)
    · have h := h.1 c_1
      obtain ⟨x2_2, ex2_2⟩ : ∃ z : Int32, z = x2 + (nI 1) := ⟨_, rfl⟩
      have h := h x2_2 ex2_2
      refine J_iinc F (v := x2_2) (L' := [(2, .int x2_2), (0, .ref (gb G + 244)), (1, .int x1), (3, .int x3)]) 2 dX9_isHinge_93 rfl (by rw [ki_1, ex2_2]) (by decide) rfl ?_
      refine J_goto F (tgt := 2) dX9_isHinge_96 (by decide) ?_
      refine J_sub [1, 2, 0] rfl ?_
      exact i2 _ _ h
    · have h := h.2 c_1
      refine J_iln F 2 dX9_isHinge_16 rfl rfl ?_
      refine J_iln F 1 dX9_isHinge_17 rfl rfl ?_
      refine J_ceq F (tgt := 87) dX9_isHinge_18 (by decide) (fun c_3 => ?_) (fun c_3 => ?_)
      · have h := h.1 c_3
        obtain ⟨x3_4, ex3_4⟩ : ∃ z : Int32, z = x3 + (nI 1) := ⟨_, rfl⟩
        have h := h x3_4 ex3_4
        refine J_iinc F (v := x3_4) (L' := [(3, .int x3_4), (0, .ref (gb G + 244)), (1, .int x1), (2, .int x2)]) 3 dX9_isHinge_87 rfl (by rw [ki_1, ex3_4]) (by decide) rfl ?_
        refine J_goto F (tgt := 10) dX9_isHinge_90 (by decide) ?_
        refine J_sub [1, 2, 3, 0] rfl ?_
        exact i10 _ _ h
      · have h := h.2 c_3
        refine J_iln F 3 dX9_isHinge_21 rfl rfl ?_
        refine J_iln F 1 dX9_isHinge_22 rfl rfl ?_
        refine J_ceq F (tgt := 87) dX9_isHinge_23 (by decide) (fun c_5 => ?_) (fun c_5 => ?_)
        · have h := h.1 c_5
          obtain ⟨x3_6, ex3_6⟩ : ∃ z : Int32, z = x3 + (nI 1) := ⟨_, rfl⟩
          have h := h x3_6 ex3_6
          refine J_iinc F (v := x3_6) (L' := [(3, .int x3_6), (0, .ref (gb G + 244)), (1, .int x1), (2, .int x2)]) 3 dX9_isHinge_87 rfl (by rw [ki_1, ex3_6]) (by decide) rfl ?_
          refine J_goto F (tgt := 10) dX9_isHinge_90 (by decide) ?_
          refine J_sub [1, 2, 3, 0] rfl ?_
          exact i10 _ _ h
        · have h := h.2 c_5
          refine J_aln F 0 dX9_isHinge_26 rfl rfl ?_
          refine J_iln F 2 dX9_isHinge_27 rfl rfl ?_
          refine J_iln F 3 dX9_isHinge_28 rfl rfl ?_
          refine J_callVi F (As := [.int x2, .int x3]) (st := []) (C_X9_arePair l G x2 x3  h) (ci := 9) ly_244 (by decide) rfl rfl lm_X9_442 li_X9_arePair ls_X9_arePair ini_X9 lc_X9_arePair hd_X9_arePair (by decide) (Nat.le_of_ble_eq_true rfl) (by decide) rfl dX9_isHinge_29 (fun r_7 σ_8 hh => ?_)
          clear h
          obtain ⟨e9, h⟩ := hh
          subst σ_8
          refine J_zne F (tgt := 38) dX9_isHinge_32 (by decide) (fun c_9 => ?_) (fun c_9 => ?_)
          · have h := h.1 c_9
            refine J_aln F 0 dX9_isHinge_38 rfl rfl ?_
            refine J_iln F 2 dX9_isHinge_39 rfl rfl ?_
            refine J_iln F 3 dX9_isHinge_40 rfl rfl ?_
            refine J_callVv F (As := [.int x2, .int x3]) (st := []) (C_X9_goesTo l G x2 x3  h) (ci := 9) ly_244 (by decide) rfl rfl lm_X9_445 li_X9_goesTo ls_X9_goesTo ini_X9 lc_X9_goesTo hd_X9_goesTo (by decide) (Nat.le_of_ble_eq_true rfl) (by decide) rfl dX9_isHinge_41 (fun σ_10 h => ?_)
            refine J_aln F 0 dX9_isHinge_44 rfl rfl ?_
            refine J_gfi F (ci := 9) 27 rfl inX9 ly_244 (by decide) (by decide) rfl lf_X9_395 rfl dX9_isHinge_45 ?_
            refine J_zeq F (tgt := 54) dX9_isHinge_48 (by decide) (fun c_11 => ?_) (fun c_11 => ?_)
            · have h := h.1 c_11
              refine J_aln F 0 dX9_isHinge_54 rfl rfl ?_
              refine J_gfa F (ci := 9) 1 rfl inX9 ly_244 (by decide) (by decide) rfl lf_X9_7 rfl dX9_isHinge_55 ?_
              refine J_ic F dX9_isHinge_58 ki_0 ?_
              refine J_iln F 1 dX9_isHinge_59 rfl rfl ?_
              refine J_iadd F dX9_isHinge_60 ?_
              refine J_ic F dX9_isHinge_61 ki_2 ?_
              obtain ⟨h_12, h⟩ := h
              refine J_iast F ly_245 h_12 dX9_isHinge_62 ?_
              refine J_st (fun σ_13 eσ_13 => ?_)
              have h := h σ_13 eσ_13
              refine J_aln F 0 dX9_isHinge_63 rfl rfl ?_
              refine J_iln F 2 dX9_isHinge_64 rfl rfl ?_
              refine J_iln F 3 dX9_isHinge_65 rfl rfl ?_
              refine J_callVv F (As := [.int x2, .int x3]) (st := []) (C_X9_goesTo l G x2 x3  h) (ci := 9) ly_244 (by decide) rfl rfl lm_X9_445 li_X9_goesTo ls_X9_goesTo ini_X9 lc_X9_goesTo hd_X9_goesTo (by decide) (Nat.le_of_ble_eq_true rfl) (by decide) rfl dX9_isHinge_66 (fun σ_14 h => ?_)
              refine J_aln F 0 dX9_isHinge_69 rfl rfl ?_
              refine J_gfa F (ci := 9) 1 rfl inX9 ly_244 (by decide) (by decide) rfl lf_X9_7 rfl dX9_isHinge_70 ?_
              refine J_ic F dX9_isHinge_73 ki_0 ?_
              refine J_iln F 1 dX9_isHinge_74 rfl rfl ?_
              refine J_iadd F dX9_isHinge_75 ?_
              refine J_ic F dX9_isHinge_76 ki_1 ?_
              obtain ⟨h_15, h⟩ := h
              refine J_iast F ly_245 h_15 dX9_isHinge_77 ?_
              refine J_st (fun σ_16 eσ_16 => ?_)
              have h := h σ_16 eσ_16
              refine J_aln F 0 dX9_isHinge_78 rfl rfl ?_
              refine J_gfi F (ci := 9) 27 rfl inX9 ly_244 (by decide) (by decide) rfl lf_X9_395 rfl dX9_isHinge_79 ?_
              refine J_zeq F (tgt := 87) dX9_isHinge_82 (by decide) (fun c_17 => ?_) (fun c_17 => ?_)
              · have h := h.1 c_17
                obtain ⟨x3_18, ex3_18⟩ : ∃ z : Int32, z = x3 + (nI 1) := ⟨_, rfl⟩
                have h := h x3_18 ex3_18
                refine J_iinc F (v := x3_18) (L' := [(3, .int x3_18), (0, .ref (gb G + 244)), (1, .int x1), (2, .int x2)]) 3 dX9_isHinge_87 rfl (by rw [ki_1, ex3_18]) (by decide) rfl ?_
                refine J_goto F (tgt := 10) dX9_isHinge_90 (by decide) ?_
                refine J_sub [1, 2, 3, 0] rfl ?_
                exact i10 _ _ h
              · have h := h.2 c_17
                refine J_ic F dX9_isHinge_85 ki_1 ?_
                exact J_retz F (Or.inr rfl) ⟨_, rfl, h⟩ dX9_isHinge_86
            · have h := h.2 c_11
              refine J_goto F (tgt := 87) dX9_isHinge_51 (by decide) ?_
              obtain ⟨x3_19, ex3_19⟩ : ∃ z : Int32, z = x3 + (nI 1) := ⟨_, rfl⟩
              have h := h x3_19 ex3_19
              refine J_iinc F (v := x3_19) (L' := [(3, .int x3_19), (0, .ref (gb G + 244)), (1, .int x1), (2, .int x2)]) 3 dX9_isHinge_87 rfl (by rw [ki_1, ex3_19]) (by decide) rfl ?_
              refine J_goto F (tgt := 10) dX9_isHinge_90 (by decide) ?_
              refine J_sub [1, 2, 3, 0] rfl ?_
              exact i10 _ _ h
          · have h := h.2 c_9
            refine J_goto F (tgt := 87) dX9_isHinge_35 (by decide) ?_
            obtain ⟨x3_20, ex3_20⟩ : ∃ z : Int32, z = x3 + (nI 1) := ⟨_, rfl⟩
            have h := h x3_20 ex3_20
            refine J_iinc F (v := x3_20) (L' := [(3, .int x3_20), (0, .ref (gb G + 244)), (1, .int x1), (2, .int x2)]) 3 dX9_isHinge_87 rfl (by rw [ki_1, ex3_20]) (by decide) rfl ?_
            refine J_goto F (tgt := 10) dX9_isHinge_90 (by decide) ?_
            refine J_sub [1, 2, 3, 0] rfl ?_
            exact i10 _ _ h
set_option maxRecDepth 20000 in
set_option maxHeartbeats 4000000 in
theorem wk_X9_isHinge_2 {p : Program} {l : Launch} {e : Env} {s : State} {m : MethodId} {args : Array Value} {below : List Frame} {meth : Method} {c : Code} {G : Gp} {x1 : Int32}  {Q : Int32 → St → Prop} (F : FX p s m args meth c cX9_isHinge 4 (some .boolean) RX9 G)   : ∀ (n9 : Nat) (σ : St) (x2 : Int32), LP2 (wp_X9_isHinge_2 x1 Q) n9 σ x2 → J p l e (rmF 7 167) s m args below meth c 4 G (MQ below (QQ G (qI Q)) args s 0 0 (fr G)) 0 0 2 [(0, .ref (gb G + 244)), (1, .int x1), (2, .int x2)] [] σ := by
  intro n9
  induction n9 with
  | zero => intro σ x2 h; exact h.elim
  | succ n9 i2 =>
    intro σ x2 h
    have h : wp_X9_isHinge_2 x1 Q (LP2 (wp_X9_isHinge_2 x1 Q) n9) σ x2 := h
    unfold wp_X9_isHinge_2 at h
    refine J_iln F 2 dX9_isHinge_2 rfl rfl ?_
    refine J_bi F dX9_isHinge_3 kb_10 ?_
    refine J_cge F (tgt := 99) dX9_isHinge_5 (by decide) (fun c_21 => ?_) (fun c_21 => ?_)
    · have h := h.1 c_21
      refine J_ic F dX9_isHinge_99 ki_0 ?_
      exact J_retz F (Or.inl rfl) ⟨_, rfl, h⟩ dX9_isHinge_100
    · have h := h.2 c_21
      refine J_ic F dX9_isHinge_8 ki_0 ?_
      refine J_isn F (L' := [(3, .int (nI 0)), (0, .ref (gb G + 244)), (1, .int x1), (2, .int x2)]) dX9_isHinge_9 rfl (by decide) rfl ?_
      refine J_sub [1, 2, 3, 0] rfl ?_
      obtain ⟨n9, h⟩ := h
      exact wk_X9_isHinge_10 F i2 n9 _ _ h
set_option maxRecDepth 20000 in
set_option maxHeartbeats 4000000 in
theorem C_X9_isHinge (l : Launch) (G : Gp) (x1 : Int32)  {σ : St} {Q : Int32 → St → Prop} (h : wp_X9_isHinge σ x1 Q) : Cn l yX9_isHinge cX9_isHinge 4 (some .boolean) 7 167 G [.ref (gb G + 244), .int x1] σ (qI Q) := by
  refine Cn_of (L := [(0, .ref (gb G + 244)), (1, .int x1)]) RX9 (by decide) rfl (Nat.le_of_ble_eq_true rfl) rfl ?_
  intro p e s m below meth c F
  unfold wp_X9_isHinge at h
  refine J_ic F dX9_isHinge_0 ki_0 ?_
  refine J_isn F (L' := [(2, .int (nI 0)), (0, .ref (gb G + 244)), (1, .int x1)]) dX9_isHinge_1 rfl (by decide) rfl ?_
  refine J_sub [1, 2, 0] rfl ?_
  obtain ⟨n9, h⟩ := h
  exact wk_X9_isHinge_2 F  n9 _ _ h
theorem dX9_hinges_0 : decode cX9_hinges 0 = .ok (.iconst 0, 1) := by decide +kernel
theorem dX9_hinges_1 : decode cX9_hinges 1 = .ok (.istore_n 1, 1) := by decide +kernel
theorem dX9_hinges_2 : decode cX9_hinges 2 = .ok (.iconst 0, 1) := by decide +kernel
theorem dX9_hinges_3 : decode cX9_hinges 3 = .ok (.istore_n 2, 1) := by decide +kernel
theorem dX9_hinges_4 : decode cX9_hinges 4 = .ok (.iload_n 2, 1) := by decide +kernel
theorem dX9_hinges_5 : decode cX9_hinges 5 = .ok (.bipush 10, 2) := by decide +kernel
theorem dX9_hinges_7 : decode cX9_hinges 7 = .ok (.if_icmp .ge 36, 3) := by decide +kernel
theorem dX9_hinges_10 : decode cX9_hinges 10 = .ok (.iload_n 1, 1) := by decide +kernel
theorem dX9_hinges_11 : decode cX9_hinges 11 = .ok (.aload_n 0, 1) := by decide +kernel
theorem dX9_hinges_12 : decode cX9_hinges 12 = .ok (.iload_n 2, 1) := by decide +kernel
theorem dX9_hinges_13 : decode cX9_hinges 13 = .ok (.iconst 1, 1) := by decide +kernel
theorem dX9_hinges_14 : decode cX9_hinges 14 = .ok (.invokevirtual 57, 3) := by decide +kernel
theorem dX9_hinges_17 : decode cX9_hinges 17 = .ok (.ifCond .eq 17, 3) := by decide +kernel
theorem dX9_hinges_20 : decode cX9_hinges 20 = .ok (.aload_n 0, 1) := by decide +kernel
theorem dX9_hinges_21 : decode cX9_hinges 21 = .ok (.iload_n 2, 1) := by decide +kernel
theorem dX9_hinges_22 : decode cX9_hinges 22 = .ok (.invokevirtual 460, 3) := by decide +kernel
theorem dX9_hinges_25 : decode cX9_hinges 25 = .ok (.ifCond .eq 9, 3) := by decide +kernel
theorem dX9_hinges_28 : decode cX9_hinges 28 = .ok (.iconst 1, 1) := by decide +kernel
theorem dX9_hinges_29 : decode cX9_hinges 29 = .ok (.iload_n 2, 1) := by decide +kernel
theorem dX9_hinges_30 : decode cX9_hinges 30 = .ok (.ishl, 1) := by decide +kernel
theorem dX9_hinges_31 : decode cX9_hinges 31 = .ok (.goto 4, 3) := by decide +kernel
theorem dX9_hinges_34 : decode cX9_hinges 34 = .ok (.iconst 0, 1) := by decide +kernel
theorem dX9_hinges_35 : decode cX9_hinges 35 = .ok (.ior, 1) := by decide +kernel
theorem dX9_hinges_36 : decode cX9_hinges 36 = .ok (.istore_n 1, 1) := by decide +kernel
theorem dX9_hinges_37 : decode cX9_hinges 37 = .ok (.iinc 2 1, 3) := by decide +kernel
theorem dX9_hinges_40 : decode cX9_hinges 40 = .ok (.goto (-36), 3) := by decide +kernel
theorem dX9_hinges_43 : decode cX9_hinges 43 = .ok (.iload_n 1, 1) := by decide +kernel
theorem dX9_hinges_44 : decode cX9_hinges 44 = .ok (.ireturn, 1) := by decide +kernel
set_option maxRecDepth 20000 in
set_option maxHeartbeats 4000000 in
theorem wk_X9_hinges_4 {p : Program} {l : Launch} {e : Env} {s : State} {m : MethodId} {args : Array Value} {below : List Frame} {meth : Method} {c : Code} {G : Gp}   {Q : Int32 → St → Prop} (F : FX p s m args meth c cX9_hinges 3 (some .int) RX9 G)   : ∀ (n9 : Nat) (σ : St) (x1 : Int32) (x2 : Int32), LP3 (wp_X9_hinges_4 Q) n9 σ x1 x2 → J p l e (rmF 8 190) s m args below meth c 3 G (MQ below (QQ G (qI Q)) args s 0 0 (fr G)) 0 0 4 [(0, .ref (gb G + 244)), (1, .int x1), (2, .int x2)] [] σ := by
  intro n9
  induction n9 with
  | zero => intro σ x1 x2 h; exact h.elim
  | succ n9 i4 =>
    intro σ x1 x2 h
    have h : wp_X9_hinges_4 Q (LP3 (wp_X9_hinges_4 Q) n9) σ x1 x2 := h
    unfold wp_X9_hinges_4 at h
    refine J_iln F 2 dX9_hinges_4 rfl rfl ?_
    refine J_bi F dX9_hinges_5 kb_10 ?_
    refine J_cge F (tgt := 43) dX9_hinges_7 (by decide) (fun c_1 => ?_) (fun c_1 => ?_)
    · have h := h.1 c_1
      refine J_iln F 1 dX9_hinges_43 rfl rfl ?_
      exact J_reti F ⟨_, rfl, h⟩ dX9_hinges_44
    · have h := h.2 c_1
      refine J_iln F 1 dX9_hinges_10 rfl rfl ?_
      refine J_aln F 0 dX9_hinges_11 rfl rfl ?_
      refine J_iln F 2 dX9_hinges_12 rfl rfl ?_
      refine J_ic F dX9_hinges_13 ki_1 ?_
      refine J_callVi F (As := [.int x2, .int (nI 1)]) (st := [.int x1]) (C_X9_isState l G x2 (nI 1)  h) (ci := 9) ly_244 (by decide) rfl rfl lm_X9_57 li_X9_isState ls_X9_isState ini_X9 lc_X9_isState hd_X9_isState (by decide) (Nat.le_of_ble_eq_true rfl) (by decide) rfl dX9_hinges_14 (fun r_2 σ_3 hh => ?_)
      clear h
      obtain ⟨e9, h⟩ := hh
      subst σ_3
      refine J_zeq F (tgt := 34) dX9_hinges_17 (by decide) (fun c_4 => ?_) (fun c_4 => ?_)
      · have h := h.1 c_4
        refine J_ic F dX9_hinges_34 ki_0 ?_
        refine J_ior F dX9_hinges_35 ?_
        refine J_top (fun x1_5 ex1_5 => ?_)
        have h := h x1_5 ex1_5
        refine J_isn F (L' := [(1, .int x1_5), (0, .ref (gb G + 244)), (2, .int x2)]) dX9_hinges_36 rfl (by decide) rfl ?_
        obtain ⟨x2_6, ex2_6⟩ : ∃ z : Int32, z = x2 + (nI 1) := ⟨_, rfl⟩
        have h := h x2_6 ex2_6
        refine J_iinc F (v := x2_6) (L' := [(2, .int x2_6), (1, .int x1_5), (0, .ref (gb G + 244))]) 2 dX9_hinges_37 rfl (by rw [ki_1, ex2_6]) (by decide) rfl ?_
        refine J_goto F (tgt := 4) dX9_hinges_40 (by decide) ?_
        refine J_sub [2, 1, 0] rfl ?_
        exact i4 _ _ _ h
      · have h := h.2 c_4
        refine J_aln F 0 dX9_hinges_20 rfl rfl ?_
        refine J_iln F 2 dX9_hinges_21 rfl rfl ?_
        refine J_callVi F (As := [.int x2]) (st := [.int x1]) (C_X9_isHinge l G x2  h) (ci := 9) ly_244 (by decide) rfl rfl lm_X9_460 li_X9_isHinge ls_X9_isHinge ini_X9 lc_X9_isHinge hd_X9_isHinge (by decide) (Nat.le_of_ble_eq_true rfl) (by decide) rfl dX9_hinges_22 (fun r_7 σ_8 h => ?_)
        refine J_zeq F (tgt := 34) dX9_hinges_25 (by decide) (fun c_9 => ?_) (fun c_9 => ?_)
        · have h := h.1 c_9
          refine J_ic F dX9_hinges_34 ki_0 ?_
          refine J_ior F dX9_hinges_35 ?_
          refine J_top (fun x1_10 ex1_10 => ?_)
          have h := h x1_10 ex1_10
          refine J_isn F (L' := [(1, .int x1_10), (0, .ref (gb G + 244)), (2, .int x2)]) dX9_hinges_36 rfl (by decide) rfl ?_
          obtain ⟨x2_11, ex2_11⟩ : ∃ z : Int32, z = x2 + (nI 1) := ⟨_, rfl⟩
          have h := h x2_11 ex2_11
          refine J_iinc F (v := x2_11) (L' := [(2, .int x2_11), (1, .int x1_10), (0, .ref (gb G + 244))]) 2 dX9_hinges_37 rfl (by rw [ki_1, ex2_11]) (by decide) rfl ?_
          refine J_goto F (tgt := 4) dX9_hinges_40 (by decide) ?_
          refine J_sub [2, 1, 0] rfl ?_
          exact i4 _ _ _ h
        · have h := h.2 c_9
          refine J_ic F dX9_hinges_28 ki_1 ?_
          refine J_iln F 2 dX9_hinges_29 rfl rfl ?_
          refine J_ishl F dX9_hinges_30 ?_
          refine J_goto F (tgt := 35) dX9_hinges_31 (by decide) ?_
          refine J_ior F dX9_hinges_35 ?_
          refine J_top (fun x1_12 ex1_12 => ?_)
          have h := h x1_12 ex1_12
          refine J_isn F (L' := [(1, .int x1_12), (0, .ref (gb G + 244)), (2, .int x2)]) dX9_hinges_36 rfl (by decide) rfl ?_
          obtain ⟨x2_13, ex2_13⟩ : ∃ z : Int32, z = x2 + (nI 1) := ⟨_, rfl⟩
          have h := h x2_13 ex2_13
          refine J_iinc F (v := x2_13) (L' := [(2, .int x2_13), (1, .int x1_12), (0, .ref (gb G + 244))]) 2 dX9_hinges_37 rfl (by rw [ki_1, ex2_13]) (by decide) rfl ?_
          refine J_goto F (tgt := 4) dX9_hinges_40 (by decide) ?_
          refine J_sub [2, 1, 0] rfl ?_
          exact i4 _ _ _ h
set_option maxRecDepth 20000 in
set_option maxHeartbeats 4000000 in
theorem C_X9_hinges (l : Launch) (G : Gp)   {σ : St} {Q : Int32 → St → Prop} (h : wp_X9_hinges σ  Q) : Cn l yX9_hinges cX9_hinges 3 (some .int) 8 190 G [.ref (gb G + 244)] σ (qI Q) := by
  refine Cn_of (L := [(0, .ref (gb G + 244))]) RX9 (by decide) rfl (Nat.le_of_ble_eq_true rfl) rfl ?_
  intro p e s m below meth c F
  unfold wp_X9_hinges at h
  refine J_ic F dX9_hinges_0 ki_0 ?_
  refine J_isn F (L' := [(1, .int (nI 0)), (0, .ref (gb G + 244))]) dX9_hinges_1 rfl (by decide) rfl ?_
  refine J_ic F dX9_hinges_2 ki_0 ?_
  refine J_isn F (L' := [(2, .int (nI 0)), (1, .int (nI 0)), (0, .ref (gb G + 244))]) dX9_hinges_3 rfl (by decide) rfl ?_
  refine J_sub [2, 1, 0] rfl ?_
  obtain ⟨n9, h⟩ := h
  exact wk_X9_hinges_4 F  n9 _ _ _ h
theorem dX9_spot_0 : decode cX9_spot 0 = .ok (.iconst (-1), 1) := by decide +kernel
theorem dX9_spot_1 : decode cX9_spot 1 = .ok (.istore_n 1, 1) := by decide +kernel
theorem dX9_spot_2 : decode cX9_spot 2 = .ok (.iconst 0, 1) := by decide +kernel
theorem dX9_spot_3 : decode cX9_spot 3 = .ok (.istore_n 2, 1) := by decide +kernel
theorem dX9_spot_4 : decode cX9_spot 4 = .ok (.iload_n 2, 1) := by decide +kernel
theorem dX9_spot_5 : decode cX9_spot 5 = .ok (.aload_n 0, 1) := by decide +kernel
theorem dX9_spot_6 : decode cX9_spot 6 = .ok (.getfield 113, 3) := by decide +kernel
theorem dX9_spot_9 : decode cX9_spot 9 = .ok (.if_icmp .ge 51, 3) := by decide +kernel
theorem dX9_spot_12 : decode cX9_spot 12 = .ok (.aload_n 0, 1) := by decide +kernel
theorem dX9_spot_13 : decode cX9_spot 13 = .ok (.aload_n 0, 1) := by decide +kernel
theorem dX9_spot_14 : decode cX9_spot 14 = .ok (.getfield 33, 3) := by decide +kernel
theorem dX9_spot_17 : decode cX9_spot 17 = .ok (.iload_n 2, 1) := by decide +kernel
theorem dX9_spot_18 : decode cX9_spot 18 = .ok (.iaload, 1) := by decide +kernel
theorem dX9_spot_19 : decode cX9_spot 19 = .ok (.iconst 1, 1) := by decide +kernel
theorem dX9_spot_20 : decode cX9_spot 20 = .ok (.invokevirtual 57, 3) := by decide +kernel
theorem dX9_spot_23 : decode cX9_spot 23 = .ok (.ifCond .eq 31, 3) := by decide +kernel
theorem dX9_spot_26 : decode cX9_spot 26 = .ok (.iload_n 1, 1) := by decide +kernel
theorem dX9_spot_27 : decode cX9_spot 27 = .ok (.iconst (-1), 1) := by decide +kernel
theorem dX9_spot_28 : decode cX9_spot 28 = .ok (.if_icmp .eq 19, 3) := by decide +kernel
theorem dX9_spot_31 : decode cX9_spot 31 = .ok (.aload_n 0, 1) := by decide +kernel
theorem dX9_spot_32 : decode cX9_spot 32 = .ok (.getfield 30, 3) := by decide +kernel
theorem dX9_spot_35 : decode cX9_spot 35 = .ok (.iload_n 2, 1) := by decide +kernel
theorem dX9_spot_36 : decode cX9_spot 36 = .ok (.iaload, 1) := by decide +kernel
theorem dX9_spot_37 : decode cX9_spot 37 = .ok (.invokestatic 73, 3) := by decide +kernel
theorem dX9_spot_40 : decode cX9_spot 40 = .ok (.iload_n 1, 1) := by decide +kernel
theorem dX9_spot_41 : decode cX9_spot 41 = .ok (.invokestatic 73, 3) := by decide +kernel
theorem dX9_spot_44 : decode cX9_spot 44 = .ok (.if_icmp .ge 10, 3) := by decide +kernel
theorem dX9_spot_47 : decode cX9_spot 47 = .ok (.aload_n 0, 1) := by decide +kernel
theorem dX9_spot_48 : decode cX9_spot 48 = .ok (.getfield 30, 3) := by decide +kernel
theorem dX9_spot_51 : decode cX9_spot 51 = .ok (.iload_n 2, 1) := by decide +kernel
theorem dX9_spot_52 : decode cX9_spot 52 = .ok (.iaload, 1) := by decide +kernel
theorem dX9_spot_53 : decode cX9_spot 53 = .ok (.istore_n 1, 1) := by decide +kernel
theorem dX9_spot_54 : decode cX9_spot 54 = .ok (.iinc 2 1, 3) := by decide +kernel
theorem dX9_spot_57 : decode cX9_spot 57 = .ok (.goto (-53), 3) := by decide +kernel
theorem dX9_spot_60 : decode cX9_spot 60 = .ok (.iload_n 1, 1) := by decide +kernel
theorem dX9_spot_61 : decode cX9_spot 61 = .ok (.ireturn, 1) := by decide +kernel
set_option maxRecDepth 20000 in
set_option maxHeartbeats 4000000 in
theorem wk_X9_spot_4 {p : Program} {l : Launch} {e : Env} {s : State} {m : MethodId} {args : Array Value} {below : List Frame} {meth : Method} {c : Code} {G : Gp} {σ : St}   {Q : Int32 → Prop} (F : FX p s m args meth c cX9_spot 3 (some .int) RX9 G)   : ∀ (n9 : Nat) (x1 : Int32) (x2 : Int32), LP2 (wp_X9_spot_4 σ Q) n9 x1 x2 → J p l e (rmF 1 22) s m args below meth c 3 G (MQ below (QQ G (qI (fun r σ' => σ' = σ ∧ Q r))) args s 0 0 (fr G)) 0 0 4 [(0, .ref (gb G + 244)), (1, .int x1), (2, .int x2)] [] σ := by
  intro n9
  induction n9 with
  | zero => intro x1 x2 h; exact h.elim
  | succ n9 i4 =>
    intro x1 x2 h
    have h : wp_X9_spot_4 σ Q (LP2 (wp_X9_spot_4 σ Q) n9) x1 x2 := h
    unfold wp_X9_spot_4 at h
    refine J_iln F 2 dX9_spot_4 rfl rfl ?_
    refine J_aln F 0 dX9_spot_5 rfl rfl ?_
    refine J_gfi F (ci := 9) 23 rfl inX9 ly_244 (by decide) (by decide) rfl lf_X9_113 rfl dX9_spot_6 ?_
    refine J_cge F (tgt := 60) dX9_spot_9 (by decide) (fun c_1 => ?_) (fun c_1 => ?_)
    · have h := h.1 c_1
      refine J_iln F 1 dX9_spot_60 rfl rfl ?_
      exact J_reti F ⟨_, rfl, rfl, h⟩ dX9_spot_61
    · have h := h.2 c_1
      refine J_aln F 0 dX9_spot_12 rfl rfl ?_
      refine J_aln F 0 dX9_spot_13 rfl rfl ?_
      refine J_gfa F (ci := 9) 18 rfl inX9 ly_244 (by decide) (by decide) rfl lf_X9_33 rfl dX9_spot_14 ?_
      refine J_iln F 2 dX9_spot_17 rfl rfl ?_
      obtain ⟨h_2, h⟩ := h
      refine J_iald F ly_251 h_2 dX9_spot_18 ?_
      refine J_ic F dX9_spot_19 ki_1 ?_
      refine J_callVi F (As := [.int (σ 251 (Int32.toNatClampNeg x2)), .int (nI 1)]) (st := []) (C_X9_isState l G (σ 251 (Int32.toNatClampNeg x2)) (nI 1)  h) (ci := 9) ly_244 (by decide) rfl rfl lm_X9_57 li_X9_isState ls_X9_isState ini_X9 lc_X9_isState hd_X9_isState (by decide) (Nat.le_of_ble_eq_true rfl) (by decide) rfl dX9_spot_20 (fun r_3 σ_4 hh => ?_)
      clear h
      obtain ⟨e9, h⟩ := hh
      subst σ_4
      refine J_zeq F (tgt := 54) dX9_spot_23 (by decide) (fun c_5 => ?_) (fun c_5 => ?_)
      · have h := h.1 c_5
        obtain ⟨x2_6, ex2_6⟩ : ∃ z : Int32, z = x2 + (nI 1) := ⟨_, rfl⟩
        have h := h x2_6 ex2_6
        refine J_iinc F (v := x2_6) (L' := [(2, .int x2_6), (0, .ref (gb G + 244)), (1, .int x1)]) 2 dX9_spot_54 rfl (by rw [ki_1, ex2_6]) (by decide) rfl ?_
        refine J_goto F (tgt := 4) dX9_spot_57 (by decide) ?_
        refine J_sub [1, 2, 0] rfl ?_
        exact i4 _ _ h
      · have h := h.2 c_5
        refine J_iln F 1 dX9_spot_26 rfl rfl ?_
        refine J_ic F dX9_spot_27 ki_m1 ?_
        refine J_ceq F (tgt := 47) dX9_spot_28 (by decide) (fun c_7 => ?_) (fun c_7 => ?_)
        · have h := h.1 c_7
          refine J_aln F 0 dX9_spot_47 rfl rfl ?_
          refine J_gfa F (ci := 9) 17 rfl inX9 ly_244 (by decide) (by decide) rfl lf_X9_30 rfl dX9_spot_48 ?_
          refine J_iln F 2 dX9_spot_51 rfl rfl ?_
          obtain ⟨h_8, h⟩ := h
          refine J_iald F ly_250 h_8 dX9_spot_52 ?_
          refine J_top (fun x1_9 ex1_9 => ?_)
          have h := h x1_9 ex1_9
          refine J_isn F (L' := [(1, .int x1_9), (0, .ref (gb G + 244)), (2, .int x2)]) dX9_spot_53 rfl (by decide) rfl ?_
          obtain ⟨x2_10, ex2_10⟩ : ∃ z : Int32, z = x2 + (nI 1) := ⟨_, rfl⟩
          have h := h x2_10 ex2_10
          refine J_iinc F (v := x2_10) (L' := [(2, .int x2_10), (1, .int x1_9), (0, .ref (gb G + 244))]) 2 dX9_spot_54 rfl (by rw [ki_1, ex2_10]) (by decide) rfl ?_
          refine J_goto F (tgt := 4) dX9_spot_57 (by decide) ?_
          refine J_sub [2, 1, 0] rfl ?_
          exact i4 _ _ h
        · have h := h.2 c_7
          refine J_aln F 0 dX9_spot_31 rfl rfl ?_
          refine J_gfa F (ci := 9) 17 rfl inX9 ly_244 (by decide) (by decide) rfl lf_X9_30 rfl dX9_spot_32 ?_
          refine J_iln F 2 dX9_spot_35 rfl rfl ?_
          obtain ⟨h_11, h⟩ := h
          refine J_iald F ly_250 h_11 dX9_spot_36 ?_
          refine J_callSi F (As := [.int (σ 250 (Int32.toNatClampNeg x2))]) (st := []) (C_X9_depthOf l G (σ 250 (Int32.toNatClampNeg x2))  h) lm_X9_73 li_X9_depthOf ini_X9 lc_X9_depthOf hd_X9_depthOf (by decide) (Nat.le_of_ble_eq_true rfl) (by decide) rfl dX9_spot_37 (fun r_12 σ_13 hh => ?_)
          clear h
          obtain ⟨e9, h⟩ := hh
          subst σ_13
          refine J_iln F 1 dX9_spot_40 rfl rfl ?_
          refine J_callSi F (As := [.int x1]) (st := [.int r_12]) (C_X9_depthOf l G x1  h) lm_X9_73 li_X9_depthOf ini_X9 lc_X9_depthOf hd_X9_depthOf (by decide) (Nat.le_of_ble_eq_true rfl) (by decide) rfl dX9_spot_41 (fun r_14 σ_15 hh => ?_)
          clear h
          obtain ⟨e9, h⟩ := hh
          subst σ_15
          refine J_cge F (tgt := 54) dX9_spot_44 (by decide) (fun c_16 => ?_) (fun c_16 => ?_)
          · have h := h.1 c_16
            obtain ⟨x2_17, ex2_17⟩ : ∃ z : Int32, z = x2 + (nI 1) := ⟨_, rfl⟩
            have h := h x2_17 ex2_17
            refine J_iinc F (v := x2_17) (L' := [(2, .int x2_17), (0, .ref (gb G + 244)), (1, .int x1)]) 2 dX9_spot_54 rfl (by rw [ki_1, ex2_17]) (by decide) rfl ?_
            refine J_goto F (tgt := 4) dX9_spot_57 (by decide) ?_
            refine J_sub [1, 2, 0] rfl ?_
            exact i4 _ _ h
          · have h := h.2 c_16
            refine J_aln F 0 dX9_spot_47 rfl rfl ?_
            refine J_gfa F (ci := 9) 17 rfl inX9 ly_244 (by decide) (by decide) rfl lf_X9_30 rfl dX9_spot_48 ?_
            refine J_iln F 2 dX9_spot_51 rfl rfl ?_
            obtain ⟨h_18, h⟩ := h
            refine J_iald F ly_250 h_18 dX9_spot_52 ?_
            refine J_top (fun x1_19 ex1_19 => ?_)
            have h := h x1_19 ex1_19
            refine J_isn F (L' := [(1, .int x1_19), (0, .ref (gb G + 244)), (2, .int x2)]) dX9_spot_53 rfl (by decide) rfl ?_
            obtain ⟨x2_20, ex2_20⟩ : ∃ z : Int32, z = x2 + (nI 1) := ⟨_, rfl⟩
            have h := h x2_20 ex2_20
            refine J_iinc F (v := x2_20) (L' := [(2, .int x2_20), (1, .int x1_19), (0, .ref (gb G + 244))]) 2 dX9_spot_54 rfl (by rw [ki_1, ex2_20]) (by decide) rfl ?_
            refine J_goto F (tgt := 4) dX9_spot_57 (by decide) ?_
            refine J_sub [2, 1, 0] rfl ?_
            exact i4 _ _ h
set_option maxRecDepth 20000 in
set_option maxHeartbeats 4000000 in
theorem C_X9_spot (l : Launch) (G : Gp)   {σ : St} {Q : Int32 → Prop} (h : wp_X9_spot σ  Q) : Cn l yX9_spot cX9_spot 3 (some .int) 1 22 G [.ref (gb G + 244)] σ (qI (fun r σ' => σ' = σ ∧ Q r)) := by
  refine Cn_of (L := [(0, .ref (gb G + 244))]) RX9 (by decide) rfl (Nat.le_of_ble_eq_true rfl) rfl ?_
  intro p e s m below meth c F
  unfold wp_X9_spot at h
  refine J_ic F dX9_spot_0 ki_m1 ?_
  refine J_isn F (L' := [(1, .int (-1)), (0, .ref (gb G + 244))]) dX9_spot_1 rfl (by decide) rfl ?_
  refine J_ic F dX9_spot_2 ki_0 ?_
  refine J_isn F (L' := [(2, .int (nI 0)), (1, .int (-1)), (0, .ref (gb G + 244))]) dX9_spot_3 rfl (by decide) rfl ?_
  refine J_sub [2, 1, 0] rfl ?_
  obtain ⟨n9, h⟩ := h
  exact wk_X9_spot_4 F  n9 _ _ h
theorem dX9_ways_0 : decode cX9_ways 0 = .ok (.aload_n 0, 1) := by decide +kernel
theorem dX9_ways_1 : decode cX9_ways 1 = .ok (.aload_n 0, 1) := by decide +kernel
theorem dX9_ways_2 : decode cX9_ways 2 = .ok (.iload_n 1, 1) := by decide +kernel
theorem dX9_ways_3 : decode cX9_ways 3 = .ok (.invokevirtual 370, 3) := by decide +kernel
theorem dX9_ways_6 : decode cX9_ways 6 = .ok (.ifCond .ne 7, 3) := by decide +kernel
theorem dX9_ways_9 : decode cX9_ways 9 = .ok (.iconst 1, 1) := by decide +kernel
theorem dX9_ways_10 : decode cX9_ways 10 = .ok (.goto 17, 3) := by decide +kernel
theorem dX9_ways_13 : decode cX9_ways 13 = .ok (.iload_n 2, 1) := by decide +kernel
theorem dX9_ways_14 : decode cX9_ways 14 = .ok (.iconst 0, 1) := by decide +kernel
theorem dX9_ways_15 : decode cX9_ways 15 = .ok (.iconst 3, 1) := by decide +kernel
theorem dX9_ways_16 : decode cX9_ways 16 = .ok (.invokestatic 77, 3) := by decide +kernel
theorem dX9_ways_19 : decode cX9_ways 19 = .ok (.ifCond .ne 7, 3) := by decide +kernel
theorem dX9_ways_22 : decode cX9_ways 22 = .ok (.iconst 2, 1) := by decide +kernel
theorem dX9_ways_23 : decode cX9_ways 23 = .ok (.goto 4, 3) := by decide +kernel
theorem dX9_ways_26 : decode cX9_ways 26 = .ok (.iconst 0, 1) := by decide +kernel
theorem dX9_ways_27 : decode cX9_ways 27 = .ok (.putfield 54, 3) := by decide +kernel
theorem dX9_ways_30 : decode cX9_ways 30 = .ok (.aload_n 0, 1) := by decide +kernel
theorem dX9_ways_31 : decode cX9_ways 31 = .ok (.getfield 54, 3) := by decide +kernel
theorem dX9_ways_34 : decode cX9_ways 34 = .ok (.ifCond .le 5, 3) := by decide +kernel
theorem dX9_ways_37 : decode cX9_ways 37 = .ok (.iconst 0, 1) := by decide +kernel
theorem dX9_ways_38 : decode cX9_ways 38 = .ok (.ireturn, 1) := by decide +kernel
theorem dX9_ways_39 : decode cX9_ways 39 = .ok (.aload_n 0, 1) := by decide +kernel
theorem dX9_ways_40 : decode cX9_ways 40 = .ok (.iload_n 1, 1) := by decide +kernel
theorem dX9_ways_41 : decode cX9_ways 41 = .ok (.invokevirtual 132, 3) := by decide +kernel
theorem dX9_ways_44 : decode cX9_ways 44 = .ok (.iload_n 2, 1) := by decide +kernel
theorem dX9_ways_45 : decode cX9_ways 45 = .ok (.iconst 2, 1) := by decide +kernel
theorem dX9_ways_46 : decode cX9_ways 46 = .ok (.if_icmp .ne 8, 3) := by decide +kernel
theorem dX9_ways_49 : decode cX9_ways 49 = .ok (.aload_n 0, 1) := by decide +kernel
theorem dX9_ways_50 : decode cX9_ways 50 = .ok (.invokevirtual 463, 3) := by decide +kernel
theorem dX9_ways_53 : decode cX9_ways 53 = .ok (.ireturn, 1) := by decide +kernel
theorem dX9_ways_54 : decode cX9_ways 54 = .ok (.iload_n 2, 1) := by decide +kernel
theorem dX9_ways_55 : decode cX9_ways 55 = .ok (.iconst 3, 1) := by decide +kernel
theorem dX9_ways_56 : decode cX9_ways 56 = .ok (.if_icmp .ne 8, 3) := by decide +kernel
theorem dX9_ways_59 : decode cX9_ways 59 = .ok (.aload_n 0, 1) := by decide +kernel
theorem dX9_ways_60 : decode cX9_ways 60 = .ok (.invokevirtual 466, 3) := by decide +kernel
theorem dX9_ways_63 : decode cX9_ways 63 = .ok (.ireturn, 1) := by decide +kernel
theorem dX9_ways_64 : decode cX9_ways 64 = .ok (.aload_n 0, 1) := by decide +kernel
theorem dX9_ways_65 : decode cX9_ways 65 = .ok (.invokevirtual 451, 3) := by decide +kernel
theorem dX9_ways_68 : decode cX9_ways 68 = .ok (.iload_n 2, 1) := by decide +kernel
theorem dX9_ways_69 : decode cX9_ways 69 = .ok (.ifCond .ne 10, 3) := by decide +kernel
theorem dX9_ways_72 : decode cX9_ways 72 = .ok (.aload_n 0, 1) := by decide +kernel
theorem dX9_ways_73 : decode cX9_ways 73 = .ok (.getfield 436, 3) := by decide +kernel
theorem dX9_ways_76 : decode cX9_ways 76 = .ok (.goto 7, 3) := by decide +kernel
theorem dX9_ways_79 : decode cX9_ways 79 = .ok (.aload_n 0, 1) := by decide +kernel
theorem dX9_ways_80 : decode cX9_ways 80 = .ok (.getfield 439, 3) := by decide +kernel
theorem dX9_ways_83 : decode cX9_ways 83 = .ok (.ireturn, 1) := by decide +kernel
set_option maxRecDepth 20000 in
set_option maxHeartbeats 4000000 in
theorem wk_X9_ways_27 {p : Program} {l : Launch} {e : Env} {s : State} {m : MethodId} {args : Array Value} {below : List Frame} {meth : Method} {c : Code} {G : Gp} {σ : St} {x1 : Int32} {x2 : Int32} {t1 : Int32}  {Q : Int32 → St → Prop} (F : FX p s m args meth c cX9_ways 3 (some .int) RX9 G)   (h : wp_X9_ways_27 σ x1 x2 t1 Q) : J p l e (rmF 9 212) s m args below meth c 3 G (MQ below (QQ G (qI Q)) args s 0 0 (fr G)) 0 0 27 [(0, .ref (gb G + 244)), (1, .int x1), (2, .int x2)] [.int t1, .ref (gb G + 244)] σ := by
  unfold wp_X9_ways_27 at h
  refine J_pfi F (ci := 9) 0 rfl inX9 tyX9 tyX9_ok nmX9 ly_244 (by decide) (by decide) rfl lf_X9_54 rfl rfl (tyX9_ok 0 (by decide)) rfl rfl dX9_ways_27 ?_
  refine J_st (fun σ_1 eσ_1 => ?_)
  have h := h σ_1 eσ_1
  refine J_aln F 0 dX9_ways_30 rfl rfl ?_
  refine J_gfi F (ci := 9) 0 rfl inX9 ly_244 (by decide) (by decide) rfl lf_X9_54 rfl dX9_ways_31 ?_
  refine J_zle F (tgt := 39) dX9_ways_34 (by decide) (fun c_2 => ?_) (fun c_2 => ?_)
  · have h := h.1 c_2
    refine J_aln F 0 dX9_ways_39 rfl rfl ?_
    refine J_iln F 1 dX9_ways_40 rfl rfl ?_
    refine J_callVv F (As := [.int x1]) (st := []) (C_X9_laysList l G x1  h) (ci := 9) ly_244 (by decide) rfl rfl lm_X9_132 li_X9_laysList ls_X9_laysList ini_X9 lc_X9_laysList hd_X9_laysList (by decide) (Nat.le_of_ble_eq_true rfl) (by decide) rfl dX9_ways_41 (fun σ_3 h => ?_)
    refine J_iln F 2 dX9_ways_44 rfl rfl ?_
    refine J_ic F dX9_ways_45 ki_2 ?_
    refine J_cne F (tgt := 54) dX9_ways_46 (by decide) (fun c_4 => ?_) (fun c_4 => ?_)
    · have h := h.1 c_4
      refine J_iln F 2 dX9_ways_54 rfl rfl ?_
      refine J_ic F dX9_ways_55 ki_3 ?_
      refine J_cne F (tgt := 64) dX9_ways_56 (by decide) (fun c_5 => ?_) (fun c_5 => ?_)
      · have h := h.1 c_5
        refine J_aln F 0 dX9_ways_64 rfl rfl ?_
        refine J_callVv F (As := []) (st := []) (C_X9_allWays l G   h) (ci := 9) ly_244 (by decide) rfl rfl lm_X9_451 li_X9_allWays ls_X9_allWays ini_X9 lc_X9_allWays hd_X9_allWays (by decide) (Nat.le_of_ble_eq_true rfl) (by decide) rfl dX9_ways_65 (fun σ_6 h => ?_)
        refine J_iln F 2 dX9_ways_68 rfl rfl ?_
        refine J_zne F (tgt := 79) dX9_ways_69 (by decide) (fun c_7 => ?_) (fun c_7 => ?_)
        · have h := h.1 c_7
          refine J_aln F 0 dX9_ways_79 rfl rfl ?_
          refine J_gfi F (ci := 9) 32 rfl inX9 ly_244 (by decide) (by decide) rfl lf_X9_439 rfl dX9_ways_80 ?_
          exact J_reti F ⟨_, rfl, h⟩ dX9_ways_83
        · have h := h.2 c_7
          refine J_aln F 0 dX9_ways_72 rfl rfl ?_
          refine J_gfi F (ci := 9) 31 rfl inX9 ly_244 (by decide) (by decide) rfl lf_X9_436 rfl dX9_ways_73 ?_
          refine J_goto F (tgt := 83) dX9_ways_76 (by decide) ?_
          exact J_reti F ⟨_, rfl, h⟩ dX9_ways_83
      · have h := h.2 c_5
        refine J_aln F 0 dX9_ways_59 rfl rfl ?_
        refine J_callVi F (As := []) (st := []) (C_X9_spot l G   h) (ci := 9) ly_244 (by decide) rfl rfl lm_X9_466 li_X9_spot ls_X9_spot ini_X9 lc_X9_spot hd_X9_spot (by decide) (Nat.le_of_ble_eq_true rfl) (by decide) rfl dX9_ways_60 (fun r_8 σ_9 hh => ?_)
        clear h
        obtain ⟨e9, h⟩ := hh
        subst σ_9
        exact J_reti F ⟨_, rfl, h⟩ dX9_ways_63
    · have h := h.2 c_4
      refine J_aln F 0 dX9_ways_49 rfl rfl ?_
      refine J_callVi F (As := []) (st := []) (C_X9_hinges l G   h) (ci := 9) ly_244 (by decide) rfl rfl lm_X9_463 li_X9_hinges ls_X9_hinges ini_X9 lc_X9_hinges hd_X9_hinges (by decide) (Nat.le_of_ble_eq_true rfl) (by decide) rfl dX9_ways_50 (fun r_10 σ_11 h => ?_)
      exact J_reti F ⟨_, rfl, h⟩ dX9_ways_53
  · have h := h.2 c_2
    refine J_ic F dX9_ways_37 ki_0 ?_
    exact J_reti F ⟨_, rfl, h⟩ dX9_ways_38
set_option maxRecDepth 20000 in
set_option maxHeartbeats 4000000 in
theorem C_X9_ways (l : Launch) (G : Gp) (x1 : Int32) (x2 : Int32)  {σ : St} {Q : Int32 → St → Prop} (h : wp_X9_ways σ x1 x2 Q) : Cn l yX9_ways cX9_ways 3 (some .int) 9 212 G [.ref (gb G + 244), .int x1, .int x2] σ (qI Q) := by
  refine Cn_of (L := [(0, .ref (gb G + 244)), (1, .int x1), (2, .int x2)]) RX9 (by decide) rfl (Nat.le_of_ble_eq_true rfl) rfl ?_
  intro p e s m below meth c F
  unfold wp_X9_ways at h
  refine J_aln F 0 dX9_ways_0 rfl rfl ?_
  refine J_aln F 0 dX9_ways_1 rfl rfl ?_
  refine J_iln F 1 dX9_ways_2 rfl rfl ?_
  refine J_callVi F (As := [.int x1]) (st := [.ref (gb G + 244)]) (C_X9_isReality l G x1  h) (ci := 9) ly_244 (by decide) rfl rfl lm_X9_370 li_X9_isReality ls_X9_isReality ini_X9 lc_X9_isReality hd_X9_isReality (by decide) (Nat.le_of_ble_eq_true rfl) (by decide) rfl dX9_ways_3 (fun r_12 σ_13 hh => ?_)
  clear h
  obtain ⟨e9, h⟩ := hh
  subst σ_13
  refine J_zne F (tgt := 13) dX9_ways_6 (by decide) (fun c_14 => ?_) (fun c_14 => ?_)
  · have h := h.1 c_14
    refine J_iln F 2 dX9_ways_13 rfl rfl ?_
    refine J_ic F dX9_ways_14 ki_0 ?_
    refine J_ic F dX9_ways_15 ki_3 ?_
    refine J_callSi F (As := [.int x2, .int (nI 0), .int (nI 3)]) (st := [.ref (gb G + 244)]) (C_X9_isIn l G x2 (nI 0) (nI 3)  h) lm_X9_77 li_X9_isIn ini_X9 lc_X9_isIn hd_X9_isIn (by decide) (Nat.le_of_ble_eq_true rfl) (by decide) rfl dX9_ways_16 (fun r_15 σ_16 hh => ?_)
    clear h
    obtain ⟨e9, h⟩ := hh
    subst σ_16
    refine J_zne F (tgt := 26) dX9_ways_19 (by decide) (fun c_17 => ?_) (fun c_17 => ?_)
    · have h := h.1 c_17
      refine J_ic F dX9_ways_26 ki_0 ?_
      exact wk_X9_ways_27 F  h
    · have h := h.2 c_17
      refine J_ic F dX9_ways_22 ki_2 ?_
      refine J_goto F (tgt := 27) dX9_ways_23 (by decide) ?_
      exact wk_X9_ways_27 F  h
  · have h := h.2 c_14
    refine J_ic F dX9_ways_9 ki_1 ?_
    refine J_goto F (tgt := 27) dX9_ways_10 (by decide) ?_
    exact wk_X9_ways_27 F  h
theorem dX9_friends_0 : decode cX9_friends 0 = .ok (.aload_n 0, 1) := by decide +kernel
theorem dX9_friends_1 : decode cX9_friends 1 = .ok (.iload_n 1, 1) := by decide +kernel
theorem dX9_friends_2 : decode cX9_friends 2 = .ok (.invokestatic 354, 3) := by decide +kernel
theorem dX9_friends_5 : decode cX9_friends 5 = .ok (.ifCond .eq 7, 3) := by decide +kernel
theorem dX9_friends_8 : decode cX9_friends 8 = .ok (.iconst 0, 1) := by decide +kernel
theorem dX9_friends_9 : decode cX9_friends 9 = .ok (.goto 4, 3) := by decide +kernel
theorem dX9_friends_12 : decode cX9_friends 12 = .ok (.iconst 1, 1) := by decide +kernel
theorem dX9_friends_13 : decode cX9_friends 13 = .ok (.putfield 54, 3) := by decide +kernel
theorem dX9_friends_16 : decode cX9_friends 16 = .ok (.aload_n 0, 1) := by decide +kernel
theorem dX9_friends_17 : decode cX9_friends 17 = .ok (.getfield 54, 3) := by decide +kernel
theorem dX9_friends_20 : decode cX9_friends 20 = .ok (.ifCond .le 5, 3) := by decide +kernel
theorem dX9_friends_23 : decode cX9_friends 23 = .ok (.iconst 0, 1) := by decide +kernel
theorem dX9_friends_24 : decode cX9_friends 24 = .ok (.ireturn, 1) := by decide +kernel
theorem dX9_friends_25 : decode cX9_friends 25 = .ok (.sipush 1023, 3) := by decide +kernel
theorem dX9_friends_28 : decode cX9_friends 28 = .ok (.istore_n 2, 1) := by decide +kernel
theorem dX9_friends_29 : decode cX9_friends 29 = .ok (.iconst 0, 1) := by decide +kernel
theorem dX9_friends_30 : decode cX9_friends 30 = .ok (.istore_n 3, 1) := by decide +kernel
theorem dX9_friends_31 : decode cX9_friends 31 = .ok (.iload_n 3, 1) := by decide +kernel
theorem dX9_friends_32 : decode cX9_friends 32 = .ok (.aload_n 0, 1) := by decide +kernel
theorem dX9_friends_33 : decode cX9_friends 33 = .ok (.getfield 7, 3) := by decide +kernel
theorem dX9_friends_36 : decode cX9_friends 36 = .ok (.bipush 37, 2) := by decide +kernel
theorem dX9_friends_38 : decode cX9_friends 38 = .ok (.iaload, 1) := by decide +kernel
theorem dX9_friends_39 : decode cX9_friends 39 = .ok (.if_icmp .ge 22, 3) := by decide +kernel
theorem dX9_friends_42 : decode cX9_friends 42 = .ok (.aload_n 0, 1) := by decide +kernel
theorem dX9_friends_43 : decode cX9_friends 43 = .ok (.iload_n 3, 1) := by decide +kernel
theorem dX9_friends_44 : decode cX9_friends 44 = .ok (.invokevirtual 132, 3) := by decide +kernel
theorem dX9_friends_47 : decode cX9_friends 47 = .ok (.iload_n 2, 1) := by decide +kernel
theorem dX9_friends_48 : decode cX9_friends 48 = .ok (.aload_n 0, 1) := by decide +kernel
theorem dX9_friends_49 : decode cX9_friends 49 = .ok (.iload_n 1, 1) := by decide +kernel
theorem dX9_friends_50 : decode cX9_friends 50 = .ok (.invokevirtual 364, 3) := by decide +kernel
theorem dX9_friends_53 : decode cX9_friends 53 = .ok (.iand, 1) := by decide +kernel
theorem dX9_friends_54 : decode cX9_friends 54 = .ok (.istore_n 2, 1) := by decide +kernel
theorem dX9_friends_55 : decode cX9_friends 55 = .ok (.iinc 3 1, 3) := by decide +kernel
theorem dX9_friends_58 : decode cX9_friends 58 = .ok (.goto (-27), 3) := by decide +kernel
theorem dX9_friends_61 : decode cX9_friends 61 = .ok (.iload_n 2, 1) := by decide +kernel
theorem dX9_friends_62 : decode cX9_friends 62 = .ok (.ireturn, 1) := by decide +kernel
set_option maxRecDepth 20000 in
set_option maxHeartbeats 4000000 in
theorem wk_X9_friends_31 {p : Program} {l : Launch} {e : Env} {s : State} {m : MethodId} {args : Array Value} {below : List Frame} {meth : Method} {c : Code} {G : Gp} {x1 : Int32}  {Q : Int32 → St → Prop} (F : FX p s m args meth c cX9_friends 4 (some .int) RX9 G)   : ∀ (n9 : Nat) (σ : St) (x2 : Int32) (x3 : Int32), LP3 (wp_X9_friends_31 x1 Q) n9 σ x2 x3 → J p l e (rmF 4 93) s m args below meth c 4 G (MQ below (QQ G (qI Q)) args s 0 0 (fr G)) 0 0 31 [(0, .ref (gb G + 244)), (1, .int x1), (2, .int x2), (3, .int x3)] [] σ := by
  intro n9
  induction n9 with
  | zero => intro σ x2 x3 h; exact h.elim
  | succ n9 i31 =>
    intro σ x2 x3 h
    have h : wp_X9_friends_31 x1 Q (LP3 (wp_X9_friends_31 x1 Q) n9) σ x2 x3 := h
    unfold wp_X9_friends_31 at h
    refine J_iln F 3 dX9_friends_31 rfl rfl ?_
    refine J_aln F 0 dX9_friends_32 rfl rfl ?_
    refine J_gfa F (ci := 9) 1 rfl inX9 ly_244 (by decide) (by decide) rfl lf_X9_7 rfl dX9_friends_33 ?_
    refine J_bi F dX9_friends_36 kb_37 ?_
    refine J_ialdc F ly_245 (by decide) (by decide) dX9_friends_38 ?_
    refine J_cge F (tgt := 61) dX9_friends_39 (by decide) (fun c_1 => ?_) (fun c_1 => ?_)
    · have h := h.1 c_1
      refine J_iln F 2 dX9_friends_61 rfl rfl ?_
      exact J_reti F ⟨_, rfl, h⟩ dX9_friends_62
    · have h := h.2 c_1
      refine J_aln F 0 dX9_friends_42 rfl rfl ?_
      refine J_iln F 3 dX9_friends_43 rfl rfl ?_
      refine J_callVv F (As := [.int x3]) (st := []) (C_X9_laysList l G x3  h) (ci := 9) ly_244 (by decide) rfl rfl lm_X9_132 li_X9_laysList ls_X9_laysList ini_X9 lc_X9_laysList hd_X9_laysList (by decide) (Nat.le_of_ble_eq_true rfl) (by decide) rfl dX9_friends_44 (fun σ_2 h => ?_)
      refine J_iln F 2 dX9_friends_47 rfl rfl ?_
      refine J_aln F 0 dX9_friends_48 rfl rfl ?_
      refine J_iln F 1 dX9_friends_49 rfl rfl ?_
      refine J_callVi F (As := [.int x1]) (st := [.int x2]) (C_X9_besideNode l G x1  h) (ci := 9) ly_244 (by decide) rfl rfl lm_X9_364 li_X9_besideNode ls_X9_besideNode ini_X9 lc_X9_besideNode hd_X9_besideNode (by decide) (Nat.le_of_ble_eq_true rfl) (by decide) rfl dX9_friends_50 (fun r_3 σ_4 hh => ?_)
      clear h
      obtain ⟨e9, h⟩ := hh
      subst σ_4
      refine J_iand F dX9_friends_53 ?_
      refine J_top (fun x2_5 ex2_5 => ?_)
      have h := h x2_5 ex2_5
      refine J_isn F (L' := [(2, .int x2_5), (0, .ref (gb G + 244)), (1, .int x1), (3, .int x3)]) dX9_friends_54 rfl (by decide) rfl ?_
      obtain ⟨x3_6, ex3_6⟩ : ∃ z : Int32, z = x3 + (nI 1) := ⟨_, rfl⟩
      have h := h x3_6 ex3_6
      refine J_iinc F (v := x3_6) (L' := [(3, .int x3_6), (2, .int x2_5), (0, .ref (gb G + 244)), (1, .int x1)]) 3 dX9_friends_55 rfl (by rw [ki_1, ex3_6]) (by decide) rfl ?_
      refine J_goto F (tgt := 31) dX9_friends_58 (by decide) ?_
      refine J_sub [2, 3, 1, 0] rfl ?_
      exact i31 _ _ _ h
set_option maxRecDepth 20000 in
set_option maxHeartbeats 4000000 in
theorem wk_X9_friends_13 {p : Program} {l : Launch} {e : Env} {s : State} {m : MethodId} {args : Array Value} {below : List Frame} {meth : Method} {c : Code} {G : Gp} {σ : St} {x1 : Int32} {t1 : Int32}  {Q : Int32 → St → Prop} (F : FX p s m args meth c cX9_friends 4 (some .int) RX9 G)   (h : wp_X9_friends_13 σ x1 t1 Q) : J p l e (rmF 4 93) s m args below meth c 4 G (MQ below (QQ G (qI Q)) args s 0 0 (fr G)) 0 0 13 [(0, .ref (gb G + 244)), (1, .int x1)] [.int t1, .ref (gb G + 244)] σ := by
  unfold wp_X9_friends_13 at h
  refine J_pfi F (ci := 9) 0 rfl inX9 tyX9 tyX9_ok nmX9 ly_244 (by decide) (by decide) rfl lf_X9_54 rfl rfl (tyX9_ok 0 (by decide)) rfl rfl dX9_friends_13 ?_
  refine J_st (fun σ_7 eσ_7 => ?_)
  have h := h σ_7 eσ_7
  refine J_aln F 0 dX9_friends_16 rfl rfl ?_
  refine J_gfi F (ci := 9) 0 rfl inX9 ly_244 (by decide) (by decide) rfl lf_X9_54 rfl dX9_friends_17 ?_
  refine J_zle F (tgt := 25) dX9_friends_20 (by decide) (fun c_8 => ?_) (fun c_8 => ?_)
  · have h := h.1 c_8
    refine J_si F dX9_friends_25 ks_1023 ?_
    refine J_isn F (L' := [(2, .int (nI 1023)), (0, .ref (gb G + 244)), (1, .int x1)]) dX9_friends_28 rfl (by decide) rfl ?_
    refine J_ic F dX9_friends_29 ki_0 ?_
    refine J_isn F (L' := [(3, .int (nI 0)), (2, .int (nI 1023)), (0, .ref (gb G + 244)), (1, .int x1)]) dX9_friends_30 rfl (by decide) rfl ?_
    refine J_sub [2, 3, 1, 0] rfl ?_
    obtain ⟨n9, h⟩ := h
    exact wk_X9_friends_31 F  n9 _ _ _ h
  · have h := h.2 c_8
    refine J_ic F dX9_friends_23 ki_0 ?_
    exact J_reti F ⟨_, rfl, h⟩ dX9_friends_24
set_option maxRecDepth 20000 in
set_option maxHeartbeats 4000000 in
theorem C_X9_friends (l : Launch) (G : Gp) (x1 : Int32)  {σ : St} {Q : Int32 → St → Prop} (h : wp_X9_friends σ x1 Q) : Cn l yX9_friends cX9_friends 4 (some .int) 4 93 G [.ref (gb G + 244), .int x1] σ (qI Q) := by
  refine Cn_of (L := [(0, .ref (gb G + 244)), (1, .int x1)]) RX9 (by decide) rfl (Nat.le_of_ble_eq_true rfl) rfl ?_
  intro p e s m below meth c F
  unfold wp_X9_friends at h
  refine J_aln F 0 dX9_friends_0 rfl rfl ?_
  refine J_iln F 1 dX9_friends_1 rfl rfl ?_
  refine J_callSi F (As := [.int x1]) (st := [.ref (gb G + 244)]) (C_X9_isNode l G x1  h) lm_X9_354 li_X9_isNode ini_X9 lc_X9_isNode hd_X9_isNode (by decide) (Nat.le_of_ble_eq_true rfl) (by decide) rfl dX9_friends_2 (fun r_9 σ_10 hh => ?_)
  clear h
  obtain ⟨e9, h⟩ := hh
  subst σ_10
  refine J_zeq F (tgt := 12) dX9_friends_5 (by decide) (fun c_11 => ?_) (fun c_11 => ?_)
  · have h := h.1 c_11
    refine J_ic F dX9_friends_12 ki_1 ?_
    exact wk_X9_friends_13 F  h
  · have h := h.2 c_11
    refine J_ic F dX9_friends_8 ki_0 ?_
    refine J_goto F (tgt := 13) dX9_friends_9 (by decide) ?_
    exact wk_X9_friends_13 F  h
theorem dX9_image_0 : decode cX9_image 0 = .ok (.aload_n 0, 1) := by decide +kernel
theorem dX9_image_1 : decode cX9_image 1 = .ok (.iconst 0, 1) := by decide +kernel
theorem dX9_image_2 : decode cX9_image 2 = .ok (.putfield 54, 3) := by decide +kernel
theorem dX9_image_5 : decode cX9_image 5 = .ok (.iconst 0, 1) := by decide +kernel
theorem dX9_image_6 : decode cX9_image 6 = .ok (.istore_n 1, 1) := by decide +kernel
theorem dX9_image_7 : decode cX9_image 7 = .ok (.iload_n 1, 1) := by decide +kernel
theorem dX9_image_8 : decode cX9_image 8 = .ok (.sipush 6682, 3) := by decide +kernel
theorem dX9_image_11 : decode cX9_image 11 = .ok (.if_icmp .ge 21, 3) := by decide +kernel
theorem dX9_image_14 : decode cX9_image 14 = .ok (.aload_n 0, 1) := by decide +kernel
theorem dX9_image_15 : decode cX9_image 15 = .ok (.getfield 16, 3) := by decide +kernel
theorem dX9_image_18 : decode cX9_image 18 = .ok (.iload_n 1, 1) := by decide +kernel
theorem dX9_image_19 : decode cX9_image 19 = .ok (.aload_n 0, 1) := by decide +kernel
theorem dX9_image_20 : decode cX9_image 20 = .ok (.getfield 7, 3) := by decide +kernel
theorem dX9_image_23 : decode cX9_image 23 = .ok (.iload_n 1, 1) := by decide +kernel
theorem dX9_image_24 : decode cX9_image 24 = .ok (.iaload, 1) := by decide +kernel
theorem dX9_image_25 : decode cX9_image 25 = .ok (.iastore, 1) := by decide +kernel
theorem dX9_image_26 : decode cX9_image 26 = .ok (.iinc 1 1, 3) := by decide +kernel
theorem dX9_image_29 : decode cX9_image 29 = .ok (.goto (-22), 3) := by decide +kernel
theorem dX9_image_32 : decode cX9_image 32 = .ok (.aload_n 0, 1) := by decide +kernel
theorem dX9_image_33 : decode cX9_image 33 = .ok (.iconst 1, 1) := by decide +kernel
theorem dX9_image_34 : decode cX9_image 34 = .ok (.putfield 469, 3) := by decide +kernel
theorem dX9_image_37 : decode cX9_image 37 = .ok (.return_, 1) := by decide +kernel
set_option maxRecDepth 20000 in
set_option maxHeartbeats 4000000 in
theorem wk_X9_image_7 {p : Program} {l : Launch} {e : Env} {s : State} {m : MethodId} {args : Array Value} {below : List Frame} {meth : Method} {c : Code} {G : Gp}   {Q : St → Prop} (F : FX p s m args meth c cX9_image 2 none RX9 G)   : ∀ (n9 : Nat) (σ : St) (x1 : Int32), LP2 (wp_X9_image_7 Q) n9 σ x1 → J p l e (rmF 0 0) s m args below meth c 2 G (MQ below (QQ G (qV Q)) args s 0 0 (fr G)) 0 0 7 [(0, .ref (gb G + 244)), (1, .int x1)] [] σ := by
  intro n9
  induction n9 with
  | zero => intro σ x1 h; exact h.elim
  | succ n9 i7 =>
    intro σ x1 h
    have h : wp_X9_image_7 Q (LP2 (wp_X9_image_7 Q) n9) σ x1 := h
    unfold wp_X9_image_7 at h
    refine J_iln F 1 dX9_image_7 rfl rfl ?_
    refine J_si F dX9_image_8 ks_6682 ?_
    refine J_cge F (tgt := 32) dX9_image_11 (by decide) (fun c_1 => ?_) (fun c_1 => ?_)
    · have h := h.1 c_1
      refine J_aln F 0 dX9_image_32 rfl rfl ?_
      refine J_ic F dX9_image_33 ki_1 ?_
      refine J_pfi F (ci := 9) 6 rfl inX9 tyX9 tyX9_ok nmX9 ly_244 (by decide) (by decide) rfl lf_X9_469 rfl rfl (tyX9_ok 6 (by decide)) (nz_b (Or.inr rfl)) (nz_f (Or.inr rfl)) dX9_image_34 ?_
      refine J_st (fun σ_2 eσ_2 => ?_)
      have h := h σ_2 eσ_2
      exact J_retv F ⟨rfl, h⟩ dX9_image_37
    · have h := h.2 c_1
      refine J_aln F 0 dX9_image_14 rfl rfl ?_
      refine J_gfa F (ci := 9) 3 rfl inX9 ly_244 (by decide) (by decide) rfl lf_X9_16 rfl dX9_image_15 ?_
      refine J_iln F 1 dX9_image_18 rfl rfl ?_
      refine J_aln F 0 dX9_image_19 rfl rfl ?_
      refine J_gfa F (ci := 9) 1 rfl inX9 ly_244 (by decide) (by decide) rfl lf_X9_7 rfl dX9_image_20 ?_
      refine J_iln F 1 dX9_image_23 rfl rfl ?_
      obtain ⟨h_3, h⟩ := h
      refine J_iald F ly_245 h_3 dX9_image_24 ?_
      obtain ⟨h_4, h⟩ := h
      refine J_iast F ly_247 h_4 dX9_image_25 ?_
      refine J_st (fun σ_5 eσ_5 => ?_)
      have h := h σ_5 eσ_5
      obtain ⟨x1_6, ex1_6⟩ : ∃ z : Int32, z = x1 + (nI 1) := ⟨_, rfl⟩
      have h := h x1_6 ex1_6
      refine J_iinc F (v := x1_6) (L' := [(1, .int x1_6), (0, .ref (gb G + 244))]) 1 dX9_image_26 rfl (by rw [ki_1, ex1_6]) (by decide) rfl ?_
      refine J_goto F (tgt := 7) dX9_image_29 (by decide) ?_
      refine J_sub [1, 0] rfl ?_
      exact i7 _ _ h
set_option maxRecDepth 20000 in
set_option maxHeartbeats 4000000 in
theorem C_X9_image (l : Launch) (G : Gp)   {σ : St} {Q : St → Prop} (h : wp_X9_image σ  Q) : Cn l yX9_image cX9_image 2 none 0 0 G [.ref (gb G + 244)] σ (qV Q) := by
  refine Cn_of (L := [(0, .ref (gb G + 244))]) RX9 (by decide) rfl (Nat.le_of_ble_eq_true rfl) rfl ?_
  intro p e s m below meth c F
  unfold wp_X9_image at h
  refine J_aln F 0 dX9_image_0 rfl rfl ?_
  refine J_ic F dX9_image_1 ki_0 ?_
  refine J_pfi F (ci := 9) 0 rfl inX9 tyX9 tyX9_ok nmX9 ly_244 (by decide) (by decide) rfl lf_X9_54 rfl rfl (tyX9_ok 0 (by decide)) rfl rfl dX9_image_2 ?_
  refine J_st (fun σ_7 eσ_7 => ?_)
  have h := h σ_7 eσ_7
  refine J_ic F dX9_image_5 ki_0 ?_
  refine J_isn F (L' := [(1, .int (nI 0)), (0, .ref (gb G + 244))]) dX9_image_6 rfl (by decide) rfl ?_
  refine J_sub [1, 0] rfl ?_
  obtain ⟨n9, h⟩ := h
  exact wk_X9_image_7 F  n9 _ _ h
theorem dX9_back_0 : decode cX9_back 0 = .ok (.aload_n 0, 1) := by decide +kernel
theorem dX9_back_1 : decode cX9_back 1 = .ok (.iconst 0, 1) := by decide +kernel
theorem dX9_back_2 : decode cX9_back 2 = .ok (.putfield 54, 3) := by decide +kernel
theorem dX9_back_5 : decode cX9_back 5 = .ok (.aload_n 0, 1) := by decide +kernel
theorem dX9_back_6 : decode cX9_back 6 = .ok (.getfield 469, 3) := by decide +kernel
theorem dX9_back_9 : decode cX9_back 9 = .ok (.ifCond .ne 5, 3) := by decide +kernel
theorem dX9_back_12 : decode cX9_back 12 = .ok (.iconst 0, 1) := by decide +kernel
theorem dX9_back_13 : decode cX9_back 13 = .ok (.ireturn, 1) := by decide +kernel
theorem dX9_back_14 : decode cX9_back 14 = .ok (.iconst 0, 1) := by decide +kernel
theorem dX9_back_15 : decode cX9_back 15 = .ok (.istore_n 1, 1) := by decide +kernel
theorem dX9_back_16 : decode cX9_back 16 = .ok (.iload_n 1, 1) := by decide +kernel
theorem dX9_back_17 : decode cX9_back 17 = .ok (.sipush 6682, 3) := by decide +kernel
theorem dX9_back_20 : decode cX9_back 20 = .ok (.if_icmp .ge 21, 3) := by decide +kernel
theorem dX9_back_23 : decode cX9_back 23 = .ok (.aload_n 0, 1) := by decide +kernel
theorem dX9_back_24 : decode cX9_back 24 = .ok (.getfield 7, 3) := by decide +kernel
theorem dX9_back_27 : decode cX9_back 27 = .ok (.iload_n 1, 1) := by decide +kernel
theorem dX9_back_28 : decode cX9_back 28 = .ok (.aload_n 0, 1) := by decide +kernel
theorem dX9_back_29 : decode cX9_back 29 = .ok (.getfield 16, 3) := by decide +kernel
theorem dX9_back_32 : decode cX9_back 32 = .ok (.iload_n 1, 1) := by decide +kernel
theorem dX9_back_33 : decode cX9_back 33 = .ok (.iaload, 1) := by decide +kernel
theorem dX9_back_34 : decode cX9_back 34 = .ok (.iastore, 1) := by decide +kernel
theorem dX9_back_35 : decode cX9_back 35 = .ok (.iinc 1 1, 3) := by decide +kernel
theorem dX9_back_38 : decode cX9_back 38 = .ok (.goto (-22), 3) := by decide +kernel
theorem dX9_back_41 : decode cX9_back 41 = .ok (.aload_n 0, 1) := by decide +kernel
theorem dX9_back_42 : decode cX9_back 42 = .ok (.iconst 0, 1) := by decide +kernel
theorem dX9_back_43 : decode cX9_back 43 = .ok (.putfield 230, 3) := by decide +kernel
theorem dX9_back_46 : decode cX9_back 46 = .ok (.iconst 1, 1) := by decide +kernel
theorem dX9_back_47 : decode cX9_back 47 = .ok (.ireturn, 1) := by decide +kernel
set_option maxRecDepth 20000 in
set_option maxHeartbeats 4000000 in
theorem wk_X9_back_16 {p : Program} {l : Launch} {e : Env} {s : State} {m : MethodId} {args : Array Value} {below : List Frame} {meth : Method} {c : Code} {G : Gp}   {Q : Int32 → St → Prop} (F : FX p s m args meth c cX9_back 2 (some .boolean) RX9 G)   : ∀ (n9 : Nat) (σ : St) (x1 : Int32), LP2 (wp_X9_back_16 Q) n9 σ x1 → J p l e (rmF 0 0) s m args below meth c 2 G (MQ below (QQ G (qI Q)) args s 0 0 (fr G)) 0 0 16 [(0, .ref (gb G + 244)), (1, .int x1)] [] σ := by
  intro n9
  induction n9 with
  | zero => intro σ x1 h; exact h.elim
  | succ n9 i16 =>
    intro σ x1 h
    have h : wp_X9_back_16 Q (LP2 (wp_X9_back_16 Q) n9) σ x1 := h
    unfold wp_X9_back_16 at h
    refine J_iln F 1 dX9_back_16 rfl rfl ?_
    refine J_si F dX9_back_17 ks_6682 ?_
    refine J_cge F (tgt := 41) dX9_back_20 (by decide) (fun c_1 => ?_) (fun c_1 => ?_)
    · have h := h.1 c_1
      refine J_aln F 0 dX9_back_41 rfl rfl ?_
      refine J_ic F dX9_back_42 ki_0 ?_
      refine J_pfi F (ci := 9) 5 rfl inX9 tyX9 tyX9_ok nmX9 ly_244 (by decide) (by decide) rfl lf_X9_230 rfl rfl (tyX9_ok 5 (by decide)) rfl rfl dX9_back_43 ?_
      refine J_st (fun σ_2 eσ_2 => ?_)
      have h := h σ_2 eσ_2
      refine J_ic F dX9_back_46 ki_1 ?_
      exact J_retz F (Or.inr rfl) ⟨_, rfl, h⟩ dX9_back_47
    · have h := h.2 c_1
      refine J_aln F 0 dX9_back_23 rfl rfl ?_
      refine J_gfa F (ci := 9) 1 rfl inX9 ly_244 (by decide) (by decide) rfl lf_X9_7 rfl dX9_back_24 ?_
      refine J_iln F 1 dX9_back_27 rfl rfl ?_
      refine J_aln F 0 dX9_back_28 rfl rfl ?_
      refine J_gfa F (ci := 9) 3 rfl inX9 ly_244 (by decide) (by decide) rfl lf_X9_16 rfl dX9_back_29 ?_
      refine J_iln F 1 dX9_back_32 rfl rfl ?_
      obtain ⟨h_3, h⟩ := h
      refine J_iald F ly_247 h_3 dX9_back_33 ?_
      obtain ⟨h_4, h⟩ := h
      refine J_iast F ly_245 h_4 dX9_back_34 ?_
      refine J_st (fun σ_5 eσ_5 => ?_)
      have h := h σ_5 eσ_5
      obtain ⟨x1_6, ex1_6⟩ : ∃ z : Int32, z = x1 + (nI 1) := ⟨_, rfl⟩
      have h := h x1_6 ex1_6
      refine J_iinc F (v := x1_6) (L' := [(1, .int x1_6), (0, .ref (gb G + 244))]) 1 dX9_back_35 rfl (by rw [ki_1, ex1_6]) (by decide) rfl ?_
      refine J_goto F (tgt := 16) dX9_back_38 (by decide) ?_
      refine J_sub [1, 0] rfl ?_
      exact i16 _ _ h
set_option maxRecDepth 20000 in
set_option maxHeartbeats 4000000 in
theorem C_X9_back (l : Launch) (G : Gp)   {σ : St} {Q : Int32 → St → Prop} (h : wp_X9_back σ  Q) : Cn l yX9_back cX9_back 2 (some .boolean) 0 0 G [.ref (gb G + 244)] σ (qI Q) := by
  refine Cn_of (L := [(0, .ref (gb G + 244))]) RX9 (by decide) rfl (Nat.le_of_ble_eq_true rfl) rfl ?_
  intro p e s m below meth c F
  unfold wp_X9_back at h
  refine J_aln F 0 dX9_back_0 rfl rfl ?_
  refine J_ic F dX9_back_1 ki_0 ?_
  refine J_pfi F (ci := 9) 0 rfl inX9 tyX9 tyX9_ok nmX9 ly_244 (by decide) (by decide) rfl lf_X9_54 rfl rfl (tyX9_ok 0 (by decide)) rfl rfl dX9_back_2 ?_
  refine J_st (fun σ_7 eσ_7 => ?_)
  have h := h σ_7 eσ_7
  refine J_aln F 0 dX9_back_5 rfl rfl ?_
  refine J_gfi F (ci := 9) 6 rfl inX9 ly_244 (by decide) (by decide) rfl lf_X9_469 rfl dX9_back_6 ?_
  refine J_zne F (tgt := 14) dX9_back_9 (by decide) (fun c_8 => ?_) (fun c_8 => ?_)
  · have h := h.1 c_8
    refine J_ic F dX9_back_14 ki_0 ?_
    refine J_isn F (L' := [(1, .int (nI 0)), (0, .ref (gb G + 244))]) dX9_back_15 rfl (by decide) rfl ?_
    refine J_sub [1, 0] rfl ?_
    obtain ⟨n9, h⟩ := h
    exact wk_X9_back_16 F  n9 _ _ h
  · have h := h.2 c_8
    refine J_ic F dX9_back_12 ki_0 ?_
    exact J_retz F (Or.inl rfl) ⟨_, rfl, h⟩ dX9_back_13
theorem dX9_storedKeys_0 : decode cX9_storedKeys 0 = .ok (.iconst 0, 1) := by decide +kernel
theorem dX9_storedKeys_1 : decode cX9_storedKeys 1 = .ok (.istore_n 1, 1) := by decide +kernel
theorem dX9_storedKeys_2 : decode cX9_storedKeys 2 = .ok (.iconst 0, 1) := by decide +kernel
theorem dX9_storedKeys_3 : decode cX9_storedKeys 3 = .ok (.istore_n 2, 1) := by decide +kernel
theorem dX9_storedKeys_4 : decode cX9_storedKeys 4 = .ok (.iload_n 2, 1) := by decide +kernel
theorem dX9_storedKeys_5 : decode cX9_storedKeys 5 = .ok (.bipush 100, 2) := by decide +kernel
theorem dX9_storedKeys_7 : decode cX9_storedKeys 7 = .ok (.if_icmp .ge 21, 3) := by decide +kernel
theorem dX9_storedKeys_10 : decode cX9_storedKeys 10 = .ok (.iload_n 1, 1) := by decide +kernel
theorem dX9_storedKeys_11 : decode cX9_storedKeys 11 = .ok (.aload_n 0, 1) := by decide +kernel
theorem dX9_storedKeys_12 : decode cX9_storedKeys 12 = .ok (.getfield 7, 3) := by decide +kernel
theorem dX9_storedKeys_15 : decode cX9_storedKeys 15 = .ok (.bipush 38, 2) := by decide +kernel
theorem dX9_storedKeys_17 : decode cX9_storedKeys 17 = .ok (.iload_n 2, 1) := by decide +kernel
theorem dX9_storedKeys_18 : decode cX9_storedKeys 18 = .ok (.iadd, 1) := by decide +kernel
theorem dX9_storedKeys_19 : decode cX9_storedKeys 19 = .ok (.iaload, 1) := by decide +kernel
theorem dX9_storedKeys_20 : decode cX9_storedKeys 20 = .ok (.iadd, 1) := by decide +kernel
theorem dX9_storedKeys_21 : decode cX9_storedKeys 21 = .ok (.istore_n 1, 1) := by decide +kernel
theorem dX9_storedKeys_22 : decode cX9_storedKeys 22 = .ok (.iinc 2 1, 3) := by decide +kernel
theorem dX9_storedKeys_25 : decode cX9_storedKeys 25 = .ok (.goto (-21), 3) := by decide +kernel
theorem dX9_storedKeys_28 : decode cX9_storedKeys 28 = .ok (.iload_n 1, 1) := by decide +kernel
theorem dX9_storedKeys_29 : decode cX9_storedKeys 29 = .ok (.ireturn, 1) := by decide +kernel
set_option maxRecDepth 20000 in
set_option maxHeartbeats 4000000 in
theorem wk_X9_storedKeys_4 {p : Program} {l : Launch} {e : Env} {s : State} {m : MethodId} {args : Array Value} {below : List Frame} {meth : Method} {c : Code} {G : Gp} {σ : St}   {Q : Int32 → Prop} (F : FX p s m args meth c cX9_storedKeys 3 (some .int) RX9 G)   : ∀ (n9 : Nat) (x1 : Int32) (x2 : Int32), LP2 (wp_X9_storedKeys_4 σ Q) n9 x1 x2 → J p l e (rmF 0 0) s m args below meth c 3 G (MQ below (QQ G (qI (fun r σ' => σ' = σ ∧ Q r))) args s 0 0 (fr G)) 0 0 4 [(0, .ref (gb G + 244)), (1, .int x1), (2, .int x2)] [] σ := by
  intro n9
  induction n9 with
  | zero => intro x1 x2 h; exact h.elim
  | succ n9 i4 =>
    intro x1 x2 h
    have h : wp_X9_storedKeys_4 σ Q (LP2 (wp_X9_storedKeys_4 σ Q) n9) x1 x2 := h
    unfold wp_X9_storedKeys_4 at h
    refine J_iln F 2 dX9_storedKeys_4 rfl rfl ?_
    refine J_bi F dX9_storedKeys_5 kb_100 ?_
    refine J_cge F (tgt := 28) dX9_storedKeys_7 (by decide) (fun c_1 => ?_) (fun c_1 => ?_)
    · have h := h.1 c_1
      refine J_iln F 1 dX9_storedKeys_28 rfl rfl ?_
      exact J_reti F ⟨_, rfl, rfl, h⟩ dX9_storedKeys_29
    · have h := h.2 c_1
      refine J_iln F 1 dX9_storedKeys_10 rfl rfl ?_
      refine J_aln F 0 dX9_storedKeys_11 rfl rfl ?_
      refine J_gfa F (ci := 9) 1 rfl inX9 ly_244 (by decide) (by decide) rfl lf_X9_7 rfl dX9_storedKeys_12 ?_
      refine J_bi F dX9_storedKeys_15 kb_38 ?_
      refine J_iln F 2 dX9_storedKeys_17 rfl rfl ?_
      refine J_iadd F dX9_storedKeys_18 ?_
      obtain ⟨h_2, h⟩ := h
      refine J_iald F ly_245 h_2 dX9_storedKeys_19 ?_
      refine J_iadd F dX9_storedKeys_20 ?_
      refine J_top (fun x1_3 ex1_3 => ?_)
      have h := h x1_3 ex1_3
      refine J_isn F (L' := [(1, .int x1_3), (0, .ref (gb G + 244)), (2, .int x2)]) dX9_storedKeys_21 rfl (by decide) rfl ?_
      obtain ⟨x2_4, ex2_4⟩ : ∃ z : Int32, z = x2 + (nI 1) := ⟨_, rfl⟩
      have h := h x2_4 ex2_4
      refine J_iinc F (v := x2_4) (L' := [(2, .int x2_4), (1, .int x1_3), (0, .ref (gb G + 244))]) 2 dX9_storedKeys_22 rfl (by rw [ki_1, ex2_4]) (by decide) rfl ?_
      refine J_goto F (tgt := 4) dX9_storedKeys_25 (by decide) ?_
      refine J_sub [2, 1, 0] rfl ?_
      exact i4 _ _ h
set_option maxRecDepth 20000 in
set_option maxHeartbeats 4000000 in
theorem C_X9_storedKeys (l : Launch) (G : Gp)   {σ : St} {Q : Int32 → Prop} (h : wp_X9_storedKeys σ  Q) : Cn l yX9_storedKeys cX9_storedKeys 3 (some .int) 0 0 G [.ref (gb G + 244)] σ (qI (fun r σ' => σ' = σ ∧ Q r)) := by
  refine Cn_of (L := [(0, .ref (gb G + 244))]) RX9 (by decide) rfl (Nat.le_of_ble_eq_true rfl) rfl ?_
  intro p e s m below meth c F
  unfold wp_X9_storedKeys at h
  refine J_ic F dX9_storedKeys_0 ki_0 ?_
  refine J_isn F (L' := [(1, .int (nI 0)), (0, .ref (gb G + 244))]) dX9_storedKeys_1 rfl (by decide) rfl ?_
  refine J_ic F dX9_storedKeys_2 ki_0 ?_
  refine J_isn F (L' := [(2, .int (nI 0)), (1, .int (nI 0)), (0, .ref (gb G + 244))]) dX9_storedKeys_3 rfl (by decide) rfl ?_
  refine J_sub [2, 1, 0] rfl ?_
  obtain ⟨n9, h⟩ := h
  exact wk_X9_storedKeys_4 F  n9 _ _ h
theorem dX9_safeKeys_0 : decode cX9_safeKeys 0 = .ok (.iconst 0, 1) := by decide +kernel
theorem dX9_safeKeys_1 : decode cX9_safeKeys 1 = .ok (.istore_n 1, 1) := by decide +kernel
theorem dX9_safeKeys_2 : decode cX9_safeKeys 2 = .ok (.iconst 0, 1) := by decide +kernel
theorem dX9_safeKeys_3 : decode cX9_safeKeys 3 = .ok (.istore_n 2, 1) := by decide +kernel
theorem dX9_safeKeys_4 : decode cX9_safeKeys 4 = .ok (.iload_n 2, 1) := by decide +kernel
theorem dX9_safeKeys_5 : decode cX9_safeKeys 5 = .ok (.bipush 100, 2) := by decide +kernel
theorem dX9_safeKeys_7 : decode cX9_safeKeys 7 = .ok (.if_icmp .ge 49, 3) := by decide +kernel
theorem dX9_safeKeys_10 : decode cX9_safeKeys 10 = .ok (.iload_n 1, 1) := by decide +kernel
theorem dX9_safeKeys_11 : decode cX9_safeKeys 11 = .ok (.aload_n 0, 1) := by decide +kernel
theorem dX9_safeKeys_12 : decode cX9_safeKeys 12 = .ok (.getfield 7, 3) := by decide +kernel
theorem dX9_safeKeys_15 : decode cX9_safeKeys 15 = .ok (.bipush 38, 2) := by decide +kernel
theorem dX9_safeKeys_17 : decode cX9_safeKeys 17 = .ok (.iload_n 2, 1) := by decide +kernel
theorem dX9_safeKeys_18 : decode cX9_safeKeys 18 = .ok (.iadd, 1) := by decide +kernel
theorem dX9_safeKeys_19 : decode cX9_safeKeys 19 = .ok (.iaload, 1) := by decide +kernel
theorem dX9_safeKeys_20 : decode cX9_safeKeys 20 = .ok (.iconst 1, 1) := by decide +kernel
theorem dX9_safeKeys_21 : decode cX9_safeKeys 21 = .ok (.if_icmp .ne 26, 3) := by decide +kernel
theorem dX9_safeKeys_24 : decode cX9_safeKeys 24 = .ok (.aload_n 0, 1) := by decide +kernel
theorem dX9_safeKeys_25 : decode cX9_safeKeys 25 = .ok (.iload_n 2, 1) := by decide +kernel
theorem dX9_safeKeys_26 : decode cX9_safeKeys 26 = .ok (.invokevirtual 227, 3) := by decide +kernel
theorem dX9_safeKeys_29 : decode cX9_safeKeys 29 = .ok (.iconst 1, 1) := by decide +kernel
theorem dX9_safeKeys_30 : decode cX9_safeKeys 30 = .ok (.aload_n 0, 1) := by decide +kernel
theorem dX9_safeKeys_31 : decode cX9_safeKeys 31 = .ok (.getfield 7, 3) := by decide +kernel
theorem dX9_safeKeys_34 : decode cX9_safeKeys 34 = .ok (.bipush 37, 2) := by decide +kernel
theorem dX9_safeKeys_36 : decode cX9_safeKeys 36 = .ok (.iaload, 1) := by decide +kernel
theorem dX9_safeKeys_37 : decode cX9_safeKeys 37 = .ok (.ishl, 1) := by decide +kernel
theorem dX9_safeKeys_38 : decode cX9_safeKeys 38 = .ok (.iconst 1, 1) := by decide +kernel
theorem dX9_safeKeys_39 : decode cX9_safeKeys 39 = .ok (.isub, 1) := by decide +kernel
theorem dX9_safeKeys_40 : decode cX9_safeKeys 40 = .ok (.if_icmp .ne 7, 3) := by decide +kernel
theorem dX9_safeKeys_43 : decode cX9_safeKeys 43 = .ok (.iconst 1, 1) := by decide +kernel
theorem dX9_safeKeys_44 : decode cX9_safeKeys 44 = .ok (.goto 4, 3) := by decide +kernel
theorem dX9_safeKeys_47 : decode cX9_safeKeys 47 = .ok (.iconst 0, 1) := by decide +kernel
theorem dX9_safeKeys_48 : decode cX9_safeKeys 48 = .ok (.iadd, 1) := by decide +kernel
theorem dX9_safeKeys_49 : decode cX9_safeKeys 49 = .ok (.istore_n 1, 1) := by decide +kernel
theorem dX9_safeKeys_50 : decode cX9_safeKeys 50 = .ok (.iinc 2 1, 3) := by decide +kernel
theorem dX9_safeKeys_53 : decode cX9_safeKeys 53 = .ok (.goto (-49), 3) := by decide +kernel
theorem dX9_safeKeys_56 : decode cX9_safeKeys 56 = .ok (.iload_n 1, 1) := by decide +kernel
theorem dX9_safeKeys_57 : decode cX9_safeKeys 57 = .ok (.ireturn, 1) := by decide +kernel
set_option maxRecDepth 20000 in
set_option maxHeartbeats 4000000 in
theorem wk_X9_safeKeys_4 {p : Program} {l : Launch} {e : Env} {s : State} {m : MethodId} {args : Array Value} {below : List Frame} {meth : Method} {c : Code} {G : Gp} {σ : St}   {Q : Int32 → Prop} (F : FX p s m args meth c cX9_safeKeys 3 (some .int) RX9 G)   : ∀ (n9 : Nat) (x1 : Int32) (x2 : Int32), LP2 (wp_X9_safeKeys_4 σ Q) n9 x1 x2 → J p l e (rmF 2 45) s m args below meth c 3 G (MQ below (QQ G (qI (fun r σ' => σ' = σ ∧ Q r))) args s 0 0 (fr G)) 0 0 4 [(0, .ref (gb G + 244)), (1, .int x1), (2, .int x2)] [] σ := by
  intro n9
  induction n9 with
  | zero => intro x1 x2 h; exact h.elim
  | succ n9 i4 =>
    intro x1 x2 h
    have h : wp_X9_safeKeys_4 σ Q (LP2 (wp_X9_safeKeys_4 σ Q) n9) x1 x2 := h
    unfold wp_X9_safeKeys_4 at h
    refine J_iln F 2 dX9_safeKeys_4 rfl rfl ?_
    refine J_bi F dX9_safeKeys_5 kb_100 ?_
    refine J_cge F (tgt := 56) dX9_safeKeys_7 (by decide) (fun c_1 => ?_) (fun c_1 => ?_)
    · have h := h.1 c_1
      refine J_iln F 1 dX9_safeKeys_56 rfl rfl ?_
      exact J_reti F ⟨_, rfl, rfl, h⟩ dX9_safeKeys_57
    · have h := h.2 c_1
      refine J_iln F 1 dX9_safeKeys_10 rfl rfl ?_
      refine J_aln F 0 dX9_safeKeys_11 rfl rfl ?_
      refine J_gfa F (ci := 9) 1 rfl inX9 ly_244 (by decide) (by decide) rfl lf_X9_7 rfl dX9_safeKeys_12 ?_
      refine J_bi F dX9_safeKeys_15 kb_38 ?_
      refine J_iln F 2 dX9_safeKeys_17 rfl rfl ?_
      refine J_iadd F dX9_safeKeys_18 ?_
      obtain ⟨h_2, h⟩ := h
      refine J_iald F ly_245 h_2 dX9_safeKeys_19 ?_
      refine J_ic F dX9_safeKeys_20 ki_1 ?_
      refine J_cne F (tgt := 47) dX9_safeKeys_21 (by decide) (fun c_3 => ?_) (fun c_3 => ?_)
      · have h := h.1 c_3
        refine J_ic F dX9_safeKeys_47 ki_0 ?_
        refine J_iadd F dX9_safeKeys_48 ?_
        refine J_top (fun x1_4 ex1_4 => ?_)
        have h := h x1_4 ex1_4
        refine J_isn F (L' := [(1, .int x1_4), (0, .ref (gb G + 244)), (2, .int x2)]) dX9_safeKeys_49 rfl (by decide) rfl ?_
        obtain ⟨x2_5, ex2_5⟩ : ∃ z : Int32, z = x2 + (nI 1) := ⟨_, rfl⟩
        have h := h x2_5 ex2_5
        refine J_iinc F (v := x2_5) (L' := [(2, .int x2_5), (1, .int x1_4), (0, .ref (gb G + 244))]) 2 dX9_safeKeys_50 rfl (by rw [ki_1, ex2_5]) (by decide) rfl ?_
        refine J_goto F (tgt := 4) dX9_safeKeys_53 (by decide) ?_
        refine J_sub [2, 1, 0] rfl ?_
        exact i4 _ _ h
      · have h := h.2 c_3
        refine J_aln F 0 dX9_safeKeys_24 rfl rfl ?_
        refine J_iln F 2 dX9_safeKeys_25 rfl rfl ?_
        refine J_callVi F (As := [.int x2]) (st := [.int x1]) (C_X9_heldIn l G x2  h) (ci := 9) ly_244 (by decide) rfl rfl lm_X9_227 li_X9_heldIn ls_X9_heldIn ini_X9 lc_X9_heldIn hd_X9_heldIn (by decide) (Nat.le_of_ble_eq_true rfl) (by decide) rfl dX9_safeKeys_26 (fun r_6 σ_7 hh => ?_)
        clear h
        obtain ⟨e9, h⟩ := hh
        subst σ_7
        refine J_ic F dX9_safeKeys_29 ki_1 ?_
        refine J_aln F 0 dX9_safeKeys_30 rfl rfl ?_
        refine J_gfa F (ci := 9) 1 rfl inX9 ly_244 (by decide) (by decide) rfl lf_X9_7 rfl dX9_safeKeys_31 ?_
        refine J_bi F dX9_safeKeys_34 kb_37 ?_
        refine J_ialdc F ly_245 (by decide) (by decide) dX9_safeKeys_36 ?_
        refine J_ishl F dX9_safeKeys_37 ?_
        refine J_ic F dX9_safeKeys_38 ki_1 ?_
        refine J_isub F dX9_safeKeys_39 ?_
        refine J_cne F (tgt := 47) dX9_safeKeys_40 (by decide) (fun c_8 => ?_) (fun c_8 => ?_)
        · have h := h.1 c_8
          refine J_ic F dX9_safeKeys_47 ki_0 ?_
          refine J_iadd F dX9_safeKeys_48 ?_
          refine J_top (fun x1_9 ex1_9 => ?_)
          have h := h x1_9 ex1_9
          refine J_isn F (L' := [(1, .int x1_9), (0, .ref (gb G + 244)), (2, .int x2)]) dX9_safeKeys_49 rfl (by decide) rfl ?_
          obtain ⟨x2_10, ex2_10⟩ : ∃ z : Int32, z = x2 + (nI 1) := ⟨_, rfl⟩
          have h := h x2_10 ex2_10
          refine J_iinc F (v := x2_10) (L' := [(2, .int x2_10), (1, .int x1_9), (0, .ref (gb G + 244))]) 2 dX9_safeKeys_50 rfl (by rw [ki_1, ex2_10]) (by decide) rfl ?_
          refine J_goto F (tgt := 4) dX9_safeKeys_53 (by decide) ?_
          refine J_sub [2, 1, 0] rfl ?_
          exact i4 _ _ h
        · have h := h.2 c_8
          refine J_ic F dX9_safeKeys_43 ki_1 ?_
          refine J_goto F (tgt := 48) dX9_safeKeys_44 (by decide) ?_
          refine J_iadd F dX9_safeKeys_48 ?_
          refine J_top (fun x1_11 ex1_11 => ?_)
          have h := h x1_11 ex1_11
          refine J_isn F (L' := [(1, .int x1_11), (0, .ref (gb G + 244)), (2, .int x2)]) dX9_safeKeys_49 rfl (by decide) rfl ?_
          obtain ⟨x2_12, ex2_12⟩ : ∃ z : Int32, z = x2 + (nI 1) := ⟨_, rfl⟩
          have h := h x2_12 ex2_12
          refine J_iinc F (v := x2_12) (L' := [(2, .int x2_12), (1, .int x1_11), (0, .ref (gb G + 244))]) 2 dX9_safeKeys_50 rfl (by rw [ki_1, ex2_12]) (by decide) rfl ?_
          refine J_goto F (tgt := 4) dX9_safeKeys_53 (by decide) ?_
          refine J_sub [2, 1, 0] rfl ?_
          exact i4 _ _ h
set_option maxRecDepth 20000 in
set_option maxHeartbeats 4000000 in
theorem C_X9_safeKeys (l : Launch) (G : Gp)   {σ : St} {Q : Int32 → Prop} (h : wp_X9_safeKeys σ  Q) : Cn l yX9_safeKeys cX9_safeKeys 3 (some .int) 2 45 G [.ref (gb G + 244)] σ (qI (fun r σ' => σ' = σ ∧ Q r)) := by
  refine Cn_of (L := [(0, .ref (gb G + 244))]) RX9 (by decide) rfl (Nat.le_of_ble_eq_true rfl) rfl ?_
  intro p e s m below meth c F
  unfold wp_X9_safeKeys at h
  refine J_ic F dX9_safeKeys_0 ki_0 ?_
  refine J_isn F (L' := [(1, .int (nI 0)), (0, .ref (gb G + 244))]) dX9_safeKeys_1 rfl (by decide) rfl ?_
  refine J_ic F dX9_safeKeys_2 ki_0 ?_
  refine J_isn F (L' := [(2, .int (nI 0)), (1, .int (nI 0)), (0, .ref (gb G + 244))]) dX9_safeKeys_3 rfl (by decide) rfl ?_
  refine J_sub [2, 1, 0] rfl ?_
  obtain ⟨n9, h⟩ := h
  exact wk_X9_safeKeys_4 F  n9 _ _ h
theorem dX9_lostCopies_0 : decode cX9_lostCopies 0 = .ok (.iconst 0, 1) := by decide +kernel
theorem dX9_lostCopies_1 : decode cX9_lostCopies 1 = .ok (.istore_n 1, 1) := by decide +kernel
theorem dX9_lostCopies_2 : decode cX9_lostCopies 2 = .ok (.iconst 0, 1) := by decide +kernel
theorem dX9_lostCopies_3 : decode cX9_lostCopies 3 = .ok (.istore_n 2, 1) := by decide +kernel
theorem dX9_lostCopies_4 : decode cX9_lostCopies 4 = .ok (.iload_n 2, 1) := by decide +kernel
theorem dX9_lostCopies_5 : decode cX9_lostCopies 5 = .ok (.bipush 100, 2) := by decide +kernel
theorem dX9_lostCopies_7 : decode cX9_lostCopies 7 = .ok (.if_icmp .ge 58, 3) := by decide +kernel
theorem dX9_lostCopies_10 : decode cX9_lostCopies 10 = .ok (.iconst 0, 1) := by decide +kernel
theorem dX9_lostCopies_11 : decode cX9_lostCopies 11 = .ok (.istore_n 3, 1) := by decide +kernel
theorem dX9_lostCopies_12 : decode cX9_lostCopies 12 = .ok (.iload_n 3, 1) := by decide +kernel
theorem dX9_lostCopies_13 : decode cX9_lostCopies 13 = .ok (.aload_n 0, 1) := by decide +kernel
theorem dX9_lostCopies_14 : decode cX9_lostCopies 14 = .ok (.getfield 7, 3) := by decide +kernel
theorem dX9_lostCopies_17 : decode cX9_lostCopies 17 = .ok (.bipush 37, 2) := by decide +kernel
theorem dX9_lostCopies_19 : decode cX9_lostCopies 19 = .ok (.iaload, 1) := by decide +kernel
theorem dX9_lostCopies_20 : decode cX9_lostCopies 20 = .ok (.if_icmp .ge 39, 3) := by decide +kernel
theorem dX9_lostCopies_23 : decode cX9_lostCopies 23 = .ok (.iload_n 1, 1) := by decide +kernel
theorem dX9_lostCopies_24 : decode cX9_lostCopies 24 = .ok (.aload_n 0, 1) := by decide +kernel
theorem dX9_lostCopies_25 : decode cX9_lostCopies 25 = .ok (.getfield 7, 3) := by decide +kernel
theorem dX9_lostCopies_28 : decode cX9_lostCopies 28 = .ok (.bipush 38, 2) := by decide +kernel
theorem dX9_lostCopies_30 : decode cX9_lostCopies 30 = .ok (.iload_n 2, 1) := by decide +kernel
theorem dX9_lostCopies_31 : decode cX9_lostCopies 31 = .ok (.iadd, 1) := by decide +kernel
theorem dX9_lostCopies_32 : decode cX9_lostCopies 32 = .ok (.iaload, 1) := by decide +kernel
theorem dX9_lostCopies_33 : decode cX9_lostCopies 33 = .ok (.iconst 1, 1) := by decide +kernel
theorem dX9_lostCopies_34 : decode cX9_lostCopies 34 = .ok (.if_icmp .ne 16, 3) := by decide +kernel
theorem dX9_lostCopies_37 : decode cX9_lostCopies 37 = .ok (.aload_n 0, 1) := by decide +kernel
theorem dX9_lostCopies_38 : decode cX9_lostCopies 38 = .ok (.iload_n 2, 1) := by decide +kernel
theorem dX9_lostCopies_39 : decode cX9_lostCopies 39 = .ok (.iload_n 3, 1) := by decide +kernel
theorem dX9_lostCopies_40 : decode cX9_lostCopies 40 = .ok (.invokevirtual 165, 3) := by decide +kernel
theorem dX9_lostCopies_43 : decode cX9_lostCopies 43 = .ok (.ifCond .ne 7, 3) := by decide +kernel
theorem dX9_lostCopies_46 : decode cX9_lostCopies 46 = .ok (.iconst 1, 1) := by decide +kernel
theorem dX9_lostCopies_47 : decode cX9_lostCopies 47 = .ok (.goto 4, 3) := by decide +kernel
theorem dX9_lostCopies_50 : decode cX9_lostCopies 50 = .ok (.iconst 0, 1) := by decide +kernel
theorem dX9_lostCopies_51 : decode cX9_lostCopies 51 = .ok (.iadd, 1) := by decide +kernel
theorem dX9_lostCopies_52 : decode cX9_lostCopies 52 = .ok (.istore_n 1, 1) := by decide +kernel
theorem dX9_lostCopies_53 : decode cX9_lostCopies 53 = .ok (.iinc 3 1, 3) := by decide +kernel
theorem dX9_lostCopies_56 : decode cX9_lostCopies 56 = .ok (.goto (-44), 3) := by decide +kernel
theorem dX9_lostCopies_59 : decode cX9_lostCopies 59 = .ok (.iinc 2 1, 3) := by decide +kernel
theorem dX9_lostCopies_62 : decode cX9_lostCopies 62 = .ok (.goto (-58), 3) := by decide +kernel
theorem dX9_lostCopies_65 : decode cX9_lostCopies 65 = .ok (.iload_n 1, 1) := by decide +kernel
theorem dX9_lostCopies_66 : decode cX9_lostCopies 66 = .ok (.ireturn, 1) := by decide +kernel
set_option maxRecDepth 20000 in
set_option maxHeartbeats 4000000 in
theorem wk_X9_lostCopies_12 {p : Program} {l : Launch} {e : Env} {s : State} {m : MethodId} {args : Array Value} {below : List Frame} {meth : Method} {c : Code} {G : Gp} {σ : St} {x2 : Int32} {ih4 : Int32 → Int32 → Prop} {Q : Int32 → Prop} (F : FX p s m args meth c cX9_lostCopies 4 (some .int) RX9 G)  (i4 : ∀ (x1 : Int32) (x2 : Int32), ih4 x1 x2 → J p l e (rmF 1 22) s m args below meth c 4 G (MQ below (QQ G (qI (fun r σ' => σ' = σ ∧ Q r))) args s 0 0 (fr G)) 0 0 4 [(0, .ref (gb G + 244)), (1, .int x1), (2, .int x2)] [] σ) : ∀ (n9 : Nat) (x1 : Int32) (x3 : Int32), LP2 (wp_X9_lostCopies_12 σ x2 ih4 Q) n9 x1 x3 → J p l e (rmF 1 22) s m args below meth c 4 G (MQ below (QQ G (qI (fun r σ' => σ' = σ ∧ Q r))) args s 0 0 (fr G)) 0 0 12 [(0, .ref (gb G + 244)), (1, .int x1), (2, .int x2), (3, .int x3)] [] σ := by
  intro n9
  induction n9 with
  | zero => intro x1 x3 h; exact h.elim
  | succ n9 i12 =>
    intro x1 x3 h
    have h : wp_X9_lostCopies_12 σ x2 ih4 Q (LP2 (wp_X9_lostCopies_12 σ x2 ih4 Q) n9) x1 x3 := h
    unfold wp_X9_lostCopies_12 at h
    refine J_iln F 3 dX9_lostCopies_12 rfl rfl ?_
    refine J_aln F 0 dX9_lostCopies_13 rfl rfl ?_
    refine J_gfa F (ci := 9) 1 rfl inX9 ly_244 (by decide) (by decide) rfl lf_X9_7 rfl dX9_lostCopies_14 ?_
    refine J_bi F dX9_lostCopies_17 kb_37 ?_
    refine J_ialdc F ly_245 (by decide) (by decide) dX9_lostCopies_19 ?_
    refine J_cge F (tgt := 59) dX9_lostCopies_20 (by decide) (fun c_1 => ?_) (fun c_1 => ?_)
    · have h := h.1 c_1
      obtain ⟨x2_2, ex2_2⟩ : ∃ z : Int32, z = x2 + (nI 1) := ⟨_, rfl⟩
      have h := h x2_2 ex2_2
      refine J_iinc F (v := x2_2) (L' := [(2, .int x2_2), (0, .ref (gb G + 244)), (1, .int x1), (3, .int x3)]) 2 dX9_lostCopies_59 rfl (by rw [ki_1, ex2_2]) (by decide) rfl ?_
      refine J_goto F (tgt := 4) dX9_lostCopies_62 (by decide) ?_
      refine J_sub [1, 2, 0] rfl ?_
      exact i4 _ _ h
    · have h := h.2 c_1
      refine J_iln F 1 dX9_lostCopies_23 rfl rfl ?_
      refine J_aln F 0 dX9_lostCopies_24 rfl rfl ?_
      refine J_gfa F (ci := 9) 1 rfl inX9 ly_244 (by decide) (by decide) rfl lf_X9_7 rfl dX9_lostCopies_25 ?_
      refine J_bi F dX9_lostCopies_28 kb_38 ?_
      refine J_iln F 2 dX9_lostCopies_30 rfl rfl ?_
      refine J_iadd F dX9_lostCopies_31 ?_
      obtain ⟨h_3, h⟩ := h
      refine J_iald F ly_245 h_3 dX9_lostCopies_32 ?_
      refine J_ic F dX9_lostCopies_33 ki_1 ?_
      refine J_cne F (tgt := 50) dX9_lostCopies_34 (by decide) (fun c_4 => ?_) (fun c_4 => ?_)
      · have h := h.1 c_4
        refine J_ic F dX9_lostCopies_50 ki_0 ?_
        refine J_iadd F dX9_lostCopies_51 ?_
        refine J_top (fun x1_5 ex1_5 => ?_)
        have h := h x1_5 ex1_5
        refine J_isn F (L' := [(1, .int x1_5), (0, .ref (gb G + 244)), (2, .int x2), (3, .int x3)]) dX9_lostCopies_52 rfl (by decide) rfl ?_
        obtain ⟨x3_6, ex3_6⟩ : ∃ z : Int32, z = x3 + (nI 1) := ⟨_, rfl⟩
        have h := h x3_6 ex3_6
        refine J_iinc F (v := x3_6) (L' := [(3, .int x3_6), (1, .int x1_5), (0, .ref (gb G + 244)), (2, .int x2)]) 3 dX9_lostCopies_53 rfl (by rw [ki_1, ex3_6]) (by decide) rfl ?_
        refine J_goto F (tgt := 12) dX9_lostCopies_56 (by decide) ?_
        refine J_sub [2, 1, 3, 0] rfl ?_
        exact i12 _ _ h
      · have h := h.2 c_4
        refine J_aln F 0 dX9_lostCopies_37 rfl rfl ?_
        refine J_iln F 2 dX9_lostCopies_38 rfl rfl ?_
        refine J_iln F 3 dX9_lostCopies_39 rfl rfl ?_
        refine J_callVi F (As := [.int x2, .int x3]) (st := [.int x1]) (C_X9_isHeld l G x2 x3  h) (ci := 9) ly_244 (by decide) rfl rfl lm_X9_165 li_X9_isHeld ls_X9_isHeld ini_X9 lc_X9_isHeld hd_X9_isHeld (by decide) (Nat.le_of_ble_eq_true rfl) (by decide) rfl dX9_lostCopies_40 (fun r_7 σ_8 hh => ?_)
        clear h
        obtain ⟨e9, h⟩ := hh
        subst σ_8
        refine J_zne F (tgt := 50) dX9_lostCopies_43 (by decide) (fun c_9 => ?_) (fun c_9 => ?_)
        · have h := h.1 c_9
          refine J_ic F dX9_lostCopies_50 ki_0 ?_
          refine J_iadd F dX9_lostCopies_51 ?_
          refine J_top (fun x1_10 ex1_10 => ?_)
          have h := h x1_10 ex1_10
          refine J_isn F (L' := [(1, .int x1_10), (0, .ref (gb G + 244)), (2, .int x2), (3, .int x3)]) dX9_lostCopies_52 rfl (by decide) rfl ?_
          obtain ⟨x3_11, ex3_11⟩ : ∃ z : Int32, z = x3 + (nI 1) := ⟨_, rfl⟩
          have h := h x3_11 ex3_11
          refine J_iinc F (v := x3_11) (L' := [(3, .int x3_11), (1, .int x1_10), (0, .ref (gb G + 244)), (2, .int x2)]) 3 dX9_lostCopies_53 rfl (by rw [ki_1, ex3_11]) (by decide) rfl ?_
          refine J_goto F (tgt := 12) dX9_lostCopies_56 (by decide) ?_
          refine J_sub [2, 1, 3, 0] rfl ?_
          exact i12 _ _ h
        · have h := h.2 c_9
          refine J_ic F dX9_lostCopies_46 ki_1 ?_
          refine J_goto F (tgt := 51) dX9_lostCopies_47 (by decide) ?_
          refine J_iadd F dX9_lostCopies_51 ?_
          refine J_top (fun x1_12 ex1_12 => ?_)
          have h := h x1_12 ex1_12
          refine J_isn F (L' := [(1, .int x1_12), (0, .ref (gb G + 244)), (2, .int x2), (3, .int x3)]) dX9_lostCopies_52 rfl (by decide) rfl ?_
          obtain ⟨x3_13, ex3_13⟩ : ∃ z : Int32, z = x3 + (nI 1) := ⟨_, rfl⟩
          have h := h x3_13 ex3_13
          refine J_iinc F (v := x3_13) (L' := [(3, .int x3_13), (1, .int x1_12), (0, .ref (gb G + 244)), (2, .int x2)]) 3 dX9_lostCopies_53 rfl (by rw [ki_1, ex3_13]) (by decide) rfl ?_
          refine J_goto F (tgt := 12) dX9_lostCopies_56 (by decide) ?_
          refine J_sub [2, 1, 3, 0] rfl ?_
          exact i12 _ _ h
set_option maxRecDepth 20000 in
set_option maxHeartbeats 4000000 in
theorem wk_X9_lostCopies_4 {p : Program} {l : Launch} {e : Env} {s : State} {m : MethodId} {args : Array Value} {below : List Frame} {meth : Method} {c : Code} {G : Gp} {σ : St}   {Q : Int32 → Prop} (F : FX p s m args meth c cX9_lostCopies 4 (some .int) RX9 G)   : ∀ (n9 : Nat) (x1 : Int32) (x2 : Int32), LP2 (wp_X9_lostCopies_4 σ Q) n9 x1 x2 → J p l e (rmF 1 22) s m args below meth c 4 G (MQ below (QQ G (qI (fun r σ' => σ' = σ ∧ Q r))) args s 0 0 (fr G)) 0 0 4 [(0, .ref (gb G + 244)), (1, .int x1), (2, .int x2)] [] σ := by
  intro n9
  induction n9 with
  | zero => intro x1 x2 h; exact h.elim
  | succ n9 i4 =>
    intro x1 x2 h
    have h : wp_X9_lostCopies_4 σ Q (LP2 (wp_X9_lostCopies_4 σ Q) n9) x1 x2 := h
    unfold wp_X9_lostCopies_4 at h
    refine J_iln F 2 dX9_lostCopies_4 rfl rfl ?_
    refine J_bi F dX9_lostCopies_5 kb_100 ?_
    refine J_cge F (tgt := 65) dX9_lostCopies_7 (by decide) (fun c_14 => ?_) (fun c_14 => ?_)
    · have h := h.1 c_14
      refine J_iln F 1 dX9_lostCopies_65 rfl rfl ?_
      exact J_reti F ⟨_, rfl, rfl, h⟩ dX9_lostCopies_66
    · have h := h.2 c_14
      refine J_ic F dX9_lostCopies_10 ki_0 ?_
      refine J_isn F (L' := [(3, .int (nI 0)), (0, .ref (gb G + 244)), (1, .int x1), (2, .int x2)]) dX9_lostCopies_11 rfl (by decide) rfl ?_
      refine J_sub [1, 2, 3, 0] rfl ?_
      obtain ⟨n9, h⟩ := h
      exact wk_X9_lostCopies_12 F i4 n9 _ _ h
set_option maxRecDepth 20000 in
set_option maxHeartbeats 4000000 in
theorem C_X9_lostCopies (l : Launch) (G : Gp)   {σ : St} {Q : Int32 → Prop} (h : wp_X9_lostCopies σ  Q) : Cn l yX9_lostCopies cX9_lostCopies 4 (some .int) 1 22 G [.ref (gb G + 244)] σ (qI (fun r σ' => σ' = σ ∧ Q r)) := by
  refine Cn_of (L := [(0, .ref (gb G + 244))]) RX9 (by decide) rfl (Nat.le_of_ble_eq_true rfl) rfl ?_
  intro p e s m below meth c F
  unfold wp_X9_lostCopies at h
  refine J_ic F dX9_lostCopies_0 ki_0 ?_
  refine J_isn F (L' := [(1, .int (nI 0)), (0, .ref (gb G + 244))]) dX9_lostCopies_1 rfl (by decide) rfl ?_
  refine J_ic F dX9_lostCopies_2 ki_0 ?_
  refine J_isn F (L' := [(2, .int (nI 0)), (1, .int (nI 0)), (0, .ref (gb G + 244))]) dX9_lostCopies_3 rfl (by decide) rfl ?_
  refine J_sub [2, 1, 0] rfl ?_
  obtain ⟨n9, h⟩ := h
  exact wk_X9_lostCopies_4 F  n9 _ _ h
theorem dX9_count_0 : decode cX9_count 0 = .ok (.aload_n 0, 1) := by decide +kernel
theorem dX9_count_1 : decode cX9_count 1 = .ok (.iconst 0, 1) := by decide +kernel
theorem dX9_count_2 : decode cX9_count 2 = .ok (.putfield 54, 3) := by decide +kernel
theorem dX9_count_5 : decode cX9_count 5 = .ok (.iload_n 1, 1) := by decide +kernel
theorem dX9_count_6 : decode cX9_count 6 = .ok (.tableswitch 94 0 7 #[46, 54, 60, 66, 74, 79, 84, 89], 46) := by decide +kernel
theorem dX9_count_52 : decode cX9_count 52 = .ok (.aload_n 0, 1) := by decide +kernel
theorem dX9_count_53 : decode cX9_count 53 = .ok (.getfield 7, 3) := by decide +kernel
theorem dX9_count_56 : decode cX9_count 56 = .ok (.bipush 37, 2) := by decide +kernel
theorem dX9_count_58 : decode cX9_count 58 = .ok (.iaload, 1) := by decide +kernel
theorem dX9_count_59 : decode cX9_count 59 = .ok (.ireturn, 1) := by decide +kernel
theorem dX9_count_60 : decode cX9_count 60 = .ok (.aload_n 0, 1) := by decide +kernel
theorem dX9_count_61 : decode cX9_count 61 = .ok (.iconst 1, 1) := by decide +kernel
theorem dX9_count_62 : decode cX9_count 62 = .ok (.invokevirtual 135, 3) := by decide +kernel
theorem dX9_count_65 : decode cX9_count 65 = .ok (.ireturn, 1) := by decide +kernel
theorem dX9_count_66 : decode cX9_count 66 = .ok (.aload_n 0, 1) := by decide +kernel
theorem dX9_count_67 : decode cX9_count 67 = .ok (.iconst 2, 1) := by decide +kernel
theorem dX9_count_68 : decode cX9_count 68 = .ok (.invokevirtual 135, 3) := by decide +kernel
theorem dX9_count_71 : decode cX9_count 71 = .ok (.ireturn, 1) := by decide +kernel
theorem dX9_count_72 : decode cX9_count 72 = .ok (.aload_n 0, 1) := by decide +kernel
theorem dX9_count_73 : decode cX9_count 73 = .ok (.getfield 7, 3) := by decide +kernel
theorem dX9_count_76 : decode cX9_count 76 = .ok (.bipush 30, 2) := by decide +kernel
theorem dX9_count_78 : decode cX9_count 78 = .ok (.iaload, 1) := by decide +kernel
theorem dX9_count_79 : decode cX9_count 79 = .ok (.ireturn, 1) := by decide +kernel
theorem dX9_count_80 : decode cX9_count 80 = .ok (.aload_n 0, 1) := by decide +kernel
theorem dX9_count_81 : decode cX9_count 81 = .ok (.invokevirtual 472, 3) := by decide +kernel
theorem dX9_count_84 : decode cX9_count 84 = .ok (.ireturn, 1) := by decide +kernel
theorem dX9_count_85 : decode cX9_count 85 = .ok (.aload_n 0, 1) := by decide +kernel
theorem dX9_count_86 : decode cX9_count 86 = .ok (.invokevirtual 475, 3) := by decide +kernel
theorem dX9_count_89 : decode cX9_count 89 = .ok (.ireturn, 1) := by decide +kernel
theorem dX9_count_90 : decode cX9_count 90 = .ok (.aload_n 0, 1) := by decide +kernel
theorem dX9_count_91 : decode cX9_count 91 = .ok (.invokevirtual 478, 3) := by decide +kernel
theorem dX9_count_94 : decode cX9_count 94 = .ok (.ireturn, 1) := by decide +kernel
theorem dX9_count_95 : decode cX9_count 95 = .ok (.aload_n 0, 1) := by decide +kernel
theorem dX9_count_96 : decode cX9_count 96 = .ok (.getfield 230, 3) := by decide +kernel
theorem dX9_count_99 : decode cX9_count 99 = .ok (.ireturn, 1) := by decide +kernel
theorem dX9_count_100 : decode cX9_count 100 = .ok (.iconst (-1), 1) := by decide +kernel
theorem dX9_count_101 : decode cX9_count 101 = .ok (.ireturn, 1) := by decide +kernel
set_option maxRecDepth 20000 in
set_option maxHeartbeats 4000000 in
theorem C_X9_count (l : Launch) (G : Gp) (x1 : Int32)  {σ : St} {Q : Int32 → St → Prop} (h : wp_X9_count σ x1 Q) : Cn l yX9_count cX9_count 2 (some .int) 3 67 G [.ref (gb G + 244), .int x1] σ (qI Q) := by
  refine Cn_of (L := [(0, .ref (gb G + 244)), (1, .int x1)]) RX9 (by decide) rfl (Nat.le_of_ble_eq_true rfl) rfl ?_
  intro p e s m below meth c F
  unfold wp_X9_count at h
  refine J_aln F 0 dX9_count_0 rfl rfl ?_
  refine J_ic F dX9_count_1 ki_0 ?_
  refine J_pfi F (ci := 9) 0 rfl inX9 tyX9 tyX9_ok nmX9 ly_244 (by decide) (by decide) rfl lf_X9_54 rfl rfl (tyX9_ok 0 (by decide)) rfl rfl dX9_count_2 ?_
  refine J_st (fun σ_1 eσ_1 => ?_)
  have h := h σ_1 eσ_1
  refine J_iln F 1 dX9_count_5 rfl rfl ?_
  refine J_case (v := nI 0) (fun c_3 => ?_) (fun c_3 => ?_)
  · have h := h.1 c_3
    refine J_tabIn F (off := 46) (tgt := 52) dX9_count_6 (by decide) (by decide) (by decide) (by decide) ?_
    refine J_aln F 0 dX9_count_52 rfl rfl ?_
    refine J_gfa F (ci := 9) 1 rfl inX9 ly_244 (by decide) (by decide) rfl lf_X9_7 rfl dX9_count_53 ?_
    refine J_bi F dX9_count_56 kb_37 ?_
    refine J_ialdc F ly_245 (by decide) (by decide) dX9_count_58 ?_
    exact J_reti F ⟨_, rfl, h⟩ dX9_count_59
  · have h := h.2 c_3
    refine J_case (v := nI 1) (fun c_4 => ?_) (fun c_4 => ?_)
    · have h := h.1 c_4
      refine J_tabIn F (off := 54) (tgt := 60) dX9_count_6 (by decide) (by decide) (by decide) (by decide) ?_
      refine J_aln F 0 dX9_count_60 rfl rfl ?_
      refine J_ic F dX9_count_61 ki_1 ?_
      refine J_callVi F (As := [.int (nI 1)]) (st := []) (C_X9_bitsOf l G (nI 1)  h) (ci := 9) ly_244 (by decide) rfl rfl lm_X9_135 li_X9_bitsOf ls_X9_bitsOf ini_X9 lc_X9_bitsOf hd_X9_bitsOf (by decide) (Nat.le_of_ble_eq_true rfl) (by decide) rfl dX9_count_62 (fun r_5 σ_6 hh => ?_)
      clear h
      obtain ⟨e9, h⟩ := hh
      subst σ_6
      exact J_reti F ⟨_, rfl, h⟩ dX9_count_65
    · have h := h.2 c_4
      refine J_case (v := nI 2) (fun c_7 => ?_) (fun c_7 => ?_)
      · have h := h.1 c_7
        refine J_tabIn F (off := 60) (tgt := 66) dX9_count_6 (by decide) (by decide) (by decide) (by decide) ?_
        refine J_aln F 0 dX9_count_66 rfl rfl ?_
        refine J_ic F dX9_count_67 ki_2 ?_
        refine J_callVi F (As := [.int (nI 2)]) (st := []) (C_X9_bitsOf l G (nI 2)  h) (ci := 9) ly_244 (by decide) rfl rfl lm_X9_135 li_X9_bitsOf ls_X9_bitsOf ini_X9 lc_X9_bitsOf hd_X9_bitsOf (by decide) (Nat.le_of_ble_eq_true rfl) (by decide) rfl dX9_count_68 (fun r_8 σ_9 hh => ?_)
        clear h
        obtain ⟨e9, h⟩ := hh
        subst σ_9
        exact J_reti F ⟨_, rfl, h⟩ dX9_count_71
      · have h := h.2 c_7
        refine J_case (v := nI 3) (fun c_10 => ?_) (fun c_10 => ?_)
        · have h := h.1 c_10
          refine J_tabIn F (off := 66) (tgt := 72) dX9_count_6 (by decide) (by decide) (by decide) (by decide) ?_
          refine J_aln F 0 dX9_count_72 rfl rfl ?_
          refine J_gfa F (ci := 9) 1 rfl inX9 ly_244 (by decide) (by decide) rfl lf_X9_7 rfl dX9_count_73 ?_
          refine J_bi F dX9_count_76 kb_30 ?_
          refine J_ialdc F ly_245 (by decide) (by decide) dX9_count_78 ?_
          exact J_reti F ⟨_, rfl, h⟩ dX9_count_79
        · have h := h.2 c_10
          refine J_case (v := nI 4) (fun c_11 => ?_) (fun c_11 => ?_)
          · have h := h.1 c_11
            refine J_tabIn F (off := 74) (tgt := 80) dX9_count_6 (by decide) (by decide) (by decide) (by decide) ?_
            refine J_aln F 0 dX9_count_80 rfl rfl ?_
            refine J_callVi F (As := []) (st := []) (C_X9_storedKeys l G   h) (ci := 9) ly_244 (by decide) rfl rfl lm_X9_472 li_X9_storedKeys ls_X9_storedKeys ini_X9 lc_X9_storedKeys hd_X9_storedKeys (by decide) (Nat.le_of_ble_eq_true rfl) (by decide) rfl dX9_count_81 (fun r_12 σ_13 hh => ?_)
            clear h
            obtain ⟨e9, h⟩ := hh
            subst σ_13
            exact J_reti F ⟨_, rfl, h⟩ dX9_count_84
          · have h := h.2 c_11
            refine J_case (v := nI 5) (fun c_14 => ?_) (fun c_14 => ?_)
            · have h := h.1 c_14
              refine J_tabIn F (off := 79) (tgt := 85) dX9_count_6 (by decide) (by decide) (by decide) (by decide) ?_
              refine J_aln F 0 dX9_count_85 rfl rfl ?_
              refine J_callVi F (As := []) (st := []) (C_X9_safeKeys l G   h) (ci := 9) ly_244 (by decide) rfl rfl lm_X9_475 li_X9_safeKeys ls_X9_safeKeys ini_X9 lc_X9_safeKeys hd_X9_safeKeys (by decide) (Nat.le_of_ble_eq_true rfl) (by decide) rfl dX9_count_86 (fun r_15 σ_16 hh => ?_)
              clear h
              obtain ⟨e9, h⟩ := hh
              subst σ_16
              exact J_reti F ⟨_, rfl, h⟩ dX9_count_89
            · have h := h.2 c_14
              refine J_case (v := nI 6) (fun c_17 => ?_) (fun c_17 => ?_)
              · have h := h.1 c_17
                refine J_tabIn F (off := 84) (tgt := 90) dX9_count_6 (by decide) (by decide) (by decide) (by decide) ?_
                refine J_aln F 0 dX9_count_90 rfl rfl ?_
                refine J_callVi F (As := []) (st := []) (C_X9_lostCopies l G   h) (ci := 9) ly_244 (by decide) rfl rfl lm_X9_478 li_X9_lostCopies ls_X9_lostCopies ini_X9 lc_X9_lostCopies hd_X9_lostCopies (by decide) (Nat.le_of_ble_eq_true rfl) (by decide) rfl dX9_count_91 (fun r_18 σ_19 hh => ?_)
                clear h
                obtain ⟨e9, h⟩ := hh
                subst σ_19
                exact J_reti F ⟨_, rfl, h⟩ dX9_count_94
              · have h := h.2 c_17
                refine J_case (v := nI 7) (fun c_20 => ?_) (fun c_20 => ?_)
                · have h := h.1 c_20
                  refine J_tabIn F (off := 89) (tgt := 95) dX9_count_6 (by decide) (by decide) (by decide) (by decide) ?_
                  refine J_aln F 0 dX9_count_95 rfl rfl ?_
                  refine J_gfi F (ci := 9) 5 rfl inX9 ly_244 (by decide) (by decide) rfl lf_X9_230 rfl dX9_count_96 ?_
                  exact J_reti F ⟨_, rfl, h⟩ dX9_count_99
                · have h := h.2 c_20
                  refine J_tabOut F (tgt := 100) dX9_count_6 (tab_out 0 7 (fun k h1 h2 => by rcases (show k = 0 ∨ k = 1 ∨ k = 2 ∨ k = 3 ∨ k = 4 ∨ k = 5 ∨ k = 6 ∨ k = 7 by omega) with rfl | rfl | rfl | rfl | rfl | rfl | rfl | rfl <;> assumption)) (by decide) ?_
                  refine J_ic F dX9_count_100 ki_m1 ?_
                  exact J_reti F ⟨_, rfl, h⟩ dX9_count_101
