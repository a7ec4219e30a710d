theorem dX8_feed_0 : decode cX8_feed 0 = .ok (.aload_n 0, 1) := by decide +kernel
theorem dX8_feed_1 : decode cX8_feed 1 = .ok (.getfield 12, 3) := by decide +kernel
theorem dX8_feed_4 : decode cX8_feed 4 = .ok (.getfield 79, 3) := by decide +kernel
theorem dX8_feed_7 : decode cX8_feed 7 = .ok (.bipush 20, 2) := by decide +kernel
theorem dX8_feed_9 : decode cX8_feed 9 = .ok (.iadd, 1) := by decide +kernel
theorem dX8_feed_10 : decode cX8_feed 10 = .ok (.sipush 400, 3) := by decide +kernel
theorem dX8_feed_13 : decode cX8_feed 13 = .ok (.if_icmp .le 5, 3) := by decide +kernel
theorem dX8_feed_16 : decode cX8_feed 16 = .ok (.iconst (-1), 1) := by decide +kernel
theorem dX8_feed_17 : decode cX8_feed 17 = .ok (.ireturn, 1) := by decide +kernel
theorem dX8_feed_18 : decode cX8_feed 18 = .ok (.aload_n 0, 1) := by decide +kernel
theorem dX8_feed_19 : decode cX8_feed 19 = .ok (.getfield 12, 3) := by decide +kernel
theorem dX8_feed_22 : decode cX8_feed 22 = .ok (.iload_n 1, 1) := by decide +kernel
theorem dX8_feed_23 : decode cX8_feed 23 = .ok (.invokevirtual 82, 3) := by decide +kernel
theorem dX8_feed_26 : decode cX8_feed 26 = .ok (.aload_n 0, 1) := by decide +kernel
theorem dX8_feed_27 : decode cX8_feed 27 = .ok (.getfield 12, 3) := by decide +kernel
theorem dX8_feed_30 : decode cX8_feed 30 = .ok (.iload_n 2, 1) := by decide +kernel
theorem dX8_feed_31 : decode cX8_feed 31 = .ok (.invokevirtual 82, 3) := by decide +kernel
theorem dX8_feed_34 : decode cX8_feed 34 = .ok (.aload_n 0, 1) := by decide +kernel
theorem dX8_feed_35 : decode cX8_feed 35 = .ok (.getfield 12, 3) := by decide +kernel
theorem dX8_feed_38 : decode cX8_feed 38 = .ok (.iload_n 3, 1) := by decide +kernel
theorem dX8_feed_39 : decode cX8_feed 39 = .ok (.invokevirtual 82, 3) := by decide +kernel
theorem dX8_feed_42 : decode cX8_feed 42 = .ok (.aload_n 0, 1) := by decide +kernel
theorem dX8_feed_43 : decode cX8_feed 43 = .ok (.getfield 12, 3) := by decide +kernel
theorem dX8_feed_46 : decode cX8_feed 46 = .ok (.iload 4, 2) := by decide +kernel
theorem dX8_feed_48 : decode cX8_feed 48 = .ok (.invokevirtual 82, 3) := by decide +kernel
theorem dX8_feed_51 : decode cX8_feed 51 = .ok (.aload_n 0, 1) := by decide +kernel
theorem dX8_feed_52 : decode cX8_feed 52 = .ok (.getfield 12, 3) := by decide +kernel
theorem dX8_feed_55 : decode cX8_feed 55 = .ok (.iload 5, 2) := by decide +kernel
theorem dX8_feed_57 : decode cX8_feed 57 = .ok (.invokevirtual 82, 3) := by decide +kernel
theorem dX8_feed_60 : decode cX8_feed 60 = .ok (.aload_n 0, 1) := by decide +kernel
theorem dX8_feed_61 : decode cX8_feed 61 = .ok (.getfield 12, 3) := by decide +kernel
theorem dX8_feed_64 : decode cX8_feed 64 = .ok (.getfield 79, 3) := by decide +kernel
theorem dX8_feed_67 : decode cX8_feed 67 = .ok (.ireturn, 1) := by decide +kernel
set_option maxRecDepth 20000 in
set_option maxHeartbeats 4000000 in
theorem C_X8_feed (l : Launch) (G : Gp) (x1 : Int32) (x2 : Int32) (x3 : Int32) (x4 : Int32) (x5 : Int32)  {σ : St} {Q : Int32 → St → Prop} (h : wp_X8_feed σ x1 x2 x3 x4 x5 Q) : Cn l yX8_feed cX8_feed 6 (some .int) 1 22 G [.ref (gb G + 0), .int x1, .int x2, .int x3, .int x4, .int x5] σ (qI Q) := by
  refine Cn_of (L := [(0, .ref (gb G + 0)), (1, .int x1), (2, .int x2), (3, .int x3), (4, .int x4), (5, .int x5)]) RX8 (by decide) rfl (Nat.le_of_ble_eq_true rfl) rfl ?_
  intro p e s m below meth c F
  unfold wp_X8_feed at h
  refine J_aln F 0 dX8_feed_0 rfl rfl ?_
  refine J_gfa F (ci := 8) 0 rfl inX8 ly_0 (by decide) (by decide) rfl lf_X8_12 rfl dX8_feed_1 ?_
  refine J_gfi F (ci := 6) 1 rfl inX6 ly_1 (by decide) (by decide) rfl lf_X8_79 rfl dX8_feed_4 ?_
  refine J_bi F dX8_feed_7 kb_20 ?_
  refine J_iadd F dX8_feed_9 ?_
  refine J_si F dX8_feed_10 ks_400 ?_
  refine J_cle F (tgt := 18) dX8_feed_13 (by decide) (fun c_1 => ?_) (fun c_1 => ?_)
  · have h := h.1 c_1
    refine J_aln F 0 dX8_feed_18 rfl rfl ?_
    refine J_gfa F (ci := 8) 0 rfl inX8 ly_0 (by decide) (by decide) rfl lf_X8_12 rfl dX8_feed_19 ?_
    refine J_iln F 1 dX8_feed_22 rfl rfl ?_
    refine J_callVv F (As := [.int x1]) (st := []) (C_X6_append l G x1  h) (ci := 6) ly_1 (by decide) rfl rfl lm_X8_82 li_X6_append ls_X6_append ini_X6 lc_X6_append hd_X6_append (by decide) (Nat.le_of_ble_eq_true rfl) (by decide) rfl dX8_feed_23 (fun σ_2 h => ?_)
    refine J_aln F 0 dX8_feed_26 rfl rfl ?_
    refine J_gfa F (ci := 8) 0 rfl inX8 ly_0 (by decide) (by decide) rfl lf_X8_12 rfl dX8_feed_27 ?_
    refine J_iln F 2 dX8_feed_30 rfl rfl ?_
    refine J_callVv F (As := [.int x2]) (st := []) (C_X6_append l G x2  h) (ci := 6) ly_1 (by decide) rfl rfl lm_X8_82 li_X6_append ls_X6_append ini_X6 lc_X6_append hd_X6_append (by decide) (Nat.le_of_ble_eq_true rfl) (by decide) rfl dX8_feed_31 (fun σ_3 h => ?_)
    refine J_aln F 0 dX8_feed_34 rfl rfl ?_
    refine J_gfa F (ci := 8) 0 rfl inX8 ly_0 (by decide) (by decide) rfl lf_X8_12 rfl dX8_feed_35 ?_
    refine J_iln F 3 dX8_feed_38 rfl rfl ?_
    refine J_callVv F (As := [.int x3]) (st := []) (C_X6_append l G x3  h) (ci := 6) ly_1 (by decide) rfl rfl lm_X8_82 li_X6_append ls_X6_append ini_X6 lc_X6_append hd_X6_append (by decide) (Nat.le_of_ble_eq_true rfl) (by decide) rfl dX8_feed_39 (fun σ_4 h => ?_)
    refine J_aln F 0 dX8_feed_42 rfl rfl ?_
    refine J_gfa F (ci := 8) 0 rfl inX8 ly_0 (by decide) (by decide) rfl lf_X8_12 rfl dX8_feed_43 ?_
    refine J_il F 4 dX8_feed_46 rfl ?_
    refine J_callVv F (As := [.int x4]) (st := []) (C_X6_append l G x4  h) (ci := 6) ly_1 (by decide) rfl rfl lm_X8_82 li_X6_append ls_X6_append ini_X6 lc_X6_append hd_X6_append (by decide) (Nat.le_of_ble_eq_true rfl) (by decide) rfl dX8_feed_48 (fun σ_5 h => ?_)
    refine J_aln F 0 dX8_feed_51 rfl rfl ?_
    refine J_gfa F (ci := 8) 0 rfl inX8 ly_0 (by decide) (by decide) rfl lf_X8_12 rfl dX8_feed_52 ?_
    refine J_il F 5 dX8_feed_55 rfl ?_
    refine J_callVv F (As := [.int x5]) (st := []) (C_X6_append l G x5  h) (ci := 6) ly_1 (by decide) rfl rfl lm_X8_82 li_X6_append ls_X6_append ini_X6 lc_X6_append hd_X6_append (by decide) (Nat.le_of_ble_eq_true rfl) (by decide) rfl dX8_feed_57 (fun σ_6 h => ?_)
    refine J_aln F 0 dX8_feed_60 rfl rfl ?_
    refine J_gfa F (ci := 8) 0 rfl inX8 ly_0 (by decide) (by decide) rfl lf_X8_12 rfl dX8_feed_61 ?_
    refine J_gfi F (ci := 6) 1 rfl inX6 ly_1 (by decide) (by decide) rfl lf_X8_79 rfl dX8_feed_64 ?_
    exact J_reti F ⟨_, rfl, h⟩ dX8_feed_67
  · have h := h.2 c_1
    refine J_ic F dX8_feed_16 ki_m1 ?_
    exact J_reti F ⟨_, rfl, h⟩ dX8_feed_17
theorem dX8_end_0 : decode cX8_end 0 = .ok (.iload_n 1, 1) := by decide +kernel
theorem dX8_end_1 : decode cX8_end 1 = .ok (.ifCond .lt 14, 3) := by decide +kernel
theorem dX8_end_4 : decode cX8_end 4 = .ok (.iload_n 1, 1) := by decide +kernel
theorem dX8_end_5 : decode cX8_end 5 = .ok (.aload_n 0, 1) := by decide +kernel
theorem dX8_end_6 : decode cX8_end 6 = .ok (.getfield 12, 3) := by decide +kernel
theorem dX8_end_9 : decode cX8_end 9 = .ok (.getfield 79, 3) := by decide +kernel
theorem dX8_end_12 : decode cX8_end 12 = .ok (.if_icmp .le 5, 3) := by decide +kernel
theorem dX8_end_15 : decode cX8_end 15 = .ok (.iconst 0, 1) := by decide +kernel
theorem dX8_end_16 : decode cX8_end 16 = .ok (.ireturn, 1) := by decide +kernel
theorem dX8_end_17 : decode cX8_end 17 = .ok (.aload_n 0, 1) := by decide +kernel
theorem dX8_end_18 : decode cX8_end 18 = .ok (.getfield 12, 3) := by decide +kernel
theorem dX8_end_21 : decode cX8_end 21 = .ok (.iload_n 1, 1) := by decide +kernel
theorem dX8_end_22 : decode cX8_end 22 = .ok (.putfield 79, 3) := by decide +kernel
theorem dX8_end_25 : decode cX8_end 25 = .ok (.iconst 1, 1) := by decide +kernel
theorem dX8_end_26 : decode cX8_end 26 = .ok (.ireturn, 1) := by decide +kernel
set_option maxRecDepth 20000 in
set_option maxHeartbeats 4000000 in
theorem C_X8_end (l : Launch) (G : Gp) (x1 : Int32)  {σ : St} {Q : Int32 → St → Prop} (h : wp_X8_end σ x1 Q) : Cn l yX8_end cX8_end 2 (some .boolean) 0 0 G [.ref (gb G + 0), .int x1] σ (qI Q) := by
  refine Cn_of (L := [(0, .ref (gb G + 0)), (1, .int x1)]) RX8 (by decide) rfl (Nat.le_of_ble_eq_true rfl) rfl ?_
  intro p e s m below meth c F
  unfold wp_X8_end at h
  refine J_iln F 1 dX8_end_0 rfl rfl ?_
  refine J_zlt F (tgt := 15) dX8_end_1 (by decide) (fun c_1 => ?_) (fun c_1 => ?_)
  · have h := h.1 c_1
    refine J_ic F dX8_end_15 ki_0 ?_
    exact J_retz F (Or.inl rfl) ⟨_, rfl, h⟩ dX8_end_16
  · have h := h.2 c_1
    refine J_iln F 1 dX8_end_4 rfl rfl ?_
    refine J_aln F 0 dX8_end_5 rfl rfl ?_
    refine J_gfa F (ci := 8) 0 rfl inX8 ly_0 (by decide) (by decide) rfl lf_X8_12 rfl dX8_end_6 ?_
    refine J_gfi F (ci := 6) 1 rfl inX6 ly_1 (by decide) (by decide) rfl lf_X8_79 rfl dX8_end_9 ?_
    refine J_cle F (tgt := 17) dX8_end_12 (by decide) (fun c_2 => ?_) (fun c_2 => ?_)
    · have h := h.1 c_2
      refine J_aln F 0 dX8_end_17 rfl rfl ?_
      refine J_gfa F (ci := 8) 0 rfl inX8 ly_0 (by decide) (by decide) rfl lf_X8_12 rfl dX8_end_18 ?_
      refine J_iln F 1 dX8_end_21 rfl rfl ?_
      refine J_pfi F (ci := 6) 1 rfl inX6 tyX6 tyX6_ok nmX6 ly_1 (by decide) (by decide) rfl lf_X8_79 rfl rfl (tyX6_ok 1 (by decide)) rfl rfl dX8_end_22 ?_
      refine J_st (fun σ_3 eσ_3 => ?_)
      have h := h σ_3 eσ_3
      refine J_ic F dX8_end_25 ki_1 ?_
      exact J_retz F (Or.inr rfl) ⟨_, rfl, h⟩ dX8_end_26
    · have h := h.2 c_2
      refine J_ic F dX8_end_15 ki_0 ?_
      exact J_retz F (Or.inl rfl) ⟨_, rfl, h⟩ dX8_end_16
theorem dX8_dropText_0 : decode cX8_dropText 0 = .ok (.aload_n 0, 1) := by decide +kernel
theorem dX8_dropText_1 : decode cX8_dropText 1 = .ok (.iload_n 1, 1) := by decide +kernel
theorem dX8_dropText_2 : decode cX8_dropText 2 = .ok (.putfield 72, 3) := by decide +kernel
theorem dX8_dropText_5 : decode cX8_dropText 5 = .ok (.aload_n 0, 1) := by decide +kernel
theorem dX8_dropText_6 : decode cX8_dropText 6 = .ok (.getfield 66, 3) := by decide +kernel
theorem dX8_dropText_9 : decode cX8_dropText 9 = .ok (.astore_n 2, 1) := by decide +kernel
theorem dX8_dropText_10 : decode cX8_dropText 10 = .ok (.aload_n 0, 1) := by decide +kernel
theorem dX8_dropText_11 : decode cX8_dropText 11 = .ok (.aload_n 0, 1) := by decide +kernel
theorem dX8_dropText_12 : decode cX8_dropText 12 = .ok (.getfield 69, 3) := by decide +kernel
theorem dX8_dropText_15 : decode cX8_dropText 15 = .ok (.putfield 66, 3) := by decide +kernel
theorem dX8_dropText_18 : decode cX8_dropText 18 = .ok (.aload_n 0, 1) := by decide +kernel
theorem dX8_dropText_19 : decode cX8_dropText 19 = .ok (.aload_n 2, 1) := by decide +kernel
theorem dX8_dropText_20 : decode cX8_dropText 20 = .ok (.putfield 69, 3) := by decide +kernel
theorem dX8_dropText_23 : decode cX8_dropText 23 = .ok (.return_, 1) := by decide +kernel
set_option maxRecDepth 20000 in
set_option maxHeartbeats 4000000 in
theorem C_X8_dropText (l : Launch) (G : Gp) (x1 : Int32)  {σ : St} {Q : St → Prop} (h : wp_X8_dropText σ x1 Q) : Cn l yX8_dropText cX8_dropText 3 none 0 0 G [.ref (gb G + 0), .int x1] σ (qV Q) := by
  refine Cn_of (L := [(0, .ref (gb G + 0)), (1, .int x1)]) RX8 (by decide) rfl (Nat.le_of_ble_eq_true rfl) rfl ?_
  intro p e s m below meth c F
  unfold wp_X8_dropText at h
  refine J_aln F 0 dX8_dropText_0 rfl rfl ?_
  refine J_iln F 1 dX8_dropText_1 rfl rfl ?_
  refine J_pfi F (ci := 8) 10 rfl inX8 tyX8 tyX8_ok nmX8 ly_0 (by decide) (by decide) rfl lf_X8_72 rfl rfl (tyX8_ok 10 (by decide)) rfl rfl dX8_dropText_2 ?_
  refine J_st (fun σ_1 eσ_1 => ?_)
  have h := h σ_1 eσ_1
  refine J_aln F 0 dX8_dropText_5 rfl rfl ?_
  refine J_gfm F (ci := 8) 8 rfl inX8 ly_0 (by decide) (by decide) rfl lf_X8_66 rfl dX8_dropText_6 ?_
  obtain ⟨h_2, h⟩ := h
  refine J_asn F (L' := [(2, .ref (gb G + ((σ_1 0 8).toNatClampNeg))), (0, .ref (gb G + 0)), (1, .int x1)]) dX8_dropText_9 rfl (by decide) rfl ?_
  refine J_aln F 1 dX8_dropText_10 rfl rfl ?_
  refine J_aln F 1 dX8_dropText_11 rfl rfl ?_
  refine J_gfm F (ci := 8) 9 rfl inX8 ly_0 (by decide) (by decide) rfl lf_X8_69 rfl dX8_dropText_12 ?_
  obtain ⟨h_3, h⟩ := h
  refine J_pfm F (ci := 8) 8 rfl inX8 tyX8 tyX8_ok nmX8 ly_0 (by decide) (by decide) rfl lf_X8_66 rfl rfl (tyX8_ok 8 (by decide)) tnc_lt rfl rfl dX8_dropText_15 ?_
  refine J_st (fun σ_4 eσ_4 => ?_)
  have h := h σ_4 eσ_4
  refine J_aln F 1 dX8_dropText_18 rfl rfl ?_
  refine J_aln F 0 dX8_dropText_19 rfl rfl ?_
  refine J_pfm F (ci := 8) 9 rfl inX8 tyX8 tyX8_ok nmX8 ly_0 (by decide) (by decide) rfl lf_X8_69 rfl rfl (tyX8_ok 9 (by decide)) tnc_lt rfl rfl dX8_dropText_20 ?_
  refine J_st (fun σ_5 eσ_5 => ?_)
  have h := h σ_5 eσ_5
  exact J_retv F ⟨rfl, h⟩ dX8_dropText_23
theorem dX8_acts_0 : decode cX8_acts 0 = .ok (.aload_n 0, 1) := by decide +kernel
theorem dX8_acts_1 : decode cX8_acts 1 = .ok (.getfield 69, 3) := by decide +kernel
theorem dX8_acts_4 : decode cX8_acts 4 = .ok (.aload_n 0, 1) := by decide +kernel
theorem dX8_acts_5 : decode cX8_acts 5 = .ok (.getfield 66, 3) := by decide +kernel
theorem dX8_acts_8 : decode cX8_acts 8 = .ok (.invokevirtual 86, 3) := by decide +kernel
theorem dX8_acts_11 : decode cX8_acts 11 = .ok (.aload_n 0, 1) := by decide +kernel
theorem dX8_acts_12 : decode cX8_acts 12 = .ok (.getfield 21, 3) := by decide +kernel
theorem dX8_acts_15 : decode cX8_acts 15 = .ok (.invokevirtual 90, 3) := by decide +kernel
theorem dX8_acts_18 : decode cX8_acts 18 = .ok (.iconst 0, 1) := by decide +kernel
theorem dX8_acts_19 : decode cX8_acts 19 = .ok (.istore_n 1, 1) := by decide +kernel
theorem dX8_acts_20 : decode cX8_acts 20 = .ok (.iconst 0, 1) := by decide +kernel
theorem dX8_acts_21 : decode cX8_acts 21 = .ok (.istore_n 2, 1) := by decide +kernel
theorem dX8_acts_22 : decode cX8_acts 22 = .ok (.iconst 0, 1) := by decide +kernel
theorem dX8_acts_23 : decode cX8_acts 23 = .ok (.istore_n 3, 1) := by decide +kernel
theorem dX8_acts_24 : decode cX8_acts 24 = .ok (.iload_n 3, 1) := by decide +kernel
theorem dX8_acts_25 : decode cX8_acts 25 = .ok (.bipush 14, 2) := by decide +kernel
theorem dX8_acts_27 : decode cX8_acts 27 = .ok (.if_icmp .gt 58, 3) := by decide +kernel
theorem dX8_acts_30 : decode cX8_acts 30 = .ok (.iload_n 1, 1) := by decide +kernel
theorem dX8_acts_31 : decode cX8_acts 31 = .ok (.ifCond .ne 54, 3) := by decide +kernel
theorem dX8_acts_34 : decode cX8_acts 34 = .ok (.aload_n 0, 1) := by decide +kernel
theorem dX8_acts_35 : decode cX8_acts 35 = .ok (.getfield 21, 3) := by decide +kernel
theorem dX8_acts_38 : decode cX8_acts 38 = .ok (.aload_n 0, 1) := by decide +kernel
theorem dX8_acts_39 : decode cX8_acts 39 = .ok (.getfield 28, 3) := by decide +kernel
theorem dX8_acts_42 : decode cX8_acts 42 = .ok (.invokevirtual 93, 3) := by decide +kernel
theorem dX8_acts_45 : decode cX8_acts 45 = .ok (.ifCond .eq 40, 3) := by decide +kernel
theorem dX8_acts_48 : decode cX8_acts 48 = .ok (.aload_n 0, 1) := by decide +kernel
theorem dX8_acts_49 : decode cX8_acts 49 = .ok (.getfield 66, 3) := by decide +kernel
theorem dX8_acts_52 : decode cX8_acts 52 = .ok (.aload_n 0, 1) := by decide +kernel
theorem dX8_acts_53 : decode cX8_acts 53 = .ok (.getfield 28, 3) := by decide +kernel
theorem dX8_acts_56 : decode cX8_acts 56 = .ok (.invokevirtual 97, 3) := by decide +kernel
theorem dX8_acts_59 : decode cX8_acts 59 = .ok (.istore_n 1, 1) := by decide +kernel
theorem dX8_acts_60 : decode cX8_acts 60 = .ok (.iload_n 1, 1) := by decide +kernel
theorem dX8_acts_61 : decode cX8_acts 61 = .ok (.ifCond .ne 18, 3) := by decide +kernel
theorem dX8_acts_64 : decode cX8_acts 64 = .ok (.aload_n 0, 1) := by decide +kernel
theorem dX8_acts_65 : decode cX8_acts 65 = .ok (.getfield 66, 3) := by decide +kernel
theorem dX8_acts_68 : decode cX8_acts 68 = .ok (.aload_n 0, 1) := by decide +kernel
theorem dX8_acts_69 : decode cX8_acts 69 = .ok (.getfield 28, 3) := by decide +kernel
theorem dX8_acts_72 : decode cX8_acts 72 = .ok (.invokevirtual 101, 3) := by decide +kernel
theorem dX8_acts_75 : decode cX8_acts 75 = .ok (.pop, 1) := by decide +kernel
theorem dX8_acts_76 : decode cX8_acts 76 = .ok (.iinc 2 1, 3) := by decide +kernel
theorem dX8_acts_79 : decode cX8_acts 79 = .ok (.iinc 3 1, 3) := by decide +kernel
theorem dX8_acts_82 : decode cX8_acts 82 = .ok (.goto (-58), 3) := by decide +kernel
theorem dX8_acts_85 : decode cX8_acts 85 = .ok (.aload_n 0, 1) := by decide +kernel
theorem dX8_acts_86 : decode cX8_acts 86 = .ok (.getfield 12, 3) := by decide +kernel
theorem dX8_acts_89 : decode cX8_acts 89 = .ok (.iconst 0, 1) := by decide +kernel
theorem dX8_acts_90 : decode cX8_acts 90 = .ok (.putfield 79, 3) := by decide +kernel
theorem dX8_acts_93 : decode cX8_acts 93 = .ok (.iload_n 1, 1) := by decide +kernel
theorem dX8_acts_94 : decode cX8_acts 94 = .ok (.ifCond .eq 29, 3) := by decide +kernel
theorem dX8_acts_97 : decode cX8_acts 97 = .ok (.aload_n 0, 1) := by decide +kernel
theorem dX8_acts_98 : decode cX8_acts 98 = .ok (.iload_n 1, 1) := by decide +kernel
theorem dX8_acts_99 : decode cX8_acts 99 = .ok (.putfield 76, 3) := by decide +kernel
theorem dX8_acts_102 : decode cX8_acts 102 = .ok (.aload_n 0, 1) := by decide +kernel
theorem dX8_acts_103 : decode cX8_acts 103 = .ok (.aload_n 0, 1) := by decide +kernel
theorem dX8_acts_104 : decode cX8_acts 104 = .ok (.getfield 21, 3) := by decide +kernel
theorem dX8_acts_107 : decode cX8_acts 107 = .ok (.getfield 104, 3) := by decide +kernel
theorem dX8_acts_110 : decode cX8_acts 110 = .ok (.invokevirtual 107, 3) := by decide +kernel
theorem dX8_acts_113 : decode cX8_acts 113 = .ok (.new 110, 3) := by decide +kernel
theorem dX8_acts_116 : decode cX8_acts 116 = .ok (.dup, 1) := by decide +kernel
theorem dX8_acts_117 : decode cX8_acts 117 = .ok (.ldc 112, 2) := by decide +kernel
theorem dX8_acts_119 : decode cX8_acts 119 = .ok (.invokespecial 114, 3) := by decide +kernel
theorem dX8_acts_122 : decode cX8_acts 122 = .ok (.athrow, 1) := by decide +kernel
theorem dX8_acts_123 : decode cX8_acts 123 = .ok (.aload_n 0, 1) := by decide +kernel
theorem dX8_acts_124 : decode cX8_acts 124 = .ok (.getfield 21, 3) := by decide +kernel
theorem dX8_acts_127 : decode cX8_acts 127 = .ok (.getfield 117, 3) := by decide +kernel
theorem dX8_acts_130 : decode cX8_acts 130 = .ok (.ifCond .eq 24, 3) := by decide +kernel
theorem dX8_acts_133 : decode cX8_acts 133 = .ok (.aload_n 0, 1) := by decide +kernel
theorem dX8_acts_134 : decode cX8_acts 134 = .ok (.aload_n 0, 1) := by decide +kernel
theorem dX8_acts_135 : decode cX8_acts 135 = .ok (.getfield 21, 3) := by decide +kernel
theorem dX8_acts_138 : decode cX8_acts 138 = .ok (.getfield 120, 3) := by decide +kernel
theorem dX8_acts_141 : decode cX8_acts 141 = .ok (.invokevirtual 107, 3) := by decide +kernel
theorem dX8_acts_144 : decode cX8_acts 144 = .ok (.new 110, 3) := by decide +kernel
theorem dX8_acts_147 : decode cX8_acts 147 = .ok (.dup, 1) := by decide +kernel
theorem dX8_acts_148 : decode cX8_acts 148 = .ok (.ldc 123, 2) := by decide +kernel
theorem dX8_acts_150 : decode cX8_acts 150 = .ok (.invokespecial 114, 3) := by decide +kernel
theorem dX8_acts_153 : decode cX8_acts 153 = .ok (.athrow, 1) := by decide +kernel
theorem dX8_acts_154 : decode cX8_acts 154 = .ok (.aload_n 0, 1) := by decide +kernel
theorem dX8_acts_155 : decode cX8_acts 155 = .ok (.iconst (-1), 1) := by decide +kernel
theorem dX8_acts_156 : decode cX8_acts 156 = .ok (.putfield 72, 3) := by decide +kernel
theorem dX8_acts_159 : decode cX8_acts 159 = .ok (.aload_n 0, 1) := by decide +kernel
theorem dX8_acts_160 : decode cX8_acts 160 = .ok (.getfield 35, 3) := by decide +kernel
theorem dX8_acts_163 : decode cX8_acts 163 = .ok (.invokevirtual 125, 3) := by decide +kernel
theorem dX8_acts_166 : decode cX8_acts 166 = .ok (.iload_n 2, 1) := by decide +kernel
theorem dX8_acts_167 : decode cX8_acts 167 = .ok (.ifCond .le 8, 3) := by decide +kernel
theorem dX8_acts_170 : decode cX8_acts 170 = .ok (.aload_n 0, 1) := by decide +kernel
theorem dX8_acts_171 : decode cX8_acts 171 = .ok (.iconst 0, 1) := by decide +kernel
theorem dX8_acts_172 : decode cX8_acts 172 = .ok (.putfield 76, 3) := by decide +kernel
theorem dX8_acts_175 : decode cX8_acts 175 = .ok (.iload_n 2, 1) := by decide +kernel
theorem dX8_acts_176 : decode cX8_acts 176 = .ok (.ireturn, 1) := by decide +kernel
set_option maxRecDepth 20000 in
set_option maxHeartbeats 4000000 in
theorem wk_X8_acts_85 {p : Program} {l : Launch} {e : Env} {s : State} {m : MethodId} {args : Array Value} {below : List Frame} {meth : Method} {c : Code} {G : Gp} {σ : St} {x1 : Int32} {x2 : Int32}  {Q : Int32 → St → Prop} {QX : String → St → Prop} (F : FX p s m args meth c cX8_acts 4 (some .int) RX8 G) (hl : l.stackTraces = false) (hT : ∀ x ∈ c.exceptionTable.toList, False)   (h : wp_X8_acts_85 σ x1 x2 Q QX) : J p l e (rmX 9 206 2 12) s m args below meth c 4 G (vx_MQ below (QQ G (qI Q)) (XX G QX) args s 2 12 (fr G)) 0 0 85 [(0, .ref (gb G + 0)), (1, .int x1), (2, .int x2)] [] σ := by
  unfold wp_X8_acts_85 at h
  refine J_aln F 0 dX8_acts_85 rfl rfl ?_
  refine J_gfa F (ci := 8) 0 rfl inX8 ly_0 (by decide) (by decide) rfl lf_X8_12 rfl dX8_acts_86 ?_
  refine J_ic F dX8_acts_89 ki_0 ?_
  refine J_pfi F (ci := 6) 1 rfl inX6 tyX6 tyX6_ok nmX6 ly_1 (by decide) (by decide) rfl lf_X8_79 rfl rfl (tyX6_ok 1 (by decide)) rfl rfl dX8_acts_90 ?_
  refine J_st (fun σ_1 eσ_1 => ?_)
  have h := h σ_1 eσ_1
  refine J_iln F 1 dX8_acts_93 rfl rfl ?_
  refine J_zeq F (tgt := 123) dX8_acts_94 (by decide) (fun c_2 => ?_) (fun c_2 => ?_)
  · have h := h.1 c_2
    refine J_aln F 0 dX8_acts_123 rfl rfl ?_
    refine J_gfa F (ci := 8) 1 rfl inX8 ly_0 (by decide) (by decide) rfl lf_X8_21 rfl dX8_acts_124 ?_
    refine J_gfi F (ci := 3) 4 rfl inX3 ly_3 (by decide) (by decide) rfl lf_X8_117 rfl dX8_acts_127 ?_
    refine J_zeq F (tgt := 154) dX8_acts_130 (by decide) (fun c_3 => ?_) (fun c_3 => ?_)
    · have h := h.1 c_3
      refine J_aln F 0 dX8_acts_154 rfl rfl ?_
      refine J_ic F dX8_acts_155 ki_m1 ?_
      refine J_pfi F (ci := 8) 10 rfl inX8 tyX8 tyX8_ok nmX8 ly_0 (by decide) (by decide) rfl lf_X8_72 rfl rfl (tyX8_ok 10 (by decide)) rfl rfl dX8_acts_156 ?_
      refine J_st (fun σ_4 eσ_4 => ?_)
      have h := h σ_4 eσ_4
      refine J_aln F 0 dX8_acts_159 rfl rfl ?_
      refine J_gfa F (ci := 8) 3 rfl inX8 ly_0 (by decide) (by decide) rfl lf_X8_35 rfl dX8_acts_160 ?_
      refine J_callVv F (As := []) (st := []) (C_X2_forget l G   h) (ci := 2) ly_6 (by decide) rfl rfl lm_X8_125 li_X2_forget ls_X2_forget ini_X2 lc_X2_forget hd_X2_forget (by decide) (Nat.le_of_ble_eq_true rfl) (by decide) rfl dX8_acts_163 (fun σ_5 h => ?_)
      refine J_iln F 2 dX8_acts_166 rfl rfl ?_
      refine J_zle F (tgt := 175) dX8_acts_167 (by decide) (fun c_6 => ?_) (fun c_6 => ?_)
      · have h := h.1 c_6
        refine J_iln F 2 dX8_acts_175 rfl rfl ?_
        exact J_retiX F (by decide) (by decide) ⟨_, rfl, h⟩ dX8_acts_176
      · have h := h.2 c_6
        refine J_aln F 0 dX8_acts_170 rfl rfl ?_
        refine J_ic F dX8_acts_171 ki_0 ?_
        refine J_pfi F (ci := 8) 11 rfl inX8 tyX8 tyX8_ok nmX8 ly_0 (by decide) (by decide) rfl lf_X8_76 rfl rfl (tyX8_ok 11 (by decide)) rfl rfl dX8_acts_172 ?_
        refine J_st (fun σ_7 eσ_7 => ?_)
        have h := h σ_7 eσ_7
        refine J_iln F 2 dX8_acts_175 rfl rfl ?_
        exact J_retiX F (by decide) (by decide) ⟨_, rfl, h⟩ dX8_acts_176
    · have h := h.2 c_3
      refine J_aln F 0 dX8_acts_133 rfl rfl ?_
      refine J_aln F 0 dX8_acts_134 rfl rfl ?_
      refine J_gfa F (ci := 8) 1 rfl inX8 ly_0 (by decide) (by decide) rfl lf_X8_21 rfl dX8_acts_135 ?_
      refine J_gfi F (ci := 3) 1 rfl inX3 ly_3 (by decide) (by decide) rfl lf_X8_120 rfl dX8_acts_138 ?_
      refine J_callVv F (As := [.int (σ_1 3 1)]) (st := []) (C_X8_dropText l G (σ_1 3 1)  h) (ci := 8) ly_0 (by decide) rfl rfl lm_X8_107 li_X8_dropText ls_X8_dropText ini_X8 lc_X8_dropText hd_X8_dropText (by decide) (Nat.le_of_ble_eq_true rfl) (by decide) rfl dX8_acts_141 (fun σ_8 h => ?_)
      exact J_throw hl F hT th_X8_110_123 (by decide) (Nat.le_of_ble_eq_true rfl) (by decide) (by decide) h dX8_acts_144 dX8_acts_147 dX8_acts_148 dX8_acts_150 dX8_acts_153
  · have h := h.2 c_2
    refine J_aln F 0 dX8_acts_97 rfl rfl ?_
    refine J_iln F 1 dX8_acts_98 rfl rfl ?_
    refine J_pfi F (ci := 8) 11 rfl inX8 tyX8 tyX8_ok nmX8 ly_0 (by decide) (by decide) rfl lf_X8_76 rfl rfl (tyX8_ok 11 (by decide)) rfl rfl dX8_acts_99 ?_
    refine J_st (fun σ_9 eσ_9 => ?_)
    have h := h σ_9 eσ_9
    refine J_aln F 0 dX8_acts_102 rfl rfl ?_
    refine J_aln F 0 dX8_acts_103 rfl rfl ?_
    refine J_gfa F (ci := 8) 1 rfl inX8 ly_0 (by decide) (by decide) rfl lf_X8_21 rfl dX8_acts_104 ?_
    refine J_gfi F (ci := 3) 2 rfl inX3 ly_3 (by decide) (by decide) rfl lf_X8_104 rfl dX8_acts_107 ?_
    refine J_callVv F (As := [.int (σ_9 3 2)]) (st := []) (C_X8_dropText l G (σ_9 3 2)  h) (ci := 8) ly_0 (by decide) rfl rfl lm_X8_107 li_X8_dropText ls_X8_dropText ini_X8 lc_X8_dropText hd_X8_dropText (by decide) (Nat.le_of_ble_eq_true rfl) (by decide) rfl dX8_acts_110 (fun σ_10 h => ?_)
    exact J_throw hl F hT th_X8_110_112 (by decide) (Nat.le_of_ble_eq_true rfl) (by decide) (by decide) h dX8_acts_113 dX8_acts_116 dX8_acts_117 dX8_acts_119 dX8_acts_122
set_option maxRecDepth 20000 in
set_option maxHeartbeats 4000000 in
theorem wk_X8_acts_24 {p : Program} {l : Launch} {e : Env} {s : State} {m : MethodId} {args : Array Value} {below : List Frame} {meth : Method} {c : Code} {G : Gp}   {Q : Int32 → St → Prop} {QX : String → St → Prop} (F : FX p s m args meth c cX8_acts 4 (some .int) RX8 G) (hl : l.stackTraces = false) (hT : ∀ x ∈ c.exceptionTable.toList, False)   : ∀ (n9 : Nat) (σ : St) (x1 : Int32) (x2 : Int32) (x3 : Int32), LP4 (wp_X8_acts_24 Q QX) n9 σ x1 x2 x3 → J p l e (rmX 9 206 2 12) s m args below meth c 4 G (vx_MQ below (QQ G (qI Q)) (XX G QX) args s 2 12 (fr G)) 0 0 24 [(0, .ref (gb G + 0)), (1, .int x1), (2, .int x2), (3, .int x3)] [] σ := by
  intro n9
  induction n9 with
  | zero => intro σ x1 x2 x3 h; exact h.elim
  | succ n9 i24 =>
    intro σ x1 x2 x3 h
    have h : wp_X8_acts_24 Q QX (LP4 (wp_X8_acts_24 Q QX) n9) σ x1 x2 x3 := h
    unfold wp_X8_acts_24 at h
    refine J_iln F 3 dX8_acts_24 rfl rfl ?_
    refine J_bi F dX8_acts_25 kb_14 ?_
    refine J_cgt F (tgt := 85) dX8_acts_27 (by decide) (fun c_11 => ?_) (fun c_11 => ?_)
    · have h := h.1 c_11
      refine J_sub [0, 1, 2] rfl ?_
      exact wk_X8_acts_85 F hl hT h
    · have h := h.2 c_11
      refine J_iln F 1 dX8_acts_30 rfl rfl ?_
      refine J_zne F (tgt := 85) dX8_acts_31 (by decide) (fun c_12 => ?_) (fun c_12 => ?_)
      · have h := h.1 c_12
        refine J_sub [0, 1, 2] rfl ?_
        exact wk_X8_acts_85 F hl hT h
      · have h := h.2 c_12
        refine J_aln F 0 dX8_acts_34 rfl rfl ?_
        refine J_gfa F (ci := 8) 1 rfl inX8 ly_0 (by decide) (by decide) rfl lf_X8_21 rfl dX8_acts_35 ?_
        refine J_aln F 0 dX8_acts_38 rfl rfl ?_
        refine J_gfa F (ci := 8) 2 rfl inX8 ly_0 (by decide) (by decide) rfl lf_X8_28 rfl dX8_acts_39 ?_
        refine J_callVi F (As := [.ref (gb G + 4)]) (st := []) (C_X3_takeAct l G   h) (ci := 3) ly_3 (by decide) rfl rfl lm_X8_93 li_X3_takeAct ls_X3_takeAct ini_X3 lc_X3_takeAct hd_X3_takeAct (by decide) (Nat.le_of_ble_eq_true rfl) (by decide) rfl dX8_acts_42 (fun r_13 σ_14 h => ?_)
        refine J_zeq F (tgt := 85) dX8_acts_45 (by decide) (fun c_15 => ?_) (fun c_15 => ?_)
        · have h := h.1 c_15
          refine J_sub [0, 1, 2] rfl ?_
          exact wk_X8_acts_85 F hl hT h
        · have h := h.2 c_15
          refine J_aln F 0 dX8_acts_48 rfl rfl ?_
          refine J_gfm F (ci := 8) 8 rfl inX8 ly_0 (by decide) (by decide) rfl lf_X8_66 rfl dX8_acts_49 ?_
          obtain ⟨h_16, h⟩ := h
          refine J_aln F 0 dX8_acts_52 rfl rfl ?_
          refine J_gfa F (ci := 8) 2 rfl inX8 ly_0 (by decide) (by decide) rfl lf_X8_28 rfl dX8_acts_53 ?_
          refine J_callVi F (As := [.ref (gb G + 4)]) (st := []) (C_X1_refusalOf l G ((σ_14 0 8).toNatClampNeg) h_16 h) (ci := 1) h_16 (by decide) rfl rfl lm_X8_97 li_X1_refusalOf ls_X1_refusalOf ini_X1 lc_X1_refusalOf hd_X1_refusalOf (by decide) (Nat.le_of_ble_eq_true rfl) (by decide) rfl dX8_acts_56 (fun r_17 σ_18 hh => ?_)
          clear h
          obtain ⟨e9, h⟩ := hh
          subst σ_18
          refine J_isn F (L' := [(1, .int r_17), (0, .ref (gb G + 0)), (2, .int x2), (3, .int x3)]) dX8_acts_59 rfl (by decide) rfl ?_
          refine J_iln F 0 dX8_acts_60 rfl rfl ?_
          refine J_zne F (tgt := 79) dX8_acts_61 (by decide) (fun c_19 => ?_) (fun c_19 => ?_)
          · have h := h.1 c_19
            obtain ⟨x3_20, ex3_20⟩ : ∃ z : Int32, z = x3 + (nI 1) := ⟨_, rfl⟩
            have h := h x3_20 ex3_20
            refine J_iinc F (v := x3_20) (L' := [(3, .int x3_20), (1, .int r_17), (0, .ref (gb G + 0)), (2, .int x2)]) 3 dX8_acts_79 rfl (by rw [ki_1, ex3_20]) (by decide) rfl ?_
            refine J_goto F (tgt := 24) dX8_acts_82 (by decide) ?_
            refine J_sub [2, 1, 3, 0] rfl ?_
            exact i24 _ _ _ _ h
          · have h := h.2 c_19
            refine J_aln F 1 dX8_acts_64 rfl rfl ?_
            refine J_gfm F (ci := 8) 8 rfl inX8 ly_0 (by decide) (by decide) rfl lf_X8_66 rfl dX8_acts_65 ?_
            obtain ⟨h_21, h⟩ := h
            refine J_aln F 1 dX8_acts_68 rfl rfl ?_
            refine J_gfa F (ci := 8) 2 rfl inX8 ly_0 (by decide) (by decide) rfl lf_X8_28 rfl dX8_acts_69 ?_
            refine J_callVi F (As := [.ref (gb G + 4)]) (st := []) (C_X1_perform l G ((σ_14 0 8).toNatClampNeg) h_21 h) (ci := 1) h_21 (by decide) rfl rfl lm_X8_101 li_X1_perform ls_X1_perform ini_X1 lc_X1_perform hd_X1_perform (by decide) (Nat.le_of_ble_eq_true rfl) (by decide) rfl dX8_acts_72 (fun r_22 σ_23 h => ?_)
            refine J_pop F dX8_acts_75 rfl ?_
            obtain ⟨x2_24, ex2_24⟩ : ∃ z : Int32, z = x2 + (nI 1) := ⟨_, rfl⟩
            have h := h x2_24 ex2_24
            refine J_iinc F (v := x2_24) (L' := [(2, .int x2_24), (1, .int r_17), (0, .ref (gb G + 0)), (3, .int x3)]) 2 dX8_acts_76 rfl (by rw [ki_1, ex2_24]) (by decide) rfl ?_
            obtain ⟨x3_25, ex3_25⟩ : ∃ z : Int32, z = x3 + (nI 1) := ⟨_, rfl⟩
            have h := h x3_25 ex3_25
            refine J_iinc F (v := x3_25) (L' := [(3, .int x3_25), (2, .int x2_24), (1, .int r_17), (0, .ref (gb G + 0))]) 3 dX8_acts_79 rfl (by rw [ki_1, ex3_25]) (by decide) rfl ?_
            refine J_goto F (tgt := 24) dX8_acts_82 (by decide) ?_
            refine J_sub [3, 2, 1, 0] rfl ?_
            exact i24 _ _ _ _ h
set_option maxRecDepth 20000 in
set_option maxHeartbeats 4000000 in
theorem C_X8_acts (l : Launch) (hl : l.stackTraces = false) (G : Gp)   {σ : St} {Q : Int32 → St → Prop} {QX : String → St → Prop} (h : wp_X8_acts σ  QX Q) : CnX l yX8_acts cX8_acts 4 (some .int) 9 206 2 12 G [.ref (gb G + 0)] σ (qI Q) QX := by
  refine CnX_of (L := [(0, .ref (gb G + 0))]) RX8 (by decide) rfl (Nat.le_of_ble_eq_true rfl) rfl ?_
  intro p e s m below meth c F hT
  unfold wp_X8_acts at h
  refine J_aln F 0 dX8_acts_0 rfl rfl ?_
  refine J_gfm F (ci := 8) 9 rfl inX8 ly_0 (by decide) (by decide) rfl lf_X8_69 rfl dX8_acts_1 ?_
  obtain ⟨h_26, h⟩ := h
  refine J_aln F 0 dX8_acts_4 rfl rfl ?_
  refine J_gfm F (ci := 8) 8 rfl inX8 ly_0 (by decide) (by decide) rfl lf_X8_66 rfl dX8_acts_5 ?_
  obtain ⟨h_27, h⟩ := h
  refine J_callVv F (As := [.ref (gb G + ((σ 0 8).toNatClampNeg))]) (st := []) (C_X1_copyFrom l G ((σ 0 9).toNatClampNeg) ((σ 0 8).toNatClampNeg) h_26 h_27 h) (ci := 1) h_26 (by decide) rfl rfl lm_X8_86 li_X1_copyFrom ls_X1_copyFrom ini_X1 lc_X1_copyFrom hd_X1_copyFrom (by decide) (Nat.le_of_ble_eq_true rfl) (by decide) rfl dX8_acts_8 (fun σ_28 h => ?_)
  refine J_aln F 0 dX8_acts_11 rfl rfl ?_
  refine J_gfa F (ci := 8) 1 rfl inX8 ly_0 (by decide) (by decide) rfl lf_X8_21 rfl dX8_acts_12 ?_
  refine J_callVv F (As := []) (st := []) (C_X3_begin l G   h) (ci := 3) ly_3 (by decide) rfl rfl lm_X8_90 li_X3_begin ls_X3_begin ini_X3 lc_X3_begin hd_X3_begin (by decide) (Nat.le_of_ble_eq_true rfl) (by decide) rfl dX8_acts_15 (fun σ_29 h => ?_)
  refine J_ic F dX8_acts_18 ki_0 ?_
  refine J_isn F (L' := [(1, .int (nI 0)), (0, .ref (gb G + 0))]) dX8_acts_19 rfl (by decide) rfl ?_
  refine J_ic F dX8_acts_20 ki_0 ?_
  refine J_isn F (L' := [(2, .int (nI 0)), (1, .int (nI 0)), (0, .ref (gb G + 0))]) dX8_acts_21 rfl (by decide) rfl ?_
  refine J_ic F dX8_acts_22 ki_0 ?_
  refine J_isn F (L' := [(3, .int (nI 0)), (2, .int (nI 0)), (1, .int (nI 0)), (0, .ref (gb G + 0))]) dX8_acts_23 rfl (by decide) rfl ?_
  refine J_sub [3, 2, 1, 0] rfl ?_
  obtain ⟨n9, h⟩ := h
  exact wk_X8_acts_24 F hl hT n9 _ _ _ _ h
theorem dX8_fault_0 : decode cX8_fault 0 = .ok (.aload_n 0, 1) := by decide +kernel
theorem dX8_fault_1 : decode cX8_fault 1 = .ok (.getfield 72, 3) := by decide +kernel
theorem dX8_fault_4 : decode cX8_fault 4 = .ok (.ireturn, 1) := by decide +kernel
set_option maxRecDepth 20000 in
set_option maxHeartbeats 4000000 in
theorem C_X8_fault (l : Launch) (G : Gp)   {σ : St} {Q : Int32 → Prop} (h : wp_X8_fault σ  Q) : Cn l yX8_fault cX8_fault 1 (some .int) 0 0 G [.ref (gb G + 0)] σ (qI (fun r σ' => σ' = σ ∧ Q r)) := by
  refine Cn_of (L := [(0, .ref (gb G + 0))]) RX8 (by decide) rfl (Nat.le_of_ble_eq_true rfl) rfl ?_
  intro p e s m below meth c F
  unfold wp_X8_fault at h
  refine J_aln F 0 dX8_fault_0 rfl rfl ?_
  refine J_gfi F (ci := 8) 10 rfl inX8 ly_0 (by decide) (by decide) rfl lf_X8_72 rfl dX8_fault_1 ?_
  exact J_reti F ⟨_, rfl, rfl, h⟩ dX8_fault_4
theorem dX8_why_0 : decode cX8_why 0 = .ok (.aload_n 0, 1) := by decide +kernel
theorem dX8_why_1 : decode cX8_why 1 = .ok (.getfield 76, 3) := by decide +kernel
theorem dX8_why_4 : decode cX8_why 4 = .ok (.ireturn, 1) := by decide +kernel
set_option maxRecDepth 20000 in
set_option maxHeartbeats 4000000 in
theorem C_X8_why (l : Launch) (G : Gp)   {σ : St} {Q : Int32 → Prop} (h : wp_X8_why σ  Q) : Cn l yX8_why cX8_why 1 (some .int) 0 0 G [.ref (gb G + 0)] σ (qI (fun r σ' => σ' = σ ∧ Q r)) := by
  refine Cn_of (L := [(0, .ref (gb G + 0))]) RX8 (by decide) rfl (Nat.le_of_ble_eq_true rfl) rfl ?_
  intro p e s m below meth c F
  unfold wp_X8_why at h
  refine J_aln F 0 dX8_why_0 rfl rfl ?_
  refine J_gfi F (ci := 8) 11 rfl inX8 ly_0 (by decide) (by decide) rfl lf_X8_76 rfl dX8_why_1 ?_
  exact J_reti F ⟨_, rfl, rfl, h⟩ dX8_why_4
theorem dX8_isPlace_0 : decode cX8_isPlace 0 = .ok (.iload_n 0, 1) := by decide +kernel
theorem dX8_isPlace_1 : decode cX8_isPlace 1 = .ok (.ifCond .lt 23, 3) := by decide +kernel
theorem dX8_isPlace_4 : decode cX8_isPlace 4 = .ok (.iload_n 0, 1) := by decide +kernel
theorem dX8_isPlace_5 : decode cX8_isPlace 5 = .ok (.bipush 100, 2) := by decide +kernel
theorem dX8_isPlace_7 : decode cX8_isPlace 7 = .ok (.if_icmp .ge 17, 3) := by decide +kernel
theorem dX8_isPlace_10 : decode cX8_isPlace 10 = .ok (.iload_n 1, 1) := by decide +kernel
theorem dX8_isPlace_11 : decode cX8_isPlace 11 = .ok (.ifCond .lt 13, 3) := by decide +kernel
theorem dX8_isPlace_14 : decode cX8_isPlace 14 = .ok (.iload_n 1, 1) := by decide +kernel
theorem dX8_isPlace_15 : decode cX8_isPlace 15 = .ok (.bipush 100, 2) := by decide +kernel
theorem dX8_isPlace_17 : decode cX8_isPlace 17 = .ok (.if_icmp .ge 7, 3) := by decide +kernel
theorem dX8_isPlace_20 : decode cX8_isPlace 20 = .ok (.iconst 1, 1) := by decide +kernel
theorem dX8_isPlace_21 : decode cX8_isPlace 21 = .ok (.goto 4, 3) := by decide +kernel
theorem dX8_isPlace_24 : decode cX8_isPlace 24 = .ok (.iconst 0, 1) := by decide +kernel
theorem dX8_isPlace_25 : decode cX8_isPlace 25 = .ok (.ireturn, 1) := by decide +kernel
set_option maxRecDepth 20000 in
set_option maxHeartbeats 4000000 in
theorem C_X8_isPlace (l : Launch) (G : Gp) (x0 : Int32) (x1 : Int32)  {σ : St} {Q : Int32 → Prop} (h : wp_X8_isPlace σ x0 x1 Q) : Cn l yX8_isPlace cX8_isPlace 2 (some .boolean) 0 0 G [.int x0, .int x1] σ (qI (fun r σ' => σ' = σ ∧ Q r)) := by
  refine Cn_of (L := [(0, .int x0), (1, .int x1)]) RX8 (by decide) rfl (Nat.le_of_ble_eq_true rfl) rfl ?_
  intro p e s m below meth c F
  unfold wp_X8_isPlace at h
  refine J_iln F 0 dX8_isPlace_0 rfl rfl ?_
  refine J_zlt F (tgt := 24) dX8_isPlace_1 (by decide) (fun c_1 => ?_) (fun c_1 => ?_)
  · have h := h.1 c_1
    refine J_ic F dX8_isPlace_24 ki_0 ?_
    exact J_retz F (Or.inl rfl) ⟨_, rfl, rfl, h⟩ dX8_isPlace_25
  · have h := h.2 c_1
    refine J_iln F 0 dX8_isPlace_4 rfl rfl ?_
    refine J_bi F dX8_isPlace_5 kb_100 ?_
    refine J_cge F (tgt := 24) dX8_isPlace_7 (by decide) (fun c_2 => ?_) (fun c_2 => ?_)
    · have h := h.1 c_2
      refine J_ic F dX8_isPlace_24 ki_0 ?_
      exact J_retz F (Or.inl rfl) ⟨_, rfl, rfl, h⟩ dX8_isPlace_25
    · have h := h.2 c_2
      refine J_iln F 1 dX8_isPlace_10 rfl rfl ?_
      refine J_zlt F (tgt := 24) dX8_isPlace_11 (by decide) (fun c_3 => ?_) (fun c_3 => ?_)
      · have h := h.1 c_3
        refine J_ic F dX8_isPlace_24 ki_0 ?_
        exact J_retz F (Or.inl rfl) ⟨_, rfl, rfl, h⟩ dX8_isPlace_25
      · have h := h.2 c_3
        refine J_iln F 1 dX8_isPlace_14 rfl rfl ?_
        refine J_bi F dX8_isPlace_15 kb_100 ?_
        refine J_cge F (tgt := 24) dX8_isPlace_17 (by decide) (fun c_4 => ?_) (fun c_4 => ?_)
        · have h := h.1 c_4
          refine J_ic F dX8_isPlace_24 ki_0 ?_
          exact J_retz F (Or.inl rfl) ⟨_, rfl, rfl, h⟩ dX8_isPlace_25
        · have h := h.2 c_4
          refine J_ic F dX8_isPlace_20 ki_1 ?_
          refine J_goto F (tgt := 25) dX8_isPlace_21 (by decide) ?_
          exact J_retz F (Or.inr rfl) ⟨_, rfl, rfl, h⟩ dX8_isPlace_25
theorem dX8_isCell_0 : decode cX8_isCell 0 = .ok (.iload_n 0, 1) := by decide +kernel
theorem dX8_isCell_1 : decode cX8_isCell 1 = .ok (.ifCond .lt 23, 3) := by decide +kernel
theorem dX8_isCell_4 : decode cX8_isCell 4 = .ok (.iload_n 0, 1) := by decide +kernel
theorem dX8_isCell_5 : decode cX8_isCell 5 = .ok (.bipush 32, 2) := by decide +kernel
theorem dX8_isCell_7 : decode cX8_isCell 7 = .ok (.if_icmp .ge 17, 3) := by decide +kernel
theorem dX8_isCell_10 : decode cX8_isCell 10 = .ok (.iload_n 1, 1) := by decide +kernel
theorem dX8_isCell_11 : decode cX8_isCell 11 = .ok (.ifCond .lt 13, 3) := by decide +kernel
theorem dX8_isCell_14 : decode cX8_isCell 14 = .ok (.iload_n 1, 1) := by decide +kernel
theorem dX8_isCell_15 : decode cX8_isCell 15 = .ok (.bipush 32, 2) := by decide +kernel
theorem dX8_isCell_17 : decode cX8_isCell 17 = .ok (.if_icmp .ge 7, 3) := by decide +kernel
theorem dX8_isCell_20 : decode cX8_isCell 20 = .ok (.iconst 1, 1) := by decide +kernel
theorem dX8_isCell_21 : decode cX8_isCell 21 = .ok (.goto 4, 3) := by decide +kernel
theorem dX8_isCell_24 : decode cX8_isCell 24 = .ok (.iconst 0, 1) := by decide +kernel
theorem dX8_isCell_25 : decode cX8_isCell 25 = .ok (.ireturn, 1) := by decide +kernel
set_option maxRecDepth 20000 in
set_option maxHeartbeats 4000000 in
theorem C_X8_isCell (l : Launch) (G : Gp) (x0 : Int32) (x1 : Int32)  {σ : St} {Q : Int32 → Prop} (h : wp_X8_isCell σ x0 x1 Q) : Cn l yX8_isCell cX8_isCell 2 (some .boolean) 0 0 G [.int x0, .int x1] σ (qI (fun r σ' => σ' = σ ∧ Q r)) := by
  refine Cn_of (L := [(0, .int x0), (1, .int x1)]) RX8 (by decide) rfl (Nat.le_of_ble_eq_true rfl) rfl ?_
  intro p e s m below meth c F
  unfold wp_X8_isCell at h
  refine J_iln F 0 dX8_isCell_0 rfl rfl ?_
  refine J_zlt F (tgt := 24) dX8_isCell_1 (by decide) (fun c_1 => ?_) (fun c_1 => ?_)
  · have h := h.1 c_1
    refine J_ic F dX8_isCell_24 ki_0 ?_
    exact J_retz F (Or.inl rfl) ⟨_, rfl, rfl, h⟩ dX8_isCell_25
  · have h := h.2 c_1
    refine J_iln F 0 dX8_isCell_4 rfl rfl ?_
    refine J_bi F dX8_isCell_5 kb_32 ?_
    refine J_cge F (tgt := 24) dX8_isCell_7 (by decide) (fun c_2 => ?_) (fun c_2 => ?_)
    · have h := h.1 c_2
      refine J_ic F dX8_isCell_24 ki_0 ?_
      exact J_retz F (Or.inl rfl) ⟨_, rfl, rfl, h⟩ dX8_isCell_25
    · have h := h.2 c_2
      refine J_iln F 1 dX8_isCell_10 rfl rfl ?_
      refine J_zlt F (tgt := 24) dX8_isCell_11 (by decide) (fun c_3 => ?_) (fun c_3 => ?_)
      · have h := h.1 c_3
        refine J_ic F dX8_isCell_24 ki_0 ?_
        exact J_retz F (Or.inl rfl) ⟨_, rfl, rfl, h⟩ dX8_isCell_25
      · have h := h.2 c_3
        refine J_iln F 1 dX8_isCell_14 rfl rfl ?_
        refine J_bi F dX8_isCell_15 kb_32 ?_
        refine J_cge F (tgt := 24) dX8_isCell_17 (by decide) (fun c_4 => ?_) (fun c_4 => ?_)
        · have h := h.1 c_4
          refine J_ic F dX8_isCell_24 ki_0 ?_
          exact J_retz F (Or.inl rfl) ⟨_, rfl, rfl, h⟩ dX8_isCell_25
        · have h := h.2 c_4
          refine J_ic F dX8_isCell_20 ki_1 ?_
          refine J_goto F (tgt := 25) dX8_isCell_21 (by decide) ?_
          exact J_retz F (Or.inr rfl) ⟨_, rfl, rfl, h⟩ dX8_isCell_25
theorem dX8_settle_0 : decode cX8_settle 0 = .ok (.aload_n 0, 1) := by decide +kernel
theorem dX8_settle_1 : decode cX8_settle 1 = .ok (.aload_n 0, 1) := by decide +kernel
theorem dX8_settle_2 : decode cX8_settle 2 = .ok (.getfield 66, 3) := by decide +kernel
theorem dX8_settle_5 : decode cX8_settle 5 = .ok (.aload_n 0, 1) := by decide +kernel
theorem dX8_settle_6 : decode cX8_settle 6 = .ok (.getfield 28, 3) := by decide +kernel
theorem dX8_settle_9 : decode cX8_settle 9 = .ok (.invokevirtual 97, 3) := by decide +kernel
theorem dX8_settle_12 : decode cX8_settle 12 = .ok (.putfield 76, 3) := by decide +kernel
theorem dX8_settle_15 : decode cX8_settle 15 = .ok (.aload_n 0, 1) := by decide +kernel
theorem dX8_settle_16 : decode cX8_settle 16 = .ok (.getfield 76, 3) := by decide +kernel
theorem dX8_settle_19 : decode cX8_settle 19 = .ok (.ifCond .eq 13, 3) := by decide +kernel
theorem dX8_settle_22 : decode cX8_settle 22 = .ok (.new 158, 3) := by decide +kernel
theorem dX8_settle_25 : decode cX8_settle 25 = .ok (.dup, 1) := by decide +kernel
theorem dX8_settle_26 : decode cX8_settle 26 = .ok (.ldc 160, 2) := by decide +kernel
theorem dX8_settle_28 : decode cX8_settle 28 = .ok (.invokespecial 162, 3) := by decide +kernel
theorem dX8_settle_31 : decode cX8_settle 31 = .ok (.athrow, 1) := by decide +kernel
theorem dX8_settle_32 : decode cX8_settle 32 = .ok (.aload_n 0, 1) := by decide +kernel
theorem dX8_settle_33 : decode cX8_settle 33 = .ok (.getfield 35, 3) := by decide +kernel
theorem dX8_settle_36 : decode cX8_settle 36 = .ok (.aload_n 0, 1) := by decide +kernel
theorem dX8_settle_37 : decode cX8_settle 37 = .ok (.getfield 66, 3) := by decide +kernel
theorem dX8_settle_40 : decode cX8_settle 40 = .ok (.invokevirtual 163, 3) := by decide +kernel
theorem dX8_settle_43 : decode cX8_settle 43 = .ok (.return_, 1) := by decide +kernel
set_option maxRecDepth 20000 in
set_option maxHeartbeats 4000000 in
theorem C_X8_settle (l : Launch) (hl : l.stackTraces = false) (G : Gp)   {σ : St} {Q : St → Prop} {QX : String → St → Prop} (h : wp_X8_settle σ  QX Q) : CnX l yX8_settle cX8_settle 1 none 6 139 1 6 G [.ref (gb G + 0)] σ (qV Q) QX := by
  refine CnX_of (L := [(0, .ref (gb G + 0))]) RX8 (by decide) rfl (Nat.le_of_ble_eq_true rfl) rfl ?_
  intro p e s m below meth c F hT
  unfold wp_X8_settle at h
  refine J_aln F 0 dX8_settle_0 rfl rfl ?_
  refine J_aln F 0 dX8_settle_1 rfl rfl ?_
  refine J_gfm F (ci := 8) 8 rfl inX8 ly_0 (by decide) (by decide) rfl lf_X8_66 rfl dX8_settle_2 ?_
  obtain ⟨h_1, h⟩ := h
  refine J_aln F 0 dX8_settle_5 rfl rfl ?_
  refine J_gfa F (ci := 8) 2 rfl inX8 ly_0 (by decide) (by decide) rfl lf_X8_28 rfl dX8_settle_6 ?_
  refine J_callVi F (As := [.ref (gb G + 4)]) (st := [.ref (gb G + 0)]) (C_X1_refusalOf l G ((σ 0 8).toNatClampNeg) h_1 h) (ci := 1) h_1 (by decide) rfl rfl lm_X8_97 li_X1_refusalOf ls_X1_refusalOf ini_X1 lc_X1_refusalOf hd_X1_refusalOf (by decide) (Nat.le_of_ble_eq_true rfl) (by decide) rfl dX8_settle_9 (fun r_2 σ_3 hh => ?_)
  clear h
  obtain ⟨e9, h⟩ := hh
  subst σ_3
  refine J_pfi F (ci := 8) 11 rfl inX8 tyX8 tyX8_ok nmX8 ly_0 (by decide) (by decide) rfl lf_X8_76 rfl rfl (tyX8_ok 11 (by decide)) rfl rfl dX8_settle_12 ?_
  refine J_st (fun σ_4 eσ_4 => ?_)
  have h := h σ_4 eσ_4
  refine J_aln F 0 dX8_settle_15 rfl rfl ?_
  refine J_gfi F (ci := 8) 11 rfl inX8 ly_0 (by decide) (by decide) rfl lf_X8_76 rfl dX8_settle_16 ?_
  refine J_zeq F (tgt := 32) dX8_settle_19 (by decide) (fun c_5 => ?_) (fun c_5 => ?_)
  · have h := h.1 c_5
    refine J_aln F 0 dX8_settle_32 rfl rfl ?_
    refine J_gfa F (ci := 8) 3 rfl inX8 ly_0 (by decide) (by decide) rfl lf_X8_35 rfl dX8_settle_33 ?_
    refine J_aln F 0 dX8_settle_36 rfl rfl ?_
    refine J_gfm F (ci := 8) 8 rfl inX8 ly_0 (by decide) (by decide) rfl lf_X8_66 rfl dX8_settle_37 ?_
    obtain ⟨h_6, h⟩ := h
    refine J_callVv F (As := [.ref (gb G + ((σ_4 0 8).toNatClampNeg))]) (st := []) (C_X2_keep l G ((σ_4 0 8).toNatClampNeg) h_6 h) (ci := 2) ly_6 (by decide) rfl rfl lm_X8_163 li_X2_keep ls_X2_keep ini_X2 lc_X2_keep hd_X2_keep (by decide) (Nat.le_of_ble_eq_true rfl) (by decide) rfl dX8_settle_40 (fun σ_7 h => ?_)
    exact J_retvX F (by decide) (by decide) ⟨rfl, h⟩ dX8_settle_43
  · have h := h.2 c_5
    exact J_throw hl F hT th_X8_158_160 (by decide) (Nat.le_of_ble_eq_true rfl) (by decide) (by decide) h dX8_settle_22 dX8_settle_25 dX8_settle_26 dX8_settle_28 dX8_settle_31
theorem dX8_join_0 : decode cX8_join 0 = .ok (.iload_n 1, 1) := by decide +kernel
theorem dX8_join_1 : decode cX8_join 1 = .ok (.iload_n 2, 1) := by decide +kernel
theorem dX8_join_2 : decode cX8_join 2 = .ok (.invokestatic 128, 3) := by decide +kernel
theorem dX8_join_5 : decode cX8_join 5 = .ok (.ifCond .eq 12, 3) := by decide +kernel
theorem dX8_join_8 : decode cX8_join 8 = .ok (.iload_n 3, 1) := by decide +kernel
theorem dX8_join_9 : decode cX8_join 9 = .ok (.iload 4, 2) := by decide +kernel
theorem dX8_join_11 : decode cX8_join 11 = .ok (.invokestatic 132, 3) := by decide +kernel
theorem dX8_join_14 : decode cX8_join 14 = .ok (.ifCond .ne 13, 3) := by decide +kernel
theorem dX8_join_17 : decode cX8_join 17 = .ok (.new 110, 3) := by decide +kernel
theorem dX8_join_20 : decode cX8_join 20 = .ok (.dup, 1) := by decide +kernel
theorem dX8_join_21 : decode cX8_join 21 = .ok (.ldc 135, 2) := by decide +kernel
theorem dX8_join_23 : decode cX8_join 23 = .ok (.invokespecial 114, 3) := by decide +kernel
theorem dX8_join_26 : decode cX8_join 26 = .ok (.athrow, 1) := by decide +kernel
theorem dX8_join_27 : decode cX8_join 27 = .ok (.aload_n 0, 1) := by decide +kernel
theorem dX8_join_28 : decode cX8_join 28 = .ok (.getfield 28, 3) := by decide +kernel
theorem dX8_join_31 : decode cX8_join 31 = .ok (.iconst 2, 1) := by decide +kernel
theorem dX8_join_32 : decode cX8_join 32 = .ok (.iload_n 1, 1) := by decide +kernel
theorem dX8_join_33 : decode cX8_join 33 = .ok (.iload_n 2, 1) := by decide +kernel
theorem dX8_join_34 : decode cX8_join 34 = .ok (.iload_n 3, 1) := by decide +kernel
theorem dX8_join_35 : decode cX8_join 35 = .ok (.iload 4, 2) := by decide +kernel
theorem dX8_join_37 : decode cX8_join 37 = .ok (.invokevirtual 137, 3) := by decide +kernel
theorem dX8_join_40 : decode cX8_join 40 = .ok (.aload_n 0, 1) := by decide +kernel
theorem dX8_join_41 : decode cX8_join 41 = .ok (.invokevirtual 141, 3) := by decide +kernel
theorem dX8_join_44 : decode cX8_join 44 = .ok (.aload_n 0, 1) := by decide +kernel
theorem dX8_join_45 : decode cX8_join 45 = .ok (.getfield 66, 3) := by decide +kernel
theorem dX8_join_48 : decode cX8_join 48 = .ok (.aload_n 0, 1) := by decide +kernel
theorem dX8_join_49 : decode cX8_join 49 = .ok (.getfield 28, 3) := by decide +kernel
theorem dX8_join_52 : decode cX8_join 52 = .ok (.invokevirtual 101, 3) := by decide +kernel
theorem dX8_join_55 : decode cX8_join 55 = .ok (.ireturn, 1) := by decide +kernel
set_option maxRecDepth 20000 in
set_option maxHeartbeats 4000000 in
theorem C_X8_join (l : Launch) (hl : l.stackTraces = false) (G : Gp) (x1 : Int32) (x2 : Int32) (x3 : Int32) (x4 : Int32)  {σ : St} {Q : Int32 → St → Prop} {QX : String → St → Prop} (h : wp_X8_join σ x1 x2 x3 x4 QX Q) : CnX l yX8_join cX8_join 5 (some .int) 7 164 2 12 G [.ref (gb G + 0), .int x1, .int x2, .int x3, .int x4] σ (qI Q) QX := by
  refine CnX_of (L := [(0, .ref (gb G + 0)), (1, .int x1), (2, .int x2), (3, .int x3), (4, .int x4)]) RX8 (by decide) rfl (Nat.le_of_ble_eq_true rfl) rfl ?_
  intro p e s m below meth c F hT
  unfold wp_X8_join at h
  refine J_iln F 1 dX8_join_0 rfl rfl ?_
  refine J_iln F 2 dX8_join_1 rfl rfl ?_
  refine J_callSi F (As := [.int x1, .int x2]) (st := []) (C_X8_isPlace l G x1 x2  h) lm_X8_128 li_X8_isPlace ini_X8 lc_X8_isPlace hd_X8_isPlace (by decide) (Nat.le_of_ble_eq_true rfl) (by decide) rfl dX8_join_2 (fun r_1 σ_2 hh => ?_)
  clear h
  obtain ⟨e9, h⟩ := hh
  subst σ_2
  refine J_zeq F (tgt := 17) dX8_join_5 (by decide) (fun c_3 => ?_) (fun c_3 => ?_)
  · have h := h.1 c_3
    exact J_throw hl F hT th_X8_110_135 (by decide) (Nat.le_of_ble_eq_true rfl) (by decide) (by decide) h dX8_join_17 dX8_join_20 dX8_join_21 dX8_join_23 dX8_join_26
  · have h := h.2 c_3
    refine J_iln F 3 dX8_join_8 rfl rfl ?_
    refine J_il F 4 dX8_join_9 rfl ?_
    refine J_callSi F (As := [.int x3, .int x4]) (st := []) (C_X8_isCell l G x3 x4  h) lm_X8_132 li_X8_isCell ini_X8 lc_X8_isCell hd_X8_isCell (by decide) (Nat.le_of_ble_eq_true rfl) (by decide) rfl dX8_join_11 (fun r_4 σ_5 hh => ?_)
    clear h
    obtain ⟨e9, h⟩ := hh
    subst σ_5
    refine J_zne F (tgt := 27) dX8_join_14 (by decide) (fun c_6 => ?_) (fun c_6 => ?_)
    · have h := h.1 c_6
      refine J_aln F 0 dX8_join_27 rfl rfl ?_
      refine J_gfa F (ci := 8) 2 rfl inX8 ly_0 (by decide) (by decide) rfl lf_X8_28 rfl dX8_join_28 ?_
      refine J_ic F dX8_join_31 ki_2 ?_
      refine J_iln F 1 dX8_join_32 rfl rfl ?_
      refine J_iln F 2 dX8_join_33 rfl rfl ?_
      refine J_iln F 3 dX8_join_34 rfl rfl ?_
      refine J_il F 4 dX8_join_35 rfl ?_
      refine J_callVv F (As := [.int (nI 2), .int x1, .int x2, .int x3, .int x4]) (st := []) (C_X0_tell l G (nI 2) x1 x2 x3 x4  h) (ci := 0) ly_4 (by decide) rfl rfl lm_X8_137 li_X0_tell ls_X0_tell ini_X0 lc_X0_tell hd_X0_tell (by decide) (Nat.le_of_ble_eq_true rfl) (by decide) rfl dX8_join_37 (fun σ_7 h => ?_)
      refine J_aln F 0 dX8_join_40 rfl rfl ?_
      refine J_xcallVv F (As := []) (st := []) (C_X8_settle l hl G   h) (ci := 8) ly_0 (by decide) rfl rfl lm_X8_141 li_X8_settle ls_X8_settle ini_X8 lc_X8_settle hd_X8_settle (by decide) (Nat.le_of_ble_eq_true rfl) (by decide) (by decide) hT (fun E σ' h => h) rfl dX8_join_41 (fun σ_8 h => ?_)
      refine J_aln F 0 dX8_join_44 rfl rfl ?_
      refine J_gfm F (ci := 8) 8 rfl inX8 ly_0 (by decide) (by decide) rfl lf_X8_66 rfl dX8_join_45 ?_
      obtain ⟨h_9, h⟩ := h
      refine J_aln F 0 dX8_join_48 rfl rfl ?_
      refine J_gfa F (ci := 8) 2 rfl inX8 ly_0 (by decide) (by decide) rfl lf_X8_28 rfl dX8_join_49 ?_
      refine J_callVi F (As := [.ref (gb G + 4)]) (st := []) (C_X1_perform l G ((σ_8 0 8).toNatClampNeg) h_9 h) (ci := 1) h_9 (by decide) rfl rfl lm_X8_101 li_X1_perform ls_X1_perform ini_X1 lc_X1_perform hd_X1_perform (by decide) (Nat.le_of_ble_eq_true rfl) (by decide) rfl dX8_join_52 (fun r_10 σ_11 h => ?_)
      exact J_retiX F (by decide) (by decide) ⟨_, rfl, h⟩ dX8_join_55
    · have h := h.2 c_6
      exact J_throw hl F hT th_X8_110_135 (by decide) (Nat.le_of_ble_eq_true rfl) (by decide) (by decide) h dX8_join_17 dX8_join_20 dX8_join_21 dX8_join_23 dX8_join_26
theorem dX8_near_0 : decode cX8_near 0 = .ok (.iload_n 1, 1) := by decide +kernel
theorem dX8_near_1 : decode cX8_near 1 = .ok (.iload_n 2, 1) := by decide +kernel
theorem dX8_near_2 : decode cX8_near 2 = .ok (.invokestatic 128, 3) := by decide +kernel
theorem dX8_near_5 : decode cX8_near 5 = .ok (.ifCond .ne 13, 3) := by decide +kernel
theorem dX8_near_8 : decode cX8_near 8 = .ok (.new 110, 3) := by decide +kernel
theorem dX8_near_11 : decode cX8_near 11 = .ok (.dup, 1) := by decide +kernel
theorem dX8_near_12 : decode cX8_near 12 = .ok (.ldc 144, 2) := by decide +kernel
theorem dX8_near_14 : decode cX8_near 14 = .ok (.invokespecial 114, 3) := by decide +kernel
theorem dX8_near_17 : decode cX8_near 17 = .ok (.athrow, 1) := by decide +kernel
theorem dX8_near_18 : decode cX8_near 18 = .ok (.aload_n 0, 1) := by decide +kernel
theorem dX8_near_19 : decode cX8_near 19 = .ok (.getfield 28, 3) := by decide +kernel
theorem dX8_near_22 : decode cX8_near 22 = .ok (.iconst 3, 1) := by decide +kernel
theorem dX8_near_23 : decode cX8_near 23 = .ok (.iload_n 1, 1) := by decide +kernel
theorem dX8_near_24 : decode cX8_near 24 = .ok (.iload_n 2, 1) := by decide +kernel
theorem dX8_near_25 : decode cX8_near 25 = .ok (.iconst 0, 1) := by decide +kernel
theorem dX8_near_26 : decode cX8_near 26 = .ok (.iconst 0, 1) := by decide +kernel
theorem dX8_near_27 : decode cX8_near 27 = .ok (.invokevirtual 137, 3) := by decide +kernel
theorem dX8_near_30 : decode cX8_near 30 = .ok (.aload_n 0, 1) := by decide +kernel
theorem dX8_near_31 : decode cX8_near 31 = .ok (.invokevirtual 141, 3) := by decide +kernel
theorem dX8_near_34 : decode cX8_near 34 = .ok (.aload_n 0, 1) := by decide +kernel
theorem dX8_near_35 : decode cX8_near 35 = .ok (.getfield 66, 3) := by decide +kernel
theorem dX8_near_38 : decode cX8_near 38 = .ok (.aload_n 0, 1) := by decide +kernel
theorem dX8_near_39 : decode cX8_near 39 = .ok (.getfield 28, 3) := by decide +kernel
theorem dX8_near_42 : decode cX8_near 42 = .ok (.invokevirtual 101, 3) := by decide +kernel
theorem dX8_near_45 : decode cX8_near 45 = .ok (.ireturn, 1) := by decide +kernel
set_option maxRecDepth 20000 in
set_option maxHeartbeats 4000000 in
theorem C_X8_near (l : Launch) (hl : l.stackTraces = false) (G : Gp) (x1 : Int32) (x2 : Int32)  {σ : St} {Q : Int32 → St → Prop} {QX : String → St → Prop} (h : wp_X8_near σ x1 x2 QX Q) : CnX l yX8_near cX8_near 3 (some .int) 7 164 2 12 G [.ref (gb G + 0), .int x1, .int x2] σ (qI Q) QX := by
  refine CnX_of (L := [(0, .ref (gb G + 0)), (1, .int x1), (2, .int x2)]) RX8 (by decide) rfl (Nat.le_of_ble_eq_true rfl) rfl ?_
  intro p e s m below meth c F hT
  unfold wp_X8_near at h
  refine J_iln F 1 dX8_near_0 rfl rfl ?_
  refine J_iln F 2 dX8_near_1 rfl rfl ?_
  refine J_callSi F (As := [.int x1, .int x2]) (st := []) (C_X8_isPlace l G x1 x2  h) lm_X8_128 li_X8_isPlace ini_X8 lc_X8_isPlace hd_X8_isPlace (by decide) (Nat.le_of_ble_eq_true rfl) (by decide) rfl dX8_near_2 (fun r_1 σ_2 hh => ?_)
  clear h
  obtain ⟨e9, h⟩ := hh
  subst σ_2
  refine J_zne F (tgt := 18) dX8_near_5 (by decide) (fun c_3 => ?_) (fun c_3 => ?_)
  · have h := h.1 c_3
    refine J_aln F 0 dX8_near_18 rfl rfl ?_
    refine J_gfa F (ci := 8) 2 rfl inX8 ly_0 (by decide) (by decide) rfl lf_X8_28 rfl dX8_near_19 ?_
    refine J_ic F dX8_near_22 ki_3 ?_
    refine J_iln F 1 dX8_near_23 rfl rfl ?_
    refine J_iln F 2 dX8_near_24 rfl rfl ?_
    refine J_ic F dX8_near_25 ki_0 ?_
    refine J_ic F dX8_near_26 ki_0 ?_
    refine J_callVv F (As := [.int (nI 3), .int x1, .int x2, .int (nI 0), .int (nI 0)]) (st := []) (C_X0_tell l G (nI 3) x1 x2 (nI 0) (nI 0)  h) (ci := 0) ly_4 (by decide) rfl rfl lm_X8_137 li_X0_tell ls_X0_tell ini_X0 lc_X0_tell hd_X0_tell (by decide) (Nat.le_of_ble_eq_true rfl) (by decide) rfl dX8_near_27 (fun σ_4 h => ?_)
    refine J_aln F 0 dX8_near_30 rfl rfl ?_
    refine J_xcallVv F (As := []) (st := []) (C_X8_settle l hl G   h) (ci := 8) ly_0 (by decide) rfl rfl lm_X8_141 li_X8_settle ls_X8_settle ini_X8 lc_X8_settle hd_X8_settle (by decide) (Nat.le_of_ble_eq_true rfl) (by decide) (by decide) hT (fun E σ' h => h) rfl dX8_near_31 (fun σ_5 h => ?_)
    refine J_aln F 0 dX8_near_34 rfl rfl ?_
    refine J_gfm F (ci := 8) 8 rfl inX8 ly_0 (by decide) (by decide) rfl lf_X8_66 rfl dX8_near_35 ?_
    obtain ⟨h_6, h⟩ := h
    refine J_aln F 0 dX8_near_38 rfl rfl ?_
    refine J_gfa F (ci := 8) 2 rfl inX8 ly_0 (by decide) (by decide) rfl lf_X8_28 rfl dX8_near_39 ?_
    refine J_callVi F (As := [.ref (gb G + 4)]) (st := []) (C_X1_perform l G ((σ_5 0 8).toNatClampNeg) h_6 h) (ci := 1) h_6 (by decide) rfl rfl lm_X8_101 li_X1_perform ls_X1_perform ini_X1 lc_X1_perform hd_X1_perform (by decide) (Nat.le_of_ble_eq_true rfl) (by decide) rfl dX8_near_42 (fun r_7 σ_8 h => ?_)
    exact J_retiX F (by decide) (by decide) ⟨_, rfl, h⟩ dX8_near_45
  · have h := h.2 c_3
    exact J_throw hl F hT th_X8_110_144 (by decide) (Nat.le_of_ble_eq_true rfl) (by decide) (by decide) h dX8_near_8 dX8_near_11 dX8_near_12 dX8_near_14 dX8_near_17
theorem dX8_checkNode_0 : decode cX8_checkNode 0 = .ok (.iload_n 0, 1) := by decide +kernel
theorem dX8_checkNode_1 : decode cX8_checkNode 1 = .ok (.ifCond .lt 9, 3) := by decide +kernel
theorem dX8_checkNode_4 : decode cX8_checkNode 4 = .ok (.iload_n 0, 1) := by decide +kernel
theorem dX8_checkNode_5 : decode cX8_checkNode 5 = .ok (.bipush 10, 2) := by decide +kernel
theorem dX8_checkNode_7 : decode cX8_checkNode 7 = .ok (.if_icmp .lt 14, 3) := by decide +kernel
theorem dX8_checkNode_10 : decode cX8_checkNode 10 = .ok (.new 355, 3) := by decide +kernel
theorem dX8_checkNode_13 : decode cX8_checkNode 13 = .ok (.dup, 1) := by decide +kernel
theorem dX8_checkNode_14 : decode cX8_checkNode 14 = .ok (.ldc_w 357, 3) := by decide +kernel
theorem dX8_checkNode_17 : decode cX8_checkNode 17 = .ok (.invokespecial 359, 3) := by decide +kernel
theorem dX8_checkNode_20 : decode cX8_checkNode 20 = .ok (.athrow, 1) := by decide +kernel
theorem dX8_checkNode_21 : decode cX8_checkNode 21 = .ok (.return_, 1) := by decide +kernel
set_option maxRecDepth 20000 in
set_option maxHeartbeats 4000000 in
theorem C_X8_checkNode (l : Launch) (hl : l.stackTraces = false) (G : Gp) (x0 : Int32)  {σ : St} {Q : Prop} {QX : String → St → Prop} (h : wp_X8_checkNode σ x0 QX Q) : CnX l yX8_checkNode cX8_checkNode 1 none 6 100 1 6 G [.int x0] σ (qV (fun σ' => σ' = σ ∧ Q)) QX := by
  refine CnX_of (L := [(0, .int x0)]) RX8 (by decide) rfl (Nat.le_of_ble_eq_true rfl) rfl ?_
  intro p e s m below meth c F hT
  unfold wp_X8_checkNode at h
  refine J_iln F 0 dX8_checkNode_0 rfl rfl ?_
  refine J_zlt F (tgt := 10) dX8_checkNode_1 (by decide) (fun c_1 => ?_) (fun c_1 => ?_)
  · have h := h.1 c_1
    exact J_throwW hl F hT th_X8_355_357 (by decide) (Nat.le_of_ble_eq_true rfl) (by decide) (by decide) h dX8_checkNode_10 dX8_checkNode_13 dX8_checkNode_14 dX8_checkNode_17 dX8_checkNode_20
  · have h := h.2 c_1
    refine J_iln F 0 dX8_checkNode_4 rfl rfl ?_
    refine J_bi F dX8_checkNode_5 kb_10 ?_
    refine J_clt F (tgt := 21) dX8_checkNode_7 (by decide) (fun c_2 => ?_) (fun c_2 => ?_)
    · have h := h.1 c_2
      exact J_retvX F (by decide) (by decide) ⟨rfl, rfl, h⟩ dX8_checkNode_21
    · have h := h.2 c_2
      exact J_throwW hl F hT th_X8_355_357 (by decide) (Nat.le_of_ble_eq_true rfl) (by decide) (by decide) h dX8_checkNode_10 dX8_checkNode_13 dX8_checkNode_14 dX8_checkNode_17 dX8_checkNode_20
theorem dX8_checkWhat_0 : decode cX8_checkWhat 0 = .ok (.iload_n 0, 1) := by decide +kernel
theorem dX8_checkWhat_1 : decode cX8_checkWhat 1 = .ok (.ifCond .lt 8, 3) := by decide +kernel
theorem dX8_checkWhat_4 : decode cX8_checkWhat 4 = .ok (.iload_n 0, 1) := by decide +kernel
theorem dX8_checkWhat_5 : decode cX8_checkWhat 5 = .ok (.iload_n 1, 1) := by decide +kernel
theorem dX8_checkWhat_6 : decode cX8_checkWhat 6 = .ok (.if_icmp .lt 14, 3) := by decide +kernel
theorem dX8_checkWhat_9 : decode cX8_checkWhat 9 = .ok (.new 366, 3) := by decide +kernel
theorem dX8_checkWhat_12 : decode cX8_checkWhat 12 = .ok (.dup, 1) := by decide +kernel
theorem dX8_checkWhat_13 : decode cX8_checkWhat 13 = .ok (.ldc_w 368, 3) := by decide +kernel
theorem dX8_checkWhat_16 : decode cX8_checkWhat 16 = .ok (.invokespecial 370, 3) := by decide +kernel
theorem dX8_checkWhat_19 : decode cX8_checkWhat 19 = .ok (.athrow, 1) := by decide +kernel
theorem dX8_checkWhat_20 : decode cX8_checkWhat 20 = .ok (.return_, 1) := by decide +kernel
set_option maxRecDepth 20000 in
set_option maxHeartbeats 4000000 in
theorem C_X8_checkWhat (l : Launch) (hl : l.stackTraces = false) (G : Gp) (x0 : Int32) (x1 : Int32)  {σ : St} {Q : Prop} {QX : String → St → Prop} (h : wp_X8_checkWhat σ x0 x1 QX Q) : CnX l yX8_checkWhat cX8_checkWhat 2 none 6 100 1 6 G [.int x0, .int x1] σ (qV (fun σ' => σ' = σ ∧ Q)) QX := by
  refine CnX_of (L := [(0, .int x0), (1, .int x1)]) RX8 (by decide) rfl (Nat.le_of_ble_eq_true rfl) rfl ?_
  intro p e s m below meth c F hT
  unfold wp_X8_checkWhat at h
  refine J_iln F 0 dX8_checkWhat_0 rfl rfl ?_
  refine J_zlt F (tgt := 9) dX8_checkWhat_1 (by decide) (fun c_1 => ?_) (fun c_1 => ?_)
  · have h := h.1 c_1
    exact J_throwN hl F hT (by decide) (Nat.le_of_ble_eq_true rfl) (by decide) (by decide) h dX8_checkWhat_9 dX8_checkWhat_12 dX8_checkWhat_13 dX8_checkWhat_16 dX8_checkWhat_19
  · have h := h.2 c_1
    refine J_iln F 0 dX8_checkWhat_4 rfl rfl ?_
    refine J_iln F 1 dX8_checkWhat_5 rfl rfl ?_
    refine J_clt F (tgt := 20) dX8_checkWhat_6 (by decide) (fun c_2 => ?_) (fun c_2 => ?_)
    · have h := h.1 c_2
      exact J_retvX F (by decide) (by decide) ⟨rfl, rfl, h⟩ dX8_checkWhat_20
    · have h := h.2 c_2
      exact J_throwN hl F hT (by decide) (Nat.le_of_ble_eq_true rfl) (by decide) (by decide) h dX8_checkWhat_9 dX8_checkWhat_12 dX8_checkWhat_13 dX8_checkWhat_16 dX8_checkWhat_19
theorem dX8_go_0 : decode cX8_go 0 = .ok (.iload_n 1, 1) := by decide +kernel
theorem dX8_go_1 : decode cX8_go 1 = .ok (.invokestatic 146, 3) := by decide +kernel
theorem dX8_go_4 : decode cX8_go 4 = .ok (.iload_n 2, 1) := by decide +kernel
theorem dX8_go_5 : decode cX8_go 5 = .ok (.iconst 3, 1) := by decide +kernel
theorem dX8_go_6 : decode cX8_go 6 = .ok (.invokestatic 149, 3) := by decide +kernel
theorem dX8_go_9 : decode cX8_go 9 = .ok (.aload_n 0, 1) := by decide +kernel
theorem dX8_go_10 : decode cX8_go 10 = .ok (.getfield 28, 3) := by decide +kernel
theorem dX8_go_13 : decode cX8_go 13 = .ok (.iconst 4, 1) := by decide +kernel
theorem dX8_go_14 : decode cX8_go 14 = .ok (.iload_n 2, 1) := by decide +kernel
theorem dX8_go_15 : decode cX8_go 15 = .ok (.iadd, 1) := by decide +kernel
theorem dX8_go_16 : decode cX8_go 16 = .ok (.iload_n 1, 1) := by decide +kernel
theorem dX8_go_17 : decode cX8_go 17 = .ok (.iconst 0, 1) := by decide +kernel
theorem dX8_go_18 : decode cX8_go 18 = .ok (.iconst 0, 1) := by decide +kernel
theorem dX8_go_19 : decode cX8_go 19 = .ok (.iconst 0, 1) := by decide +kernel
theorem dX8_go_20 : decode cX8_go 20 = .ok (.invokevirtual 137, 3) := by decide +kernel
theorem dX8_go_23 : decode cX8_go 23 = .ok (.aload_n 0, 1) := by decide +kernel
theorem dX8_go_24 : decode cX8_go 24 = .ok (.invokevirtual 141, 3) := by decide +kernel
theorem dX8_go_27 : decode cX8_go 27 = .ok (.aload_n 0, 1) := by decide +kernel
theorem dX8_go_28 : decode cX8_go 28 = .ok (.getfield 66, 3) := by decide +kernel
theorem dX8_go_31 : decode cX8_go 31 = .ok (.aload_n 0, 1) := by decide +kernel
theorem dX8_go_32 : decode cX8_go 32 = .ok (.getfield 28, 3) := by decide +kernel
theorem dX8_go_35 : decode cX8_go 35 = .ok (.invokevirtual 101, 3) := by decide +kernel
theorem dX8_go_38 : decode cX8_go 38 = .ok (.ireturn, 1) := by decide +kernel
set_option maxRecDepth 20000 in
set_option maxHeartbeats 4000000 in
theorem C_X8_go (l : Launch) (hl : l.stackTraces = false) (G : Gp) (x1 : Int32) (x2 : Int32)  {σ : St} {Q : Int32 → St → Prop} {QX : String → St → Prop} (h : wp_X8_go σ x1 x2 QX Q) : CnX l yX8_go cX8_go 3 (some .int) 7 164 3 18 G [.ref (gb G + 0), .int x1, .int x2] σ (qI Q) QX := by
  refine CnX_of (L := [(0, .ref (gb G + 0)), (1, .int x1), (2, .int x2)]) RX8 (by decide) rfl (Nat.le_of_ble_eq_true rfl) rfl ?_
  intro p e s m below meth c F hT
  unfold wp_X8_go at h
  refine J_iln F 1 dX8_go_0 rfl rfl ?_
  refine J_xcallSv F (As := [.int x1]) (st := []) (C_X8_checkNode l hl G x1  h) lm_X8_146 li_X8_checkNode ini_X8 lc_X8_checkNode hd_X8_checkNode (by decide) (Nat.le_of_ble_eq_true rfl) (by decide) (by decide) hT (fun E σ' h => h) rfl dX8_go_1 (fun σ_1 hh => ?_)
  clear h
  obtain ⟨e9, h⟩ := hh
  subst σ_1
  refine J_iln F 2 dX8_go_4 rfl rfl ?_
  refine J_ic F dX8_go_5 ki_3 ?_
  refine J_xcallSv F (As := [.int x2, .int (nI 3)]) (st := []) (C_X8_checkWhat l hl G x2 (nI 3)  h) lm_X8_149 li_X8_checkWhat ini_X8 lc_X8_checkWhat hd_X8_checkWhat (by decide) (Nat.le_of_ble_eq_true rfl) (by decide) (by decide) hT (fun E σ' h => h) rfl dX8_go_6 (fun σ_2 hh => ?_)
  clear h
  obtain ⟨e9, h⟩ := hh
  subst σ_2
  refine J_aln F 0 dX8_go_9 rfl rfl ?_
  refine J_gfa F (ci := 8) 2 rfl inX8 ly_0 (by decide) (by decide) rfl lf_X8_28 rfl dX8_go_10 ?_
  refine J_ic F dX8_go_13 ki_4 ?_
  refine J_iln F 2 dX8_go_14 rfl rfl ?_
  refine J_iadd F dX8_go_15 ?_
  refine J_iln F 1 dX8_go_16 rfl rfl ?_
  refine J_ic F dX8_go_17 ki_0 ?_
  refine J_ic F dX8_go_18 ki_0 ?_
  refine J_ic F dX8_go_19 ki_0 ?_
  refine J_callVv F (As := [.int ((nI 4) + x2), .int x1, .int (nI 0), .int (nI 0), .int (nI 0)]) (st := []) (C_X0_tell l G ((nI 4) + x2) x1 (nI 0) (nI 0) (nI 0)  h) (ci := 0) ly_4 (by decide) rfl rfl lm_X8_137 li_X0_tell ls_X0_tell ini_X0 lc_X0_tell hd_X0_tell (by decide) (Nat.le_of_ble_eq_true rfl) (by decide) rfl dX8_go_20 (fun σ_3 h => ?_)
  refine J_aln F 0 dX8_go_23 rfl rfl ?_
  refine J_xcallVv F (As := []) (st := []) (C_X8_settle l hl G   h) (ci := 8) ly_0 (by decide) rfl rfl lm_X8_141 li_X8_settle ls_X8_settle ini_X8 lc_X8_settle hd_X8_settle (by decide) (Nat.le_of_ble_eq_true rfl) (by decide) (by decide) hT (fun E σ' h => h) rfl dX8_go_24 (fun σ_4 h => ?_)
  refine J_aln F 0 dX8_go_27 rfl rfl ?_
  refine J_gfm F (ci := 8) 8 rfl inX8 ly_0 (by decide) (by decide) rfl lf_X8_66 rfl dX8_go_28 ?_
  obtain ⟨h_5, h⟩ := h
  refine J_aln F 0 dX8_go_31 rfl rfl ?_
  refine J_gfa F (ci := 8) 2 rfl inX8 ly_0 (by decide) (by decide) rfl lf_X8_28 rfl dX8_go_32 ?_
  refine J_callVi F (As := [.ref (gb G + 4)]) (st := []) (C_X1_perform l G ((σ_4 0 8).toNatClampNeg) h_5 h) (ci := 1) h_5 (by decide) rfl rfl lm_X8_101 li_X1_perform ls_X1_perform ini_X1 lc_X1_perform hd_X1_perform (by decide) (Nat.le_of_ble_eq_true rfl) (by decide) rfl dX8_go_35 (fun r_6 σ_7 h => ?_)
  exact J_retiX F (by decide) (by decide) ⟨_, rfl, h⟩ dX8_go_38
theorem dX8_tidy_0 : decode cX8_tidy 0 = .ok (.aload_n 0, 1) := by decide +kernel
theorem dX8_tidy_1 : decode cX8_tidy 1 = .ok (.getfield 28, 3) := by decide +kernel
theorem dX8_tidy_4 : decode cX8_tidy 4 = .ok (.bipush 7, 2) := by decide +kernel
theorem dX8_tidy_6 : decode cX8_tidy 6 = .ok (.iconst 0, 1) := by decide +kernel
theorem dX8_tidy_7 : decode cX8_tidy 7 = .ok (.iconst 0, 1) := by decide +kernel
theorem dX8_tidy_8 : decode cX8_tidy 8 = .ok (.iconst 0, 1) := by decide +kernel
theorem dX8_tidy_9 : decode cX8_tidy 9 = .ok (.iconst 0, 1) := by decide +kernel
theorem dX8_tidy_10 : decode cX8_tidy 10 = .ok (.invokevirtual 137, 3) := by decide +kernel
theorem dX8_tidy_13 : decode cX8_tidy 13 = .ok (.aload_n 0, 1) := by decide +kernel
theorem dX8_tidy_14 : decode cX8_tidy 14 = .ok (.invokevirtual 141, 3) := by decide +kernel
theorem dX8_tidy_17 : decode cX8_tidy 17 = .ok (.aload_n 0, 1) := by decide +kernel
theorem dX8_tidy_18 : decode cX8_tidy 18 = .ok (.getfield 66, 3) := by decide +kernel
theorem dX8_tidy_21 : decode cX8_tidy 21 = .ok (.aload_n 0, 1) := by decide +kernel
theorem dX8_tidy_22 : decode cX8_tidy 22 = .ok (.getfield 28, 3) := by decide +kernel
theorem dX8_tidy_25 : decode cX8_tidy 25 = .ok (.invokevirtual 101, 3) := by decide +kernel
theorem dX8_tidy_28 : decode cX8_tidy 28 = .ok (.ireturn, 1) := by decide +kernel
set_option maxRecDepth 20000 in
set_option maxHeartbeats 4000000 in
theorem C_X8_tidy (l : Launch) (hl : l.stackTraces = false) (G : Gp)   {σ : St} {Q : Int32 → St → Prop} {QX : String → St → Prop} (h : wp_X8_tidy σ  QX Q) : CnX l yX8_tidy cX8_tidy 1 (some .int) 7 164 1 6 G [.ref (gb G + 0)] σ (qI Q) QX := by
  refine CnX_of (L := [(0, .ref (gb G + 0))]) RX8 (by decide) rfl (Nat.le_of_ble_eq_true rfl) rfl ?_
  intro p e s m below meth c F hT
  unfold wp_X8_tidy at h
  refine J_aln F 0 dX8_tidy_0 rfl rfl ?_
  refine J_gfa F (ci := 8) 2 rfl inX8 ly_0 (by decide) (by decide) rfl lf_X8_28 rfl dX8_tidy_1 ?_
  refine J_bi F dX8_tidy_4 kb_7 ?_
  refine J_ic F dX8_tidy_6 ki_0 ?_
  refine J_ic F dX8_tidy_7 ki_0 ?_
  refine J_ic F dX8_tidy_8 ki_0 ?_
  refine J_ic F dX8_tidy_9 ki_0 ?_
  refine J_callVv F (As := [.int (nI 7), .int (nI 0), .int (nI 0), .int (nI 0), .int (nI 0)]) (st := []) (C_X0_tell l G (nI 7) (nI 0) (nI 0) (nI 0) (nI 0)  h) (ci := 0) ly_4 (by decide) rfl rfl lm_X8_137 li_X0_tell ls_X0_tell ini_X0 lc_X0_tell hd_X0_tell (by decide) (Nat.le_of_ble_eq_true rfl) (by decide) rfl dX8_tidy_10 (fun σ_1 h => ?_)
  refine J_aln F 0 dX8_tidy_13 rfl rfl ?_
  refine J_xcallVv F (As := []) (st := []) (C_X8_settle l hl G   h) (ci := 8) ly_0 (by decide) rfl rfl lm_X8_141 li_X8_settle ls_X8_settle ini_X8 lc_X8_settle hd_X8_settle (by decide) (Nat.le_of_ble_eq_true rfl) (by decide) (by decide) hT (fun E σ' h => h) rfl dX8_tidy_14 (fun σ_2 h => ?_)
  refine J_aln F 0 dX8_tidy_17 rfl rfl ?_
  refine J_gfm F (ci := 8) 8 rfl inX8 ly_0 (by decide) (by decide) rfl lf_X8_66 rfl dX8_tidy_18 ?_
  obtain ⟨h_3, h⟩ := h
  refine J_aln F 0 dX8_tidy_21 rfl rfl ?_
  refine J_gfa F (ci := 8) 2 rfl inX8 ly_0 (by decide) (by decide) rfl lf_X8_28 rfl dX8_tidy_22 ?_
  refine J_callVi F (As := [.ref (gb G + 4)]) (st := []) (C_X1_perform l G ((σ_2 0 8).toNatClampNeg) h_3 h) (ci := 1) h_3 (by decide) rfl rfl lm_X8_101 li_X1_perform ls_X1_perform ini_X1 lc_X1_perform hd_X1_perform (by decide) (Nat.le_of_ble_eq_true rfl) (by decide) rfl dX8_tidy_25 (fun r_4 σ_5 h => ?_)
  exact J_retiX F (by decide) (by decide) ⟨_, rfl, h⟩ dX8_tidy_28
theorem dX8_checkKey_0 : decode cX8_checkKey 0 = .ok (.iload_n 0, 1) := by decide +kernel
theorem dX8_checkKey_1 : decode cX8_checkKey 1 = .ok (.ifCond .lt 9, 3) := by decide +kernel
theorem dX8_checkKey_4 : decode cX8_checkKey 4 = .ok (.iload_n 0, 1) := by decide +kernel
theorem dX8_checkKey_5 : decode cX8_checkKey 5 = .ok (.bipush 100, 2) := by decide +kernel
theorem dX8_checkKey_7 : decode cX8_checkKey 7 = .ok (.if_icmp .lt 14, 3) := by decide +kernel
theorem dX8_checkKey_10 : decode cX8_checkKey 10 = .ok (.new 355, 3) := by decide +kernel
theorem dX8_checkKey_13 : decode cX8_checkKey 13 = .ok (.dup, 1) := by decide +kernel
theorem dX8_checkKey_14 : decode cX8_checkKey 14 = .ok (.ldc_w 360, 3) := by decide +kernel
theorem dX8_checkKey_17 : decode cX8_checkKey 17 = .ok (.invokespecial 359, 3) := by decide +kernel
theorem dX8_checkKey_20 : decode cX8_checkKey 20 = .ok (.athrow, 1) := by decide +kernel
theorem dX8_checkKey_21 : decode cX8_checkKey 21 = .ok (.return_, 1) := by decide +kernel
set_option maxRecDepth 20000 in
set_option maxHeartbeats 4000000 in
theorem C_X8_checkKey (l : Launch) (hl : l.stackTraces = false) (G : Gp) (x0 : Int32)  {σ : St} {Q : Prop} {QX : String → St → Prop} (h : wp_X8_checkKey σ x0 QX Q) : CnX l yX8_checkKey cX8_checkKey 1 none 6 100 1 6 G [.int x0] σ (qV (fun σ' => σ' = σ ∧ Q)) QX := by
  refine CnX_of (L := [(0, .int x0)]) RX8 (by decide) rfl (Nat.le_of_ble_eq_true rfl) rfl ?_
  intro p e s m below meth c F hT
  unfold wp_X8_checkKey at h
  refine J_iln F 0 dX8_checkKey_0 rfl rfl ?_
  refine J_zlt F (tgt := 10) dX8_checkKey_1 (by decide) (fun c_1 => ?_) (fun c_1 => ?_)
  · have h := h.1 c_1
    exact J_throwW hl F hT th_X8_355_360 (by decide) (Nat.le_of_ble_eq_true rfl) (by decide) (by decide) h dX8_checkKey_10 dX8_checkKey_13 dX8_checkKey_14 dX8_checkKey_17 dX8_checkKey_20
  · have h := h.2 c_1
    refine J_iln F 0 dX8_checkKey_4 rfl rfl ?_
    refine J_bi F dX8_checkKey_5 kb_100 ?_
    refine J_clt F (tgt := 21) dX8_checkKey_7 (by decide) (fun c_2 => ?_) (fun c_2 => ?_)
    · have h := h.1 c_2
      exact J_retvX F (by decide) (by decide) ⟨rfl, rfl, h⟩ dX8_checkKey_21
    · have h := h.2 c_2
      exact J_throwW hl F hT th_X8_355_360 (by decide) (Nat.le_of_ble_eq_true rfl) (by decide) (by decide) h dX8_checkKey_10 dX8_checkKey_13 dX8_checkKey_14 dX8_checkKey_17 dX8_checkKey_20
theorem dX8_put_0 : decode cX8_put 0 = .ok (.iload_n 1, 1) := by decide +kernel
theorem dX8_put_1 : decode cX8_put 1 = .ok (.invokestatic 153, 3) := by decide +kernel
theorem dX8_put_4 : decode cX8_put 4 = .ok (.iload_n 2, 1) := by decide +kernel
theorem dX8_put_5 : decode cX8_put 5 = .ok (.ifCond .lt 10, 3) := by decide +kernel
theorem dX8_put_8 : decode cX8_put 8 = .ok (.iload_n 2, 1) := by decide +kernel
theorem dX8_put_9 : decode cX8_put 9 = .ok (.sipush 1000, 3) := by decide +kernel
theorem dX8_put_12 : decode cX8_put 12 = .ok (.if_icmp .lt 13, 3) := by decide +kernel
theorem dX8_put_15 : decode cX8_put 15 = .ok (.new 110, 3) := by decide +kernel
theorem dX8_put_18 : decode cX8_put 18 = .ok (.dup, 1) := by decide +kernel
theorem dX8_put_19 : decode cX8_put 19 = .ok (.ldc 156, 2) := by decide +kernel
theorem dX8_put_21 : decode cX8_put 21 = .ok (.invokespecial 114, 3) := by decide +kernel
theorem dX8_put_24 : decode cX8_put 24 = .ok (.athrow, 1) := by decide +kernel
theorem dX8_put_25 : decode cX8_put 25 = .ok (.aload_n 0, 1) := by decide +kernel
theorem dX8_put_26 : decode cX8_put 26 = .ok (.getfield 28, 3) := by decide +kernel
theorem dX8_put_29 : decode cX8_put 29 = .ok (.bipush 8, 2) := by decide +kernel
theorem dX8_put_31 : decode cX8_put 31 = .ok (.iload_n 1, 1) := by decide +kernel
theorem dX8_put_32 : decode cX8_put 32 = .ok (.iload_n 2, 1) := by decide +kernel
theorem dX8_put_33 : decode cX8_put 33 = .ok (.iconst 0, 1) := by decide +kernel
theorem dX8_put_34 : decode cX8_put 34 = .ok (.iconst 0, 1) := by decide +kernel
theorem dX8_put_35 : decode cX8_put 35 = .ok (.invokevirtual 137, 3) := by decide +kernel
theorem dX8_put_38 : decode cX8_put 38 = .ok (.aload_n 0, 1) := by decide +kernel
theorem dX8_put_39 : decode cX8_put 39 = .ok (.invokevirtual 141, 3) := by decide +kernel
theorem dX8_put_42 : decode cX8_put 42 = .ok (.aload_n 0, 1) := by decide +kernel
theorem dX8_put_43 : decode cX8_put 43 = .ok (.getfield 66, 3) := by decide +kernel
theorem dX8_put_46 : decode cX8_put 46 = .ok (.aload_n 0, 1) := by decide +kernel
theorem dX8_put_47 : decode cX8_put 47 = .ok (.getfield 28, 3) := by decide +kernel
theorem dX8_put_50 : decode cX8_put 50 = .ok (.invokevirtual 101, 3) := by decide +kernel
theorem dX8_put_53 : decode cX8_put 53 = .ok (.ireturn, 1) := by decide +kernel
set_option maxRecDepth 20000 in
set_option maxHeartbeats 4000000 in
theorem C_X8_put (l : Launch) (hl : l.stackTraces = false) (G : Gp) (x1 : Int32) (x2 : Int32)  {σ : St} {Q : Int32 → St → Prop} {QX : String → St → Prop} (h : wp_X8_put σ x1 x2 QX Q) : CnX l yX8_put cX8_put 3 (some .int) 7 164 3 18 G [.ref (gb G + 0), .int x1, .int x2] σ (qI Q) QX := by
  refine CnX_of (L := [(0, .ref (gb G + 0)), (1, .int x1), (2, .int x2)]) RX8 (by decide) rfl (Nat.le_of_ble_eq_true rfl) rfl ?_
  intro p e s m below meth c F hT
  unfold wp_X8_put at h
  refine J_iln F 1 dX8_put_0 rfl rfl ?_
  refine J_xcallSv F (As := [.int x1]) (st := []) (C_X8_checkKey l hl G x1  h) lm_X8_153 li_X8_checkKey ini_X8 lc_X8_checkKey hd_X8_checkKey (by decide) (Nat.le_of_ble_eq_true rfl) (by decide) (by decide) hT (fun E σ' h => h) rfl dX8_put_1 (fun σ_1 hh => ?_)
  clear h
  obtain ⟨e9, h⟩ := hh
  subst σ_1
  refine J_iln F 2 dX8_put_4 rfl rfl ?_
  refine J_zlt F (tgt := 15) dX8_put_5 (by decide) (fun c_2 => ?_) (fun c_2 => ?_)
  · have h := h.1 c_2
    exact J_throw hl F hT th_X8_110_156 (by decide) (Nat.le_of_ble_eq_true rfl) (by decide) (by decide) h dX8_put_15 dX8_put_18 dX8_put_19 dX8_put_21 dX8_put_24
  · have h := h.2 c_2
    refine J_iln F 2 dX8_put_8 rfl rfl ?_
    refine J_si F dX8_put_9 ks_1000 ?_
    refine J_clt F (tgt := 25) dX8_put_12 (by decide) (fun c_3 => ?_) (fun c_3 => ?_)
    · have h := h.1 c_3
      refine J_aln F 0 dX8_put_25 rfl rfl ?_
      refine J_gfa F (ci := 8) 2 rfl inX8 ly_0 (by decide) (by decide) rfl lf_X8_28 rfl dX8_put_26 ?_
      refine J_bi F dX8_put_29 kb_8 ?_
      refine J_iln F 1 dX8_put_31 rfl rfl ?_
      refine J_iln F 2 dX8_put_32 rfl rfl ?_
      refine J_ic F dX8_put_33 ki_0 ?_
      refine J_ic F dX8_put_34 ki_0 ?_
      refine J_callVv F (As := [.int (nI 8), .int x1, .int x2, .int (nI 0), .int (nI 0)]) (st := []) (C_X0_tell l G (nI 8) x1 x2 (nI 0) (nI 0)  h) (ci := 0) ly_4 (by decide) rfl rfl lm_X8_137 li_X0_tell ls_X0_tell ini_X0 lc_X0_tell hd_X0_tell (by decide) (Nat.le_of_ble_eq_true rfl) (by decide) rfl dX8_put_35 (fun σ_4 h => ?_)
      refine J_aln F 0 dX8_put_38 rfl rfl ?_
      refine J_xcallVv F (As := []) (st := []) (C_X8_settle l hl G   h) (ci := 8) ly_0 (by decide) rfl rfl lm_X8_141 li_X8_settle ls_X8_settle ini_X8 lc_X8_settle hd_X8_settle (by decide) (Nat.le_of_ble_eq_true rfl) (by decide) (by decide) hT (fun E σ' h => h) rfl dX8_put_39 (fun σ_5 h => ?_)
      refine J_aln F 0 dX8_put_42 rfl rfl ?_
      refine J_gfm F (ci := 8) 8 rfl inX8 ly_0 (by decide) (by decide) rfl lf_X8_66 rfl dX8_put_43 ?_
      obtain ⟨h_6, h⟩ := h
      refine J_aln F 0 dX8_put_46 rfl rfl ?_
      refine J_gfa F (ci := 8) 2 rfl inX8 ly_0 (by decide) (by decide) rfl lf_X8_28 rfl dX8_put_47 ?_
      refine J_callVi F (As := [.ref (gb G + 4)]) (st := []) (C_X1_perform l G ((σ_5 0 8).toNatClampNeg) h_6 h) (ci := 1) h_6 (by decide) rfl rfl lm_X8_101 li_X1_perform ls_X1_perform ini_X1 lc_X1_perform hd_X1_perform (by decide) (Nat.le_of_ble_eq_true rfl) (by decide) rfl dX8_put_50 (fun r_7 σ_8 h => ?_)
      exact J_retiX F (by decide) (by decide) ⟨_, rfl, h⟩ dX8_put_53
    · have h := h.2 c_3
      exact J_throw hl F hT th_X8_110_156 (by decide) (Nat.le_of_ble_eq_true rfl) (by decide) (by decide) h dX8_put_15 dX8_put_18 dX8_put_19 dX8_put_21 dX8_put_24
theorem dX8_cut_0 : decode cX8_cut 0 = .ok (.iload_n 1, 1) := by decide +kernel
theorem dX8_cut_1 : decode cX8_cut 1 = .ok (.invokestatic 153, 3) := by decide +kernel
theorem dX8_cut_4 : decode cX8_cut 4 = .ok (.aload_n 0, 1) := by decide +kernel
theorem dX8_cut_5 : decode cX8_cut 5 = .ok (.getfield 28, 3) := by decide +kernel
theorem dX8_cut_8 : decode cX8_cut 8 = .ok (.bipush 9, 2) := by decide +kernel
theorem dX8_cut_10 : decode cX8_cut 10 = .ok (.iload_n 1, 1) := by decide +kernel
theorem dX8_cut_11 : decode cX8_cut 11 = .ok (.iconst 0, 1) := by decide +kernel
theorem dX8_cut_12 : decode cX8_cut 12 = .ok (.iconst 0, 1) := by decide +kernel
theorem dX8_cut_13 : decode cX8_cut 13 = .ok (.iconst 0, 1) := by decide +kernel
theorem dX8_cut_14 : decode cX8_cut 14 = .ok (.invokevirtual 137, 3) := by decide +kernel
theorem dX8_cut_17 : decode cX8_cut 17 = .ok (.aload_n 0, 1) := by decide +kernel
theorem dX8_cut_18 : decode cX8_cut 18 = .ok (.invokevirtual 141, 3) := by decide +kernel
theorem dX8_cut_21 : decode cX8_cut 21 = .ok (.aload_n 0, 1) := by decide +kernel
theorem dX8_cut_22 : decode cX8_cut 22 = .ok (.getfield 66, 3) := by decide +kernel
theorem dX8_cut_25 : decode cX8_cut 25 = .ok (.aload_n 0, 1) := by decide +kernel
theorem dX8_cut_26 : decode cX8_cut 26 = .ok (.getfield 28, 3) := by decide +kernel
theorem dX8_cut_29 : decode cX8_cut 29 = .ok (.invokevirtual 101, 3) := by decide +kernel
theorem dX8_cut_32 : decode cX8_cut 32 = .ok (.ireturn, 1) := by decide +kernel
set_option maxRecDepth 20000 in
set_option maxHeartbeats 4000000 in
theorem C_X8_cut (l : Launch) (hl : l.stackTraces = false) (G : Gp) (x1 : Int32)  {σ : St} {Q : Int32 → St → Prop} {QX : String → St → Prop} (h : wp_X8_cut σ x1 QX Q) : CnX l yX8_cut cX8_cut 2 (some .int) 7 164 2 12 G [.ref (gb G + 0), .int x1] σ (qI Q) QX := by
  refine CnX_of (L := [(0, .ref (gb G + 0)), (1, .int x1)]) RX8 (by decide) rfl (Nat.le_of_ble_eq_true rfl) rfl ?_
  intro p e s m below meth c F hT
  unfold wp_X8_cut at h
  refine J_iln F 1 dX8_cut_0 rfl rfl ?_
  refine J_xcallSv F (As := [.int x1]) (st := []) (C_X8_checkKey l hl G x1  h) lm_X8_153 li_X8_checkKey ini_X8 lc_X8_checkKey hd_X8_checkKey (by decide) (Nat.le_of_ble_eq_true rfl) (by decide) (by decide) hT (fun E σ' h => h) rfl dX8_cut_1 (fun σ_1 hh => ?_)
  clear h
  obtain ⟨e9, h⟩ := hh
  subst σ_1
  refine J_aln F 0 dX8_cut_4 rfl rfl ?_
  refine J_gfa F (ci := 8) 2 rfl inX8 ly_0 (by decide) (by decide) rfl lf_X8_28 rfl dX8_cut_5 ?_
  refine J_bi F dX8_cut_8 kb_9 ?_
  refine J_iln F 1 dX8_cut_10 rfl rfl ?_
  refine J_ic F dX8_cut_11 ki_0 ?_
  refine J_ic F dX8_cut_12 ki_0 ?_
  refine J_ic F dX8_cut_13 ki_0 ?_
  refine J_callVv F (As := [.int (nI 9), .int x1, .int (nI 0), .int (nI 0), .int (nI 0)]) (st := []) (C_X0_tell l G (nI 9) x1 (nI 0) (nI 0) (nI 0)  h) (ci := 0) ly_4 (by decide) rfl rfl lm_X8_137 li_X0_tell ls_X0_tell ini_X0 lc_X0_tell hd_X0_tell (by decide) (Nat.le_of_ble_eq_true rfl) (by decide) rfl dX8_cut_14 (fun σ_2 h => ?_)
  refine J_aln F 0 dX8_cut_17 rfl rfl ?_
  refine J_xcallVv F (As := []) (st := []) (C_X8_settle l hl G   h) (ci := 8) ly_0 (by decide) rfl rfl lm_X8_141 li_X8_settle ls_X8_settle ini_X8 lc_X8_settle hd_X8_settle (by decide) (Nat.le_of_ble_eq_true rfl) (by decide) (by decide) hT (fun E σ' h => h) rfl dX8_cut_18 (fun σ_3 h => ?_)
  refine J_aln F 0 dX8_cut_21 rfl rfl ?_
  refine J_gfm F (ci := 8) 8 rfl inX8 ly_0 (by decide) (by decide) rfl lf_X8_66 rfl dX8_cut_22 ?_
  obtain ⟨h_4, h⟩ := h
  refine J_aln F 0 dX8_cut_25 rfl rfl ?_
  refine J_gfa F (ci := 8) 2 rfl inX8 ly_0 (by decide) (by decide) rfl lf_X8_28 rfl dX8_cut_26 ?_
  refine J_callVi F (As := [.ref (gb G + 4)]) (st := []) (C_X1_perform l G ((σ_3 0 8).toNatClampNeg) h_4 h) (ci := 1) h_4 (by decide) rfl rfl lm_X8_101 li_X1_perform ls_X1_perform ini_X1 lc_X1_perform hd_X1_perform (by decide) (Nat.le_of_ble_eq_true rfl) (by decide) rfl dX8_cut_29 (fun r_5 σ_6 h => ?_)
  exact J_retiX F (by decide) (by decide) ⟨_, rfl, h⟩ dX8_cut_32
theorem dX8_mend_0 : decode cX8_mend 0 = .ok (.aload_n 0, 1) := by decide +kernel
theorem dX8_mend_1 : decode cX8_mend 1 = .ok (.getfield 28, 3) := by decide +kernel
theorem dX8_mend_4 : decode cX8_mend 4 = .ok (.bipush 10, 2) := by decide +kernel
theorem dX8_mend_6 : decode cX8_mend 6 = .ok (.iconst 0, 1) := by decide +kernel
theorem dX8_mend_7 : decode cX8_mend 7 = .ok (.iconst 0, 1) := by decide +kernel
theorem dX8_mend_8 : decode cX8_mend 8 = .ok (.iconst 0, 1) := by decide +kernel
theorem dX8_mend_9 : decode cX8_mend 9 = .ok (.iconst 0, 1) := by decide +kernel
theorem dX8_mend_10 : decode cX8_mend 10 = .ok (.invokevirtual 137, 3) := by decide +kernel
theorem dX8_mend_13 : decode cX8_mend 13 = .ok (.aload_n 0, 1) := by decide +kernel
theorem dX8_mend_14 : decode cX8_mend 14 = .ok (.invokevirtual 141, 3) := by decide +kernel
theorem dX8_mend_17 : decode cX8_mend 17 = .ok (.aload_n 0, 1) := by decide +kernel
theorem dX8_mend_18 : decode cX8_mend 18 = .ok (.getfield 66, 3) := by decide +kernel
theorem dX8_mend_21 : decode cX8_mend 21 = .ok (.aload_n 0, 1) := by decide +kernel
theorem dX8_mend_22 : decode cX8_mend 22 = .ok (.getfield 28, 3) := by decide +kernel
theorem dX8_mend_25 : decode cX8_mend 25 = .ok (.invokevirtual 101, 3) := by decide +kernel
theorem dX8_mend_28 : decode cX8_mend 28 = .ok (.ireturn, 1) := by decide +kernel
set_option maxRecDepth 20000 in
set_option maxHeartbeats 4000000 in
theorem C_X8_mend (l : Launch) (hl : l.stackTraces = false) (G : Gp)   {σ : St} {Q : Int32 → St → Prop} {QX : String → St → Prop} (h : wp_X8_mend σ  QX Q) : CnX l yX8_mend cX8_mend 1 (some .int) 7 164 1 6 G [.ref (gb G + 0)] σ (qI Q) QX := by
  refine CnX_of (L := [(0, .ref (gb G + 0))]) RX8 (by decide) rfl (Nat.le_of_ble_eq_true rfl) rfl ?_
  intro p e s m below meth c F hT
  unfold wp_X8_mend at h
  refine J_aln F 0 dX8_mend_0 rfl rfl ?_
  refine J_gfa F (ci := 8) 2 rfl inX8 ly_0 (by decide) (by decide) rfl lf_X8_28 rfl dX8_mend_1 ?_
  refine J_bi F dX8_mend_4 kb_10 ?_
  refine J_ic F dX8_mend_6 ki_0 ?_
  refine J_ic F dX8_mend_7 ki_0 ?_
  refine J_ic F dX8_mend_8 ki_0 ?_
  refine J_ic F dX8_mend_9 ki_0 ?_
  refine J_callVv F (As := [.int (nI 10), .int (nI 0), .int (nI 0), .int (nI 0), .int (nI 0)]) (st := []) (C_X0_tell l G (nI 10) (nI 0) (nI 0) (nI 0) (nI 0)  h) (ci := 0) ly_4 (by decide) rfl rfl lm_X8_137 li_X0_tell ls_X0_tell ini_X0 lc_X0_tell hd_X0_tell (by decide) (Nat.le_of_ble_eq_true rfl) (by decide) rfl dX8_mend_10 (fun σ_1 h => ?_)
  refine J_aln F 0 dX8_mend_13 rfl rfl ?_
  refine J_xcallVv F (As := []) (st := []) (C_X8_settle l hl G   h) (ci := 8) ly_0 (by decide) rfl rfl lm_X8_141 li_X8_settle ls_X8_settle ini_X8 lc_X8_settle hd_X8_settle (by decide) (Nat.le_of_ble_eq_true rfl) (by decide) (by decide) hT (fun E σ' h => h) rfl dX8_mend_14 (fun σ_2 h => ?_)
  refine J_aln F 0 dX8_mend_17 rfl rfl ?_
  refine J_gfm F (ci := 8) 8 rfl inX8 ly_0 (by decide) (by decide) rfl lf_X8_66 rfl dX8_mend_18 ?_
  obtain ⟨h_3, h⟩ := h
  refine J_aln F 0 dX8_mend_21 rfl rfl ?_
  refine J_gfa F (ci := 8) 2 rfl inX8 ly_0 (by decide) (by decide) rfl lf_X8_28 rfl dX8_mend_22 ?_
  refine J_callVi F (As := [.ref (gb G + 4)]) (st := []) (C_X1_perform l G ((σ_2 0 8).toNatClampNeg) h_3 h) (ci := 1) h_3 (by decide) rfl rfl lm_X8_101 li_X1_perform ls_X1_perform ini_X1 lc_X1_perform hd_X1_perform (by decide) (Nat.le_of_ble_eq_true rfl) (by decide) rfl dX8_mend_25 (fun r_4 σ_5 h => ?_)
  exact J_retiX F (by decide) (by decide) ⟨_, rfl, h⟩ dX8_mend_28
theorem dX8_undo_0 : decode cX8_undo 0 = .ok (.aload_n 0, 1) := by decide +kernel
theorem dX8_undo_1 : decode cX8_undo 1 = .ok (.getfield 35, 3) := by decide +kernel
theorem dX8_undo_4 : decode cX8_undo 4 = .ok (.getfield 166, 3) := by decide +kernel
theorem dX8_undo_7 : decode cX8_undo 7 = .ok (.ifCond .ne 13, 3) := by decide +kernel
theorem dX8_undo_10 : decode cX8_undo 10 = .ok (.new 158, 3) := by decide +kernel
theorem dX8_undo_13 : decode cX8_undo 13 = .ok (.dup, 1) := by decide +kernel
theorem dX8_undo_14 : decode cX8_undo 14 = .ok (.ldc 169, 2) := by decide +kernel
theorem dX8_undo_16 : decode cX8_undo 16 = .ok (.invokespecial 162, 3) := by decide +kernel
theorem dX8_undo_19 : decode cX8_undo 19 = .ok (.athrow, 1) := by decide +kernel
theorem dX8_undo_20 : decode cX8_undo 20 = .ok (.aload_n 0, 1) := by decide +kernel
theorem dX8_undo_21 : decode cX8_undo 21 = .ok (.getfield 35, 3) := by decide +kernel
theorem dX8_undo_24 : decode cX8_undo 24 = .ok (.aload_n 0, 1) := by decide +kernel
theorem dX8_undo_25 : decode cX8_undo 25 = .ok (.getfield 66, 3) := by decide +kernel
theorem dX8_undo_28 : decode cX8_undo 28 = .ok (.invokevirtual 171, 3) := by decide +kernel
theorem dX8_undo_31 : decode cX8_undo 31 = .ok (.aload_n 0, 1) := by decide +kernel
theorem dX8_undo_32 : decode cX8_undo 32 = .ok (.getfield 35, 3) := by decide +kernel
theorem dX8_undo_35 : decode cX8_undo 35 = .ok (.getfield 166, 3) := by decide +kernel
theorem dX8_undo_38 : decode cX8_undo 38 = .ok (.ireturn, 1) := by decide +kernel
set_option maxRecDepth 20000 in
set_option maxHeartbeats 4000000 in
theorem C_X8_undo (l : Launch) (hl : l.stackTraces = false) (G : Gp)   {σ : St} {Q : Int32 → St → Prop} {QX : String → St → Prop} (h : wp_X8_undo σ  QX Q) : CnX l yX8_undo cX8_undo 1 (some .int) 6 128 1 6 G [.ref (gb G + 0)] σ (qI Q) QX := by
  refine CnX_of (L := [(0, .ref (gb G + 0))]) RX8 (by decide) rfl (Nat.le_of_ble_eq_true rfl) rfl ?_
  intro p e s m below meth c F hT
  unfold wp_X8_undo at h
  refine J_aln F 0 dX8_undo_0 rfl rfl ?_
  refine J_gfa F (ci := 8) 3 rfl inX8 ly_0 (by decide) (by decide) rfl lf_X8_35 rfl dX8_undo_1 ?_
  refine J_gfi F (ci := 2) 2 rfl inX2 ly_6 (by decide) (by decide) rfl lf_X8_166 rfl dX8_undo_4 ?_
  refine J_zne F (tgt := 20) dX8_undo_7 (by decide) (fun c_1 => ?_) (fun c_1 => ?_)
  · have h := h.1 c_1
    refine J_aln F 0 dX8_undo_20 rfl rfl ?_
    refine J_gfa F (ci := 8) 3 rfl inX8 ly_0 (by decide) (by decide) rfl lf_X8_35 rfl dX8_undo_21 ?_
    refine J_aln F 0 dX8_undo_24 rfl rfl ?_
    refine J_gfm F (ci := 8) 8 rfl inX8 ly_0 (by decide) (by decide) rfl lf_X8_66 rfl dX8_undo_25 ?_
    obtain ⟨h_2, h⟩ := h
    refine J_callVv F (As := [.ref (gb G + ((σ 0 8).toNatClampNeg))]) (st := []) (C_X2_takeBack l G ((σ 0 8).toNatClampNeg) h_2 h) (ci := 2) ly_6 (by decide) rfl rfl lm_X8_171 li_X2_takeBack ls_X2_takeBack ini_X2 lc_X2_takeBack hd_X2_takeBack (by decide) (Nat.le_of_ble_eq_true rfl) (by decide) rfl dX8_undo_28 (fun σ_3 h => ?_)
    refine J_aln F 0 dX8_undo_31 rfl rfl ?_
    refine J_gfa F (ci := 8) 3 rfl inX8 ly_0 (by decide) (by decide) rfl lf_X8_35 rfl dX8_undo_32 ?_
    refine J_gfi F (ci := 2) 2 rfl inX2 ly_6 (by decide) (by decide) rfl lf_X8_166 rfl dX8_undo_35 ?_
    exact J_retiX F (by decide) (by decide) ⟨_, rfl, h⟩ dX8_undo_38
  · have h := h.2 c_1
    exact J_throw hl F hT th_X8_158_169 (by decide) (Nat.le_of_ble_eq_true rfl) (by decide) (by decide) h dX8_undo_10 dX8_undo_13 dX8_undo_14 dX8_undo_16 dX8_undo_19
theorem dX8_node_0 : decode cX8_node 0 = .ok (.iload_n 1, 1) := by decide +kernel
theorem dX8_node_1 : decode cX8_node 1 = .ok (.invokestatic 146, 3) := by decide +kernel
theorem dX8_node_4 : decode cX8_node 4 = .ok (.iload_n 2, 1) := by decide +kernel
theorem dX8_node_5 : decode cX8_node 5 = .ok (.iconst 3, 1) := by decide +kernel
theorem dX8_node_6 : decode cX8_node 6 = .ok (.invokestatic 149, 3) := by decide +kernel
theorem dX8_node_9 : decode cX8_node 9 = .ok (.iload_n 2, 1) := by decide +kernel
theorem dX8_node_10 : decode cX8_node 10 = .ok (.ifCond .ne 13, 3) := by decide +kernel
theorem dX8_node_13 : decode cX8_node 13 = .ok (.aload_n 0, 1) := by decide +kernel
theorem dX8_node_14 : decode cX8_node 14 = .ok (.getfield 66, 3) := by decide +kernel
theorem dX8_node_17 : decode cX8_node 17 = .ok (.getfield 174, 3) := by decide +kernel
theorem dX8_node_20 : decode cX8_node 20 = .ok (.iload_n 1, 1) := by decide +kernel
theorem dX8_node_21 : decode cX8_node 21 = .ok (.iaload, 1) := by decide +kernel
theorem dX8_node_22 : decode cX8_node 22 = .ok (.ireturn, 1) := by decide +kernel
theorem dX8_node_23 : decode cX8_node 23 = .ok (.aload_n 0, 1) := by decide +kernel
theorem dX8_node_24 : decode cX8_node 24 = .ok (.getfield 66, 3) := by decide +kernel
theorem dX8_node_27 : decode cX8_node 27 = .ok (.getfield 174, 3) := by decide +kernel
theorem dX8_node_30 : decode cX8_node 30 = .ok (.iload_n 1, 1) := by decide +kernel
theorem dX8_node_31 : decode cX8_node 31 = .ok (.iaload, 1) := by decide +kernel
theorem dX8_node_32 : decode cX8_node 32 = .ok (.ifCond .ne 5, 3) := by decide +kernel
theorem dX8_node_35 : decode cX8_node 35 = .ok (.iconst (-1), 1) := by decide +kernel
theorem dX8_node_36 : decode cX8_node 36 = .ok (.ireturn, 1) := by decide +kernel
theorem dX8_node_37 : decode cX8_node 37 = .ok (.iload_n 2, 1) := by decide +kernel
theorem dX8_node_38 : decode cX8_node 38 = .ok (.iconst 1, 1) := by decide +kernel
theorem dX8_node_39 : decode cX8_node 39 = .ok (.if_icmp .ne 15, 3) := by decide +kernel
theorem dX8_node_42 : decode cX8_node 42 = .ok (.aload_n 0, 1) := by decide +kernel
theorem dX8_node_43 : decode cX8_node 43 = .ok (.getfield 66, 3) := by decide +kernel
theorem dX8_node_46 : decode cX8_node 46 = .ok (.getfield 178, 3) := by decide +kernel
theorem dX8_node_49 : decode cX8_node 49 = .ok (.iload_n 1, 1) := by decide +kernel
theorem dX8_node_50 : decode cX8_node 50 = .ok (.iaload, 1) := by decide +kernel
theorem dX8_node_51 : decode cX8_node 51 = .ok (.goto 12, 3) := by decide +kernel
theorem dX8_node_54 : decode cX8_node 54 = .ok (.aload_n 0, 1) := by decide +kernel
theorem dX8_node_55 : decode cX8_node 55 = .ok (.getfield 66, 3) := by decide +kernel
theorem dX8_node_58 : decode cX8_node 58 = .ok (.getfield 181, 3) := by decide +kernel
theorem dX8_node_61 : decode cX8_node 61 = .ok (.iload_n 1, 1) := by decide +kernel
theorem dX8_node_62 : decode cX8_node 62 = .ok (.iaload, 1) := by decide +kernel
theorem dX8_node_63 : decode cX8_node 63 = .ok (.ireturn, 1) := by decide +kernel
set_option maxRecDepth 20000 in
set_option maxHeartbeats 4000000 in
theorem C_X8_node (l : Launch) (hl : l.stackTraces = false) (G : Gp) (x1 : Int32) (x2 : Int32)  {σ : St} {Q : Int32 → Prop} {QX : String → St → Prop} (h : wp_X8_node σ x1 x2 QX Q) : CnX l yX8_node cX8_node 3 (some .int) 7 121 2 12 G [.ref (gb G + 0), .int x1, .int x2] σ (qI (fun r σ' => σ' = σ ∧ Q r)) QX := by
  refine CnX_of (L := [(0, .ref (gb G + 0)), (1, .int x1), (2, .int x2)]) RX8 (by decide) rfl (Nat.le_of_ble_eq_true rfl) rfl ?_
  intro p e s m below meth c F hT
  unfold wp_X8_node at h
  refine J_iln F 1 dX8_node_0 rfl rfl ?_
  refine J_xcallSv F (As := [.int x1]) (st := []) (C_X8_checkNode l hl G x1  h) lm_X8_146 li_X8_checkNode ini_X8 lc_X8_checkNode hd_X8_checkNode (by decide) (Nat.le_of_ble_eq_true rfl) (by decide) (by decide) hT (fun E σ' h => h) rfl dX8_node_1 (fun σ_1 hh => ?_)
  clear h
  obtain ⟨e9, h⟩ := hh
  subst σ_1
  refine J_iln F 2 dX8_node_4 rfl rfl ?_
  refine J_ic F dX8_node_5 ki_3 ?_
  refine J_xcallSv F (As := [.int x2, .int (nI 3)]) (st := []) (C_X8_checkWhat l hl G x2 (nI 3)  h) lm_X8_149 li_X8_checkWhat ini_X8 lc_X8_checkWhat hd_X8_checkWhat (by decide) (Nat.le_of_ble_eq_true rfl) (by decide) (by decide) hT (fun E σ' h => h) rfl dX8_node_6 (fun σ_2 hh => ?_)
  clear h
  obtain ⟨e9, h⟩ := hh
  subst σ_2
  refine J_iln F 2 dX8_node_9 rfl rfl ?_
  refine J_zne F (tgt := 23) dX8_node_10 (by decide) (fun c_3 => ?_) (fun c_3 => ?_)
  · have h := h.1 c_3
    refine J_aln F 0 dX8_node_23 rfl rfl ?_
    refine J_gfm F (ci := 8) 8 rfl inX8 ly_0 (by decide) (by decide) rfl lf_X8_66 rfl dX8_node_24 ?_
    obtain ⟨h_4, h⟩ := h
    refine J_gfr F (ci := 1) 1 rfl inX1 h_4 (by decide) (by decide) rfl lf_X8_174 rfl dX8_node_27 ?_
    refine J_iln F 1 dX8_node_30 rfl rfl ?_
    obtain ⟨h_5, h⟩ := h
    refine J_iald F (lay_net h_4).2.1 h_5 dX8_node_31 ?_
    refine J_zne F (tgt := 37) dX8_node_32 (by decide) (fun c_6 => ?_) (fun c_6 => ?_)
    · have h := h.1 c_6
      refine J_iln F 2 dX8_node_37 rfl rfl ?_
      refine J_ic F dX8_node_38 ki_1 ?_
      refine J_cne F (tgt := 54) dX8_node_39 (by decide) (fun c_7 => ?_) (fun c_7 => ?_)
      · have h := h.1 c_7
        refine J_aln F 0 dX8_node_54 rfl rfl ?_
        refine J_gfm F (ci := 8) 8 rfl inX8 ly_0 (by decide) (by decide) rfl lf_X8_66 rfl dX8_node_55 ?_
        obtain ⟨h_8, h⟩ := h
        refine J_gfr F (ci := 1) 3 rfl inX1 h_8 (by decide) (by decide) rfl lf_X8_181 rfl dX8_node_58 ?_
        refine J_iln F 1 dX8_node_61 rfl rfl ?_
        obtain ⟨h_9, h⟩ := h
        refine J_iald F (lay_net h_8).2.2.2.1 h_9 dX8_node_62 ?_
        exact J_retiX F (by decide) (by decide) ⟨_, rfl, rfl, h⟩ dX8_node_63
      · have h := h.2 c_7
        refine J_aln F 0 dX8_node_42 rfl rfl ?_
        refine J_gfm F (ci := 8) 8 rfl inX8 ly_0 (by decide) (by decide) rfl lf_X8_66 rfl dX8_node_43 ?_
        obtain ⟨h_10, h⟩ := h
        refine J_gfr F (ci := 1) 2 rfl inX1 h_10 (by decide) (by decide) rfl lf_X8_178 rfl dX8_node_46 ?_
        refine J_iln F 1 dX8_node_49 rfl rfl ?_
        obtain ⟨h_11, h⟩ := h
        refine J_iald F (lay_net h_10).2.2.1 h_11 dX8_node_50 ?_
        refine J_goto F (tgt := 63) dX8_node_51 (by decide) ?_
        exact J_retiX F (by decide) (by decide) ⟨_, rfl, rfl, h⟩ dX8_node_63
    · have h := h.2 c_6
      refine J_ic F dX8_node_35 ki_m1 ?_
      exact J_retiX F (by decide) (by decide) ⟨_, rfl, rfl, h⟩ dX8_node_36
  · have h := h.2 c_3
    refine J_aln F 0 dX8_node_13 rfl rfl ?_
    refine J_gfm F (ci := 8) 8 rfl inX8 ly_0 (by decide) (by decide) rfl lf_X8_66 rfl dX8_node_14 ?_
    obtain ⟨h_12, h⟩ := h
    refine J_gfr F (ci := 1) 1 rfl inX1 h_12 (by decide) (by decide) rfl lf_X8_174 rfl dX8_node_17 ?_
    refine J_iln F 1 dX8_node_20 rfl rfl ?_
    obtain ⟨h_13, h⟩ := h
    refine J_iald F (lay_net h_12).2.1 h_13 dX8_node_21 ?_
    exact J_retiX F (by decide) (by decide) ⟨_, rfl, rfl, h⟩ dX8_node_22
theorem dX8_checkReality_0 : decode cX8_checkReality 0 = .ok (.iload_n 1, 1) := by decide +kernel
theorem dX8_checkReality_1 : decode cX8_checkReality 1 = .ok (.ifCond .lt 14, 3) := by decide +kernel
theorem dX8_checkReality_4 : decode cX8_checkReality 4 = .ok (.iload_n 1, 1) := by decide +kernel
theorem dX8_checkReality_5 : decode cX8_checkReality 5 = .ok (.aload_n 0, 1) := by decide +kernel
theorem dX8_checkReality_6 : decode cX8_checkReality 6 = .ok (.getfield 66, 3) := by decide +kernel
theorem dX8_checkReality_9 : decode cX8_checkReality 9 = .ok (.getfield 279, 3) := by decide +kernel
theorem dX8_checkReality_12 : decode cX8_checkReality 12 = .ok (.if_icmp .lt 14, 3) := by decide +kernel
theorem dX8_checkReality_15 : decode cX8_checkReality 15 = .ok (.new 355, 3) := by decide +kernel
theorem dX8_checkReality_18 : decode cX8_checkReality 18 = .ok (.dup, 1) := by decide +kernel
theorem dX8_checkReality_19 : decode cX8_checkReality 19 = .ok (.ldc_w 362, 3) := by decide +kernel
theorem dX8_checkReality_22 : decode cX8_checkReality 22 = .ok (.invokespecial 359, 3) := by decide +kernel
theorem dX8_checkReality_25 : decode cX8_checkReality 25 = .ok (.athrow, 1) := by decide +kernel
theorem dX8_checkReality_26 : decode cX8_checkReality 26 = .ok (.return_, 1) := by decide +kernel
set_option maxRecDepth 20000 in
set_option maxHeartbeats 4000000 in
theorem C_X8_checkReality (l : Launch) (hl : l.stackTraces = false) (G : Gp) (x1 : Int32)  {σ : St} {Q : Prop} {QX : String → St → Prop} (h : wp_X8_checkReality σ x1 QX Q) : CnX l yX8_checkReality cX8_checkReality 2 none 6 100 1 6 G [.ref (gb G + 0), .int x1] σ (qV (fun σ' => σ' = σ ∧ Q)) QX := by
  refine CnX_of (L := [(0, .ref (gb G + 0)), (1, .int x1)]) RX8 (by decide) rfl (Nat.le_of_ble_eq_true rfl) rfl ?_
  intro p e s m below meth c F hT
  unfold wp_X8_checkReality at h
  refine J_iln F 1 dX8_checkReality_0 rfl rfl ?_
  refine J_zlt F (tgt := 15) dX8_checkReality_1 (by decide) (fun c_1 => ?_) (fun c_1 => ?_)
  · have h := h.1 c_1
    exact J_throwW hl F hT th_X8_355_362 (by decide) (Nat.le_of_ble_eq_true rfl) (by decide) (by decide) h dX8_checkReality_15 dX8_checkReality_18 dX8_checkReality_19 dX8_checkReality_22 dX8_checkReality_25
  · have h := h.2 c_1
    refine J_iln F 1 dX8_checkReality_4 rfl rfl ?_
    refine J_aln F 0 dX8_checkReality_5 rfl rfl ?_
    refine J_gfm F (ci := 8) 8 rfl inX8 ly_0 (by decide) (by decide) rfl lf_X8_66 rfl dX8_checkReality_6 ?_
    obtain ⟨h_2, h⟩ := h
    refine J_gfi F (ci := 1) 9 rfl inX1 h_2 (by decide) (by decide) rfl lf_X8_279 rfl dX8_checkReality_9 ?_
    refine J_clt F (tgt := 26) dX8_checkReality_12 (by decide) (fun c_3 => ?_) (fun c_3 => ?_)
    · have h := h.1 c_3
      exact J_retvX F (by decide) (by decide) ⟨rfl, rfl, h⟩ dX8_checkReality_26
    · have h := h.2 c_3
      exact J_throwW hl F hT th_X8_355_362 (by decide) (Nat.le_of_ble_eq_true rfl) (by decide) (by decide) h dX8_checkReality_15 dX8_checkReality_18 dX8_checkReality_19 dX8_checkReality_22 dX8_checkReality_25
theorem dX8_hubOf_0 : decode cX8_hubOf 0 = .ok (.aload_n 0, 1) := by decide +kernel
theorem dX8_hubOf_1 : decode cX8_hubOf 1 = .ok (.getfield 42, 3) := by decide +kernel
theorem dX8_hubOf_4 : decode cX8_hubOf 4 = .ok (.aload_n 0, 1) := by decide +kernel
theorem dX8_hubOf_5 : decode cX8_hubOf 5 = .ok (.getfield 66, 3) := by decide +kernel
theorem dX8_hubOf_8 : decode cX8_hubOf 8 = .ok (.getfield 187, 3) := by decide +kernel
theorem dX8_hubOf_11 : decode cX8_hubOf 11 = .ok (.iload_n 1, 1) := by decide +kernel
theorem dX8_hubOf_12 : decode cX8_hubOf 12 = .ok (.aaload, 1) := by decide +kernel
theorem dX8_hubOf_13 : decode cX8_hubOf 13 = .ok (.iload_n 1, 1) := by decide +kernel
theorem dX8_hubOf_14 : decode cX8_hubOf 14 = .ok (.invokevirtual 199, 3) := by decide +kernel
theorem dX8_hubOf_17 : decode cX8_hubOf 17 = .ok (.iconst (-1), 1) := by decide +kernel
theorem dX8_hubOf_18 : decode cX8_hubOf 18 = .ok (.istore_n 2, 1) := by decide +kernel
theorem dX8_hubOf_19 : decode cX8_hubOf 19 = .ok (.iconst (-1), 1) := by decide +kernel
theorem dX8_hubOf_20 : decode cX8_hubOf 20 = .ok (.istore_n 3, 1) := by decide +kernel
theorem dX8_hubOf_21 : decode cX8_hubOf 21 = .ok (.iconst 0, 1) := by decide +kernel
theorem dX8_hubOf_22 : decode cX8_hubOf 22 = .ok (.istore 4, 2) := by decide +kernel
theorem dX8_hubOf_24 : decode cX8_hubOf 24 = .ok (.iload 4, 2) := by decide +kernel
theorem dX8_hubOf_26 : decode cX8_hubOf 26 = .ok (.bipush 10, 2) := by decide +kernel
theorem dX8_hubOf_28 : decode cX8_hubOf 28 = .ok (.if_icmp .ge 50, 3) := by decide +kernel
theorem dX8_hubOf_31 : decode cX8_hubOf 31 = .ok (.aload_n 0, 1) := by decide +kernel
theorem dX8_hubOf_32 : decode cX8_hubOf 32 = .ok (.getfield 42, 3) := by decide +kernel
theorem dX8_hubOf_35 : decode cX8_hubOf 35 = .ok (.iload_n 1, 1) := by decide +kernel
theorem dX8_hubOf_36 : decode cX8_hubOf 36 = .ok (.iload 4, 2) := by decide +kernel
theorem dX8_hubOf_38 : decode cX8_hubOf 38 = .ok (.invokevirtual 203, 3) := by decide +kernel
theorem dX8_hubOf_41 : decode cX8_hubOf 41 = .ok (.invokestatic 326, 3) := by decide +kernel
theorem dX8_hubOf_44 : decode cX8_hubOf 44 = .ok (.istore 5, 2) := by decide +kernel
theorem dX8_hubOf_46 : decode cX8_hubOf 46 = .ok (.aload_n 0, 1) := by decide +kernel
theorem dX8_hubOf_47 : decode cX8_hubOf 47 = .ok (.getfield 66, 3) := by decide +kernel
theorem dX8_hubOf_50 : decode cX8_hubOf 50 = .ok (.getfield 174, 3) := by decide +kernel
theorem dX8_hubOf_53 : decode cX8_hubOf 53 = .ok (.iload 4, 2) := by decide +kernel
theorem dX8_hubOf_55 : decode cX8_hubOf 55 = .ok (.iaload, 1) := by decide +kernel
theorem dX8_hubOf_56 : decode cX8_hubOf 56 = .ok (.iconst 1, 1) := by decide +kernel
theorem dX8_hubOf_57 : decode cX8_hubOf 57 = .ok (.if_icmp .ne 15, 3) := by decide +kernel
theorem dX8_hubOf_60 : decode cX8_hubOf 60 = .ok (.iload 5, 2) := by decide +kernel
theorem dX8_hubOf_62 : decode cX8_hubOf 62 = .ok (.iload_n 3, 1) := by decide +kernel
theorem dX8_hubOf_63 : decode cX8_hubOf 63 = .ok (.if_icmp .le 9, 3) := by decide +kernel
theorem dX8_hubOf_66 : decode cX8_hubOf 66 = .ok (.iload 5, 2) := by decide +kernel
theorem dX8_hubOf_68 : decode cX8_hubOf 68 = .ok (.istore_n 3, 1) := by decide +kernel
theorem dX8_hubOf_69 : decode cX8_hubOf 69 = .ok (.iload 4, 2) := by decide +kernel
theorem dX8_hubOf_71 : decode cX8_hubOf 71 = .ok (.istore_n 2, 1) := by decide +kernel
theorem dX8_hubOf_72 : decode cX8_hubOf 72 = .ok (.iinc 4 1, 3) := by decide +kernel
theorem dX8_hubOf_75 : decode cX8_hubOf 75 = .ok (.goto (-51), 3) := by decide +kernel
theorem dX8_hubOf_78 : decode cX8_hubOf 78 = .ok (.iload_n 2, 1) := by decide +kernel
theorem dX8_hubOf_79 : decode cX8_hubOf 79 = .ok (.ireturn, 1) := by decide +kernel
set_option maxRecDepth 20000 in
set_option maxHeartbeats 4000000 in
theorem wk_X8_hubOf_24 {p : Program} {l : Launch} {e : Env} {s : State} {m : MethodId} {args : Array Value} {below : List Frame} {meth : Method} {c : Code} {G : Gp} {σ : St} {x1 : Int32}  {Q : Int32 → St → Prop} (F : FX p s m args meth c cX8_hubOf 6 (some .int) RX8 G)   : ∀ (n9 : Nat) (x2 : Int32) (x3 : Int32) (x4 : Int32), LP3 (wp_X8_hubOf_24 σ x1 Q) n9 x2 x3 x4 → J p l e (rmF 4 96) s m args below meth c 6 G (MQ below (QQ G (qI Q)) args s 0 0 (fr G)) 0 0 24 [(0, .ref (gb G + 0)), (1, .int x1), (2, .int x2), (3, .int x3), (4, .int x4)] [] σ := by
  intro n9
  induction n9 with
  | zero => intro x2 x3 x4 h; exact h.elim
  | succ n9 i24 =>
    intro x2 x3 x4 h
    have h : wp_X8_hubOf_24 σ x1 Q (LP3 (wp_X8_hubOf_24 σ x1 Q) n9) x2 x3 x4 := h
    unfold wp_X8_hubOf_24 at h
    refine J_il F 4 dX8_hubOf_24 rfl ?_
    refine J_bi F dX8_hubOf_26 kb_10 ?_
    refine J_cge F (tgt := 78) dX8_hubOf_28 (by decide) (fun c_1 => ?_) (fun c_1 => ?_)
    · have h := h.1 c_1
      refine J_iln F 2 dX8_hubOf_78 rfl rfl ?_
      exact J_reti F ⟨_, rfl, h⟩ dX8_hubOf_79
    · have h := h.2 c_1
      refine J_aln F 0 dX8_hubOf_31 rfl rfl ?_
      refine J_gfa F (ci := 8) 4 rfl inX8 ly_0 (by decide) (by decide) rfl lf_X8_42 rfl dX8_hubOf_32 ?_
      refine J_iln F 1 dX8_hubOf_35 rfl rfl ?_
      refine J_il F 4 dX8_hubOf_36 rfl ?_
      refine J_callVi F (As := [.int x1, .int x4]) (st := []) (C_X7_besideIn l G x1 x4  h) (ci := 7) ly_176 (by decide) rfl rfl lm_X8_203 li_X7_besideIn ls_X7_besideIn ini_X7 lc_X7_besideIn hd_X7_besideIn (by decide) (Nat.le_of_ble_eq_true rfl) (by decide) rfl dX8_hubOf_38 (fun r_2 σ_3 hh => ?_)
      clear h
      obtain ⟨e9, h⟩ := hh
      subst σ_3
      refine J_callSi F (As := [.int r_2]) (st := []) (C_J6_bitCount_0f7a4 l G r_2  h) lm_X8_326 li_J6_bitCount_0f7a4 ini_J6 lc_J6_bitCount_0f7a4 hd_J6_bitCount_0f7a4 (by decide) (Nat.le_of_ble_eq_true rfl) (by decide) rfl dX8_hubOf_41 (fun r_4 σ_5 hh => ?_)
      clear h
      obtain ⟨e9, h⟩ := hh
      subst σ_5
      refine J_is F (L' := [(5, .int r_4), (0, .ref (gb G + 0)), (1, .int x1), (2, .int x2), (3, .int x3), (4, .int x4)]) dX8_hubOf_44 (by decide) rfl ?_
      refine J_aln F 1 dX8_hubOf_46 rfl rfl ?_
      refine J_gfm F (ci := 8) 8 rfl inX8 ly_0 (by decide) (by decide) rfl lf_X8_66 rfl dX8_hubOf_47 ?_
      obtain ⟨h_6, h⟩ := h
      refine J_gfr F (ci := 1) 1 rfl inX1 h_6 (by decide) (by decide) rfl lf_X8_174 rfl dX8_hubOf_50 ?_
      refine J_il F 5 dX8_hubOf_53 rfl ?_
      obtain ⟨h_7, h⟩ := h
      refine J_iald F (lay_net h_6).2.1 h_7 dX8_hubOf_55 ?_
      refine J_ic F dX8_hubOf_56 ki_1 ?_
      refine J_cne F (tgt := 72) dX8_hubOf_57 (by decide) (fun c_8 => ?_) (fun c_8 => ?_)
      · have h := h.1 c_8
        obtain ⟨x4_9, ex4_9⟩ : ∃ z : Int32, z = x4 + (nI 1) := ⟨_, rfl⟩
        have h := h x4_9 ex4_9
        refine J_iinc F (v := x4_9) (L' := [(4, .int x4_9), (5, .int r_4), (0, .ref (gb G + 0)), (1, .int x1), (2, .int x2), (3, .int x3)]) 5 dX8_hubOf_72 rfl (by rw [ki_1, ex4_9]) (by decide) rfl ?_
        refine J_goto F (tgt := 24) dX8_hubOf_75 (by decide) ?_
        refine J_sub [2, 3, 4, 5, 0] rfl ?_
        exact i24 _ _ _ h
      · have h := h.2 c_8
        refine J_il F 0 dX8_hubOf_60 rfl ?_
        refine J_iln F 4 dX8_hubOf_62 rfl rfl ?_
        refine J_cle F (tgt := 72) dX8_hubOf_63 (by decide) (fun c_10 => ?_) (fun c_10 => ?_)
        · have h := h.1 c_10
          obtain ⟨x4_11, ex4_11⟩ : ∃ z : Int32, z = x4 + (nI 1) := ⟨_, rfl⟩
          have h := h x4_11 ex4_11
          refine J_iinc F (v := x4_11) (L' := [(4, .int x4_11), (5, .int r_4), (0, .ref (gb G + 0)), (1, .int x1), (2, .int x2), (3, .int x3)]) 5 dX8_hubOf_72 rfl (by rw [ki_1, ex4_11]) (by decide) rfl ?_
          refine J_goto F (tgt := 24) dX8_hubOf_75 (by decide) ?_
          refine J_sub [2, 3, 4, 5, 0] rfl ?_
          exact i24 _ _ _ h
        · have h := h.2 c_10
          refine J_il F 0 dX8_hubOf_66 rfl ?_
          refine J_isn F (L' := [(3, .int r_4), (5, .int r_4), (0, .ref (gb G + 0)), (1, .int x1), (2, .int x2), (4, .int x4)]) dX8_hubOf_68 rfl (by decide) rfl ?_
          refine J_il F 5 dX8_hubOf_69 rfl ?_
          refine J_isn F (L' := [(2, .int x4), (3, .int r_4), (5, .int r_4), (0, .ref (gb G + 0)), (1, .int x1), (4, .int x4)]) dX8_hubOf_71 rfl (by decide) rfl ?_
          obtain ⟨x4_12, ex4_12⟩ : ∃ z : Int32, z = x4 + (nI 1) := ⟨_, rfl⟩
          have h := h x4_12 ex4_12
          refine J_iinc F (v := x4_12) (L' := [(4, .int x4_12), (2, .int x4), (3, .int r_4), (5, .int r_4), (0, .ref (gb G + 0)), (1, .int x1)]) 5 dX8_hubOf_72 rfl (by rw [ki_1, ex4_12]) (by decide) rfl ?_
          refine J_goto F (tgt := 24) dX8_hubOf_75 (by decide) ?_
          refine J_sub [4, 5, 1, 2, 0] rfl ?_
          exact i24 _ _ _ h
set_option maxRecDepth 20000 in
set_option maxHeartbeats 4000000 in
theorem C_X8_hubOf (l : Launch) (G : Gp) (x1 : Int32)  {σ : St} {Q : Int32 → St → Prop} (h : wp_X8_hubOf σ x1 Q) : Cn l yX8_hubOf cX8_hubOf 6 (some .int) 4 96 G [.ref (gb G + 0), .int x1] σ (qI Q) := by
  refine Cn_of (L := [(0, .ref (gb G + 0)), (1, .int x1)]) RX8 (by decide) rfl (Nat.le_of_ble_eq_true rfl) rfl ?_
  intro p e s m below meth c F
  unfold wp_X8_hubOf at h
  refine J_aln F 0 dX8_hubOf_0 rfl rfl ?_
  refine J_gfa F (ci := 8) 4 rfl inX8 ly_0 (by decide) (by decide) rfl lf_X8_42 rfl dX8_hubOf_1 ?_
  refine J_aln F 0 dX8_hubOf_4 rfl rfl ?_
  refine J_gfm F (ci := 8) 8 rfl inX8 ly_0 (by decide) (by decide) rfl lf_X8_66 rfl dX8_hubOf_5 ?_
  obtain ⟨h_13, h⟩ := h
  refine J_gfr F (ci := 1) 0 rfl inX1 h_13 (by decide) (by decide) rfl lf_X8_187 rfl dX8_hubOf_8 ?_
  refine J_iln F 1 dX8_hubOf_11 rfl rfl ?_
  obtain ⟨h_14, h⟩ := h
  refine J_aldS F (lay_net h_13).1 h_14 dX8_hubOf_12 ?_
  refine J_iln F 1 dX8_hubOf_13 rfl rfl ?_
  refine J_callVv F (As := [.ref (gb G + ((σ 0 8).toNatClampNeg + 1 + 8 + 4 * Int32.toNatClampNeg x1)), .int x1]) (st := []) (C_X7_lookBeside l G ((σ 0 8).toNatClampNeg + 1 + 8 + 4 * Int32.toNatClampNeg x1) x1 (lay_sp h_13 h_14) h) (ci := 7) ly_176 (by decide) rfl rfl lm_X8_199 li_X7_lookBeside ls_X7_lookBeside ini_X7 lc_X7_lookBeside hd_X7_lookBeside (by decide) (Nat.le_of_ble_eq_true rfl) (by decide) rfl dX8_hubOf_14 (fun σ_15 h => ?_)
  refine J_ic F dX8_hubOf_17 ki_m1 ?_
  refine J_isn F (L' := [(2, .int (-1)), (0, .ref (gb G + 0)), (1, .int x1)]) dX8_hubOf_18 rfl (by decide) rfl ?_
  refine J_ic F dX8_hubOf_19 ki_m1 ?_
  refine J_isn F (L' := [(3, .int (-1)), (2, .int (-1)), (0, .ref (gb G + 0)), (1, .int x1)]) dX8_hubOf_20 rfl (by decide) rfl ?_
  refine J_ic F dX8_hubOf_21 ki_0 ?_
  refine J_is F (L' := [(4, .int (nI 0)), (3, .int (-1)), (2, .int (-1)), (0, .ref (gb G + 0)), (1, .int x1)]) dX8_hubOf_22 (by decide) rfl ?_
  refine J_sub [3, 4, 2, 1, 0] rfl ?_
  obtain ⟨n9, h⟩ := h
  exact wk_X8_hubOf_24 F  n9 _ _ _ h
theorem dX8_held_0 : decode cX8_held 0 = .ok (.iload_n 1, 1) := by decide +kernel
theorem dX8_held_1 : decode cX8_held 1 = .ok (.invokestatic 146, 3) := by decide +kernel
theorem dX8_held_4 : decode cX8_held 4 = .ok (.aload_n 0, 1) := by decide +kernel
theorem dX8_held_5 : decode cX8_held 5 = .ok (.iload_n 2, 1) := by decide +kernel
theorem dX8_held_6 : decode cX8_held 6 = .ok (.invokevirtual 184, 3) := by decide +kernel
theorem dX8_held_9 : decode cX8_held 9 = .ok (.iload_n 3, 1) := by decide +kernel
theorem dX8_held_10 : decode cX8_held 10 = .ok (.iconst 5, 1) := by decide +kernel
theorem dX8_held_11 : decode cX8_held 11 = .ok (.invokestatic 149, 3) := by decide +kernel
theorem dX8_held_14 : decode cX8_held 14 = .ok (.aload_n 0, 1) := by decide +kernel
theorem dX8_held_15 : decode cX8_held 15 = .ok (.getfield 66, 3) := by decide +kernel
theorem dX8_held_18 : decode cX8_held 18 = .ok (.getfield 187, 3) := by decide +kernel
theorem dX8_held_21 : decode cX8_held 21 = .ok (.iload_n 2, 1) := by decide +kernel
theorem dX8_held_22 : decode cX8_held 22 = .ok (.aaload, 1) := by decide +kernel
theorem dX8_held_23 : decode cX8_held 23 = .ok (.astore 4, 2) := by decide +kernel
theorem dX8_held_25 : decode cX8_held 25 = .ok (.iload_n 3, 1) := by decide +kernel
theorem dX8_held_26 : decode cX8_held 26 = .ok (.tableswitch 76 0 3 #[30, 38, 46, 66], 30) := by decide +kernel
theorem dX8_held_56 : decode cX8_held 56 = .ok (.aload 4, 2) := by decide +kernel
theorem dX8_held_58 : decode cX8_held 58 = .ok (.getfield 191, 3) := by decide +kernel
theorem dX8_held_61 : decode cX8_held 61 = .ok (.iload_n 1, 1) := by decide +kernel
theorem dX8_held_62 : decode cX8_held 62 = .ok (.iaload, 1) := by decide +kernel
theorem dX8_held_63 : decode cX8_held 63 = .ok (.ireturn, 1) := by decide +kernel
theorem dX8_held_64 : decode cX8_held 64 = .ok (.aload 4, 2) := by decide +kernel
theorem dX8_held_66 : decode cX8_held 66 = .ok (.getfield 196, 3) := by decide +kernel
theorem dX8_held_69 : decode cX8_held 69 = .ok (.iload_n 1, 1) := by decide +kernel
theorem dX8_held_70 : decode cX8_held 70 = .ok (.iaload, 1) := by decide +kernel
theorem dX8_held_71 : decode cX8_held 71 = .ok (.ireturn, 1) := by decide +kernel
theorem dX8_held_72 : decode cX8_held 72 = .ok (.aload_n 0, 1) := by decide +kernel
theorem dX8_held_73 : decode cX8_held 73 = .ok (.getfield 42, 3) := by decide +kernel
theorem dX8_held_76 : decode cX8_held 76 = .ok (.aload 4, 2) := by decide +kernel
theorem dX8_held_78 : decode cX8_held 78 = .ok (.iload_n 2, 1) := by decide +kernel
theorem dX8_held_79 : decode cX8_held 79 = .ok (.invokevirtual 199, 3) := by decide +kernel
theorem dX8_held_82 : decode cX8_held 82 = .ok (.aload_n 0, 1) := by decide +kernel
theorem dX8_held_83 : decode cX8_held 83 = .ok (.getfield 42, 3) := by decide +kernel
theorem dX8_held_86 : decode cX8_held 86 = .ok (.iload_n 2, 1) := by decide +kernel
theorem dX8_held_87 : decode cX8_held 87 = .ok (.iload_n 1, 1) := by decide +kernel
theorem dX8_held_88 : decode cX8_held 88 = .ok (.invokevirtual 203, 3) := by decide +kernel
theorem dX8_held_91 : decode cX8_held 91 = .ok (.ireturn, 1) := by decide +kernel
theorem dX8_held_92 : decode cX8_held 92 = .ok (.aload_n 0, 1) := by decide +kernel
theorem dX8_held_93 : decode cX8_held 93 = .ok (.getfield 66, 3) := by decide +kernel
theorem dX8_held_96 : decode cX8_held 96 = .ok (.iload_n 1, 1) := by decide +kernel
theorem dX8_held_97 : decode cX8_held 97 = .ok (.iload_n 2, 1) := by decide +kernel
theorem dX8_held_98 : decode cX8_held 98 = .ok (.invokevirtual 207, 3) := by decide +kernel
theorem dX8_held_101 : decode cX8_held 101 = .ok (.ireturn, 1) := by decide +kernel
theorem dX8_held_102 : decode cX8_held 102 = .ok (.aload_n 0, 1) := by decide +kernel
theorem dX8_held_103 : decode cX8_held 103 = .ok (.iload_n 2, 1) := by decide +kernel
theorem dX8_held_104 : decode cX8_held 104 = .ok (.invokevirtual 210, 3) := by decide +kernel
theorem dX8_held_107 : decode cX8_held 107 = .ok (.iload_n 1, 1) := by decide +kernel
theorem dX8_held_108 : decode cX8_held 108 = .ok (.if_icmp .ne 7, 3) := by decide +kernel
theorem dX8_held_111 : decode cX8_held 111 = .ok (.iconst 1, 1) := by decide +kernel
theorem dX8_held_112 : decode cX8_held 112 = .ok (.goto 4, 3) := by decide +kernel
theorem dX8_held_115 : decode cX8_held 115 = .ok (.iconst 0, 1) := by decide +kernel
theorem dX8_held_116 : decode cX8_held 116 = .ok (.ireturn, 1) := by decide +kernel
set_option maxRecDepth 20000 in
set_option maxHeartbeats 4000000 in
theorem C_X8_held (l : Launch) (hl : l.stackTraces = false) (G : Gp) (x1 : Int32) (x2 : Int32) (x3 : Int32)  {σ : St} {Q : Int32 → St → Prop} {QX : String → St → Prop} (h : wp_X8_held σ x1 x2 x3 QX Q) : CnX l yX8_held cX8_held 5 (some .int) 7 121 3 18 G [.ref (gb G + 0), .int x1, .int x2, .int x3] σ (qI Q) QX := by
  refine CnX_of (L := [(0, .ref (gb G + 0)), (1, .int x1), (2, .int x2), (3, .int x3)]) RX8 (by decide) rfl (Nat.le_of_ble_eq_true rfl) rfl ?_
  intro p e s m below meth c F hT
  unfold wp_X8_held at h
  refine J_iln F 1 dX8_held_0 rfl rfl ?_
  refine J_xcallSv F (As := [.int x1]) (st := []) (C_X8_checkNode l hl G x1  h) lm_X8_146 li_X8_checkNode ini_X8 lc_X8_checkNode hd_X8_checkNode (by decide) (Nat.le_of_ble_eq_true rfl) (by decide) (by decide) hT (fun E σ' h => h) rfl dX8_held_1 (fun σ_1 hh => ?_)
  clear h
  obtain ⟨e9, h⟩ := hh
  subst σ_1
  refine J_aln F 0 dX8_held_4 rfl rfl ?_
  refine J_iln F 2 dX8_held_5 rfl rfl ?_
  refine J_xcallVv F (As := [.int x2]) (st := []) (C_X8_checkReality l hl G x2  h) (ci := 8) ly_0 (by decide) rfl rfl lm_X8_184 li_X8_checkReality ls_X8_checkReality ini_X8 lc_X8_checkReality hd_X8_checkReality (by decide) (Nat.le_of_ble_eq_true rfl) (by decide) (by decide) hT (fun E σ' h => h) rfl dX8_held_6 (fun σ_2 hh => ?_)
  clear h
  obtain ⟨e9, h⟩ := hh
  subst σ_2
  refine J_iln F 3 dX8_held_9 rfl rfl ?_
  refine J_ic F dX8_held_10 ki_5 ?_
  refine J_xcallSv F (As := [.int x3, .int (nI 5)]) (st := []) (C_X8_checkWhat l hl G x3 (nI 5)  h) lm_X8_149 li_X8_checkWhat ini_X8 lc_X8_checkWhat hd_X8_checkWhat (by decide) (Nat.le_of_ble_eq_true rfl) (by decide) (by decide) hT (fun E σ' h => h) rfl dX8_held_11 (fun σ_3 hh => ?_)
  clear h
  obtain ⟨e9, h⟩ := hh
  subst σ_3
  refine J_aln F 0 dX8_held_14 rfl rfl ?_
  refine J_gfm F (ci := 8) 8 rfl inX8 ly_0 (by decide) (by decide) rfl lf_X8_66 rfl dX8_held_15 ?_
  obtain ⟨h_4, h⟩ := h
  refine J_gfr F (ci := 1) 0 rfl inX1 h_4 (by decide) (by decide) rfl lf_X8_187 rfl dX8_held_18 ?_
  refine J_iln F 2 dX8_held_21 rfl rfl ?_
  obtain ⟨h_5, h⟩ := h
  refine J_aldS F (lay_net h_4).1 h_5 dX8_held_22 ?_
  refine J_as F (L' := [(4, .ref (gb G + ((σ 0 8).toNatClampNeg + 1 + 8 + 4 * Int32.toNatClampNeg x2))), (0, .ref (gb G + 0)), (1, .int x1), (2, .int x2), (3, .int x3)]) dX8_held_23 (by decide) rfl ?_
  refine J_iln F 4 dX8_held_25 rfl rfl ?_
  refine J_case (v := nI 0) (fun c_7 => ?_) (fun c_7 => ?_)
  · have h := h.1 c_7
    refine J_tabIn F (off := 30) (tgt := 56) dX8_held_26 (by decide) (by decide) (by decide) (by decide) ?_
    refine J_al F 0 dX8_held_56 rfl ?_
    refine J_gfr F (ci := 4) 2 rfl inX4 (lay_sp h_4 h_5) (by decide) (by decide) rfl lf_X8_191 rfl dX8_held_58 ?_
    refine J_iln F 2 dX8_held_61 rfl rfl ?_
    obtain ⟨h_8, h⟩ := h
    refine J_iald F (lay_space (lay_sp h_4 h_5)).2.2 h_8 dX8_held_62 ?_
    exact J_retiX F (by decide) (by decide) ⟨_, rfl, h⟩ dX8_held_63
  · have h := h.2 c_7
    refine J_case (v := nI 1) (fun c_9 => ?_) (fun c_9 => ?_)
    · have h := h.1 c_9
      refine J_tabIn F (off := 38) (tgt := 64) dX8_held_26 (by decide) (by decide) (by decide) (by decide) ?_
      refine J_al F 0 dX8_held_64 rfl ?_
      refine J_gfr F (ci := 4) 1 rfl inX4 (lay_sp h_4 h_5) (by decide) (by decide) rfl lf_X8_196 rfl dX8_held_66 ?_
      refine J_iln F 2 dX8_held_69 rfl rfl ?_
      obtain ⟨h_10, h⟩ := h
      refine J_iald F (lay_space (lay_sp h_4 h_5)).2.1 h_10 dX8_held_70 ?_
      exact J_retiX F (by decide) (by decide) ⟨_, rfl, h⟩ dX8_held_71
    · have h := h.2 c_9
      refine J_case (v := nI 2) (fun c_11 => ?_) (fun c_11 => ?_)
      · have h := h.1 c_11
        refine J_tabIn F (off := 46) (tgt := 72) dX8_held_26 (by decide) (by decide) (by decide) (by decide) ?_
        refine J_aln F 1 dX8_held_72 rfl rfl ?_
        refine J_gfa F (ci := 8) 4 rfl inX8 ly_0 (by decide) (by decide) rfl lf_X8_42 rfl dX8_held_73 ?_
        refine J_al F 0 dX8_held_76 rfl ?_
        refine J_iln F 3 dX8_held_78 rfl rfl ?_
        refine J_callVv F (As := [.ref (gb G + ((σ 0 8).toNatClampNeg + 1 + 8 + 4 * Int32.toNatClampNeg x2)), .int x2]) (st := []) (C_X7_lookBeside l G ((σ 0 8).toNatClampNeg + 1 + 8 + 4 * Int32.toNatClampNeg x2) x2 (lay_sp h_4 h_5) h) (ci := 7) ly_176 (by decide) rfl rfl lm_X8_199 li_X7_lookBeside ls_X7_lookBeside ini_X7 lc_X7_lookBeside hd_X7_lookBeside (by decide) (Nat.le_of_ble_eq_true rfl) (by decide) rfl dX8_held_79 (fun σ_12 h => ?_)
        refine J_aln F 1 dX8_held_82 rfl rfl ?_
        refine J_gfa F (ci := 8) 4 rfl inX8 ly_0 (by decide) (by decide) rfl lf_X8_42 rfl dX8_held_83 ?_
        refine J_iln F 3 dX8_held_86 rfl rfl ?_
        refine J_iln F 2 dX8_held_87 rfl rfl ?_
        refine J_callVi F (As := [.int x2, .int x1]) (st := []) (C_X7_besideIn l G x2 x1  h) (ci := 7) ly_176 (by decide) rfl rfl lm_X8_203 li_X7_besideIn ls_X7_besideIn ini_X7 lc_X7_besideIn hd_X7_besideIn (by decide) (Nat.le_of_ble_eq_true rfl) (by decide) rfl dX8_held_88 (fun r_13 σ_14 hh => ?_)
        clear h
        obtain ⟨e9, h⟩ := hh
        subst σ_14
        exact J_retiX F (by decide) (by decide) ⟨_, rfl, h⟩ dX8_held_91
      · have h := h.2 c_11
        refine J_case (v := nI 3) (fun c_15 => ?_) (fun c_15 => ?_)
        · have h := h.1 c_15
          refine J_tabIn F (off := 66) (tgt := 92) dX8_held_26 (by decide) (by decide) (by decide) (by decide) ?_
          refine J_aln F 1 dX8_held_92 rfl rfl ?_
          refine J_gfm F (ci := 8) 8 rfl inX8 ly_0 (by decide) (by decide) rfl lf_X8_66 rfl dX8_held_93 ?_
          obtain ⟨h_16, h⟩ := h
          refine J_iln F 2 dX8_held_96 rfl rfl ?_
          refine J_iln F 3 dX8_held_97 rfl rfl ?_
          refine J_callVi F (As := [.int x1, .int x2]) (st := []) (C_X1_loadOf l G ((σ 0 8).toNatClampNeg) x1 x2 h_16 h) (ci := 1) h_16 (by decide) rfl rfl lm_X8_207 li_X1_loadOf ls_X1_loadOf ini_X1 lc_X1_loadOf hd_X1_loadOf (by decide) (Nat.le_of_ble_eq_true rfl) (by decide) rfl dX8_held_98 (fun r_17 σ_18 hh => ?_)
          clear h
          obtain ⟨e9, h⟩ := hh
          subst σ_18
          exact J_retiX F (by decide) (by decide) ⟨_, rfl, h⟩ dX8_held_101
        · have h := h.2 c_15
          refine J_tabOut F (tgt := 102) dX8_held_26 (tab_out 0 3 (fun k h1 h2 => by rcases (show k = 0 ∨ k = 1 ∨ k = 2 ∨ k = 3 by omega) with rfl | rfl | rfl | rfl <;> assumption)) (by decide) ?_
          refine J_aln F 1 dX8_held_102 rfl rfl ?_
          refine J_iln F 3 dX8_held_103 rfl rfl ?_
          refine J_callVi F (As := [.int x2]) (st := []) (C_X8_hubOf l G x2  h) (ci := 8) ly_0 (by decide) rfl rfl lm_X8_210 li_X8_hubOf ls_X8_hubOf ini_X8 lc_X8_hubOf hd_X8_hubOf (by decide) (Nat.le_of_ble_eq_true rfl) (by decide) rfl dX8_held_104 (fun r_19 σ_20 h => ?_)
          refine J_iln F 2 dX8_held_107 rfl rfl ?_
          refine J_cne F (tgt := 115) dX8_held_108 (by decide) (fun c_21 => ?_) (fun c_21 => ?_)
          · have h := h.1 c_21
            refine J_ic F dX8_held_115 ki_0 ?_
            exact J_retiX F (by decide) (by decide) ⟨_, rfl, h⟩ dX8_held_116
          · have h := h.2 c_21
            refine J_ic F dX8_held_111 ki_1 ?_
            refine J_goto F (tgt := 116) dX8_held_112 (by decide) ?_
            exact J_retiX F (by decide) (by decide) ⟨_, rfl, h⟩ dX8_held_116
theorem dX8_zone_0 : decode cX8_zone 0 = .ok (.iload_n 1, 1) := by decide +kernel
theorem dX8_zone_1 : decode cX8_zone 1 = .ok (.invokestatic 146, 3) := by decide +kernel
theorem dX8_zone_4 : decode cX8_zone 4 = .ok (.aload_n 0, 1) := by decide +kernel
theorem dX8_zone_5 : decode cX8_zone 5 = .ok (.iload_n 2, 1) := by decide +kernel
theorem dX8_zone_6 : decode cX8_zone 6 = .ok (.invokevirtual 184, 3) := by decide +kernel
theorem dX8_zone_9 : decode cX8_zone 9 = .ok (.aload_n 0, 1) := by decide +kernel
theorem dX8_zone_10 : decode cX8_zone 10 = .ok (.getfield 66, 3) := by decide +kernel
theorem dX8_zone_13 : decode cX8_zone 13 = .ok (.getfield 187, 3) := by decide +kernel
theorem dX8_zone_16 : decode cX8_zone 16 = .ok (.iload_n 2, 1) := by decide +kernel
theorem dX8_zone_17 : decode cX8_zone 17 = .ok (.aaload, 1) := by decide +kernel
theorem dX8_zone_18 : decode cX8_zone 18 = .ok (.iload_n 1, 1) := by decide +kernel
theorem dX8_zone_19 : decode cX8_zone 19 = .ok (.iload_n 3, 1) := by decide +kernel
theorem dX8_zone_20 : decode cX8_zone 20 = .ok (.invokevirtual 214, 3) := by decide +kernel
theorem dX8_zone_23 : decode cX8_zone 23 = .ok (.ireturn, 1) := by decide +kernel
set_option maxRecDepth 20000 in
set_option maxHeartbeats 4000000 in
theorem C_X8_zone (l : Launch) (hl : l.stackTraces = false) (G : Gp) (x1 : Int32) (x2 : Int32) (x3 : Int32)  {σ : St} {Q : Int32 → Prop} {QX : String → St → Prop} (h : wp_X8_zone σ x1 x2 x3 QX Q) : CnX l yX8_zone cX8_zone 4 (some .int) 7 121 2 12 G [.ref (gb G + 0), .int x1, .int x2, .int x3] σ (qI (fun r σ' => σ' = σ ∧ Q r)) QX := by
  refine CnX_of (L := [(0, .ref (gb G + 0)), (1, .int x1), (2, .int x2), (3, .int x3)]) RX8 (by decide) rfl (Nat.le_of_ble_eq_true rfl) rfl ?_
  intro p e s m below meth c F hT
  unfold wp_X8_zone at h
  refine J_iln F 1 dX8_zone_0 rfl rfl ?_
  refine J_xcallSv F (As := [.int x1]) (st := []) (C_X8_checkNode l hl G x1  h) lm_X8_146 li_X8_checkNode ini_X8 lc_X8_checkNode hd_X8_checkNode (by decide) (Nat.le_of_ble_eq_true rfl) (by decide) (by decide) hT (fun E σ' h => h) rfl dX8_zone_1 (fun σ_1 hh => ?_)
  clear h
  obtain ⟨e9, h⟩ := hh
  subst σ_1
  refine J_aln F 0 dX8_zone_4 rfl rfl ?_
  refine J_iln F 2 dX8_zone_5 rfl rfl ?_
  refine J_xcallVv F (As := [.int x2]) (st := []) (C_X8_checkReality l hl G x2  h) (ci := 8) ly_0 (by decide) rfl rfl lm_X8_184 li_X8_checkReality ls_X8_checkReality ini_X8 lc_X8_checkReality hd_X8_checkReality (by decide) (Nat.le_of_ble_eq_true rfl) (by decide) (by decide) hT (fun E σ' h => h) rfl dX8_zone_6 (fun σ_2 hh => ?_)
  clear h
  obtain ⟨e9, h⟩ := hh
  subst σ_2
  refine J_aln F 0 dX8_zone_9 rfl rfl ?_
  refine J_gfm F (ci := 8) 8 rfl inX8 ly_0 (by decide) (by decide) rfl lf_X8_66 rfl dX8_zone_10 ?_
  obtain ⟨h_3, h⟩ := h
  refine J_gfr F (ci := 1) 0 rfl inX1 h_3 (by decide) (by decide) rfl lf_X8_187 rfl dX8_zone_13 ?_
  refine J_iln F 2 dX8_zone_16 rfl rfl ?_
  obtain ⟨h_4, h⟩ := h
  refine J_aldS F (lay_net h_3).1 h_4 dX8_zone_17 ?_
  refine J_iln F 1 dX8_zone_18 rfl rfl ?_
  refine J_iln F 3 dX8_zone_19 rfl rfl ?_
  refine J_callVi F (As := [.int x1, .int x3]) (st := []) (C_X4_zoneOf l G ((σ 0 8).toNatClampNeg + 1 + 8 + 4 * Int32.toNatClampNeg x2) x1 x3 (lay_sp h_3 h_4) h) (ci := 4) (lay_sp h_3 h_4) (by decide) rfl rfl lm_X8_214 li_X4_zoneOf ls_X4_zoneOf ini_X4 lc_X4_zoneOf hd_X4_zoneOf (by decide) (Nat.le_of_ble_eq_true rfl) (by decide) rfl dX8_zone_20 (fun r_5 σ_6 hh => ?_)
  clear h
  obtain ⟨e9, h⟩ := hh
  subst σ_6
  exact J_retiX F (by decide) (by decide) ⟨_, rfl, rfl, h⟩ dX8_zone_23
theorem dX8_box_0 : decode cX8_box 0 = .ok (.iload_n 1, 1) := by decide +kernel
theorem dX8_box_1 : decode cX8_box 1 = .ok (.iconst 1, 1) := by decide +kernel
theorem dX8_box_2 : decode cX8_box 2 = .ok (.if_icmp .lt 10, 3) := by decide +kernel
theorem dX8_box_5 : decode cX8_box 5 = .ok (.iload_n 1, 1) := by decide +kernel
theorem dX8_box_6 : decode cX8_box 6 = .ok (.sipush 2048, 3) := by decide +kernel
theorem dX8_box_9 : decode cX8_box 9 = .ok (.if_icmp .lt 13, 3) := by decide +kernel
theorem dX8_box_12 : decode cX8_box 12 = .ok (.new 110, 3) := by decide +kernel
theorem dX8_box_15 : decode cX8_box 15 = .ok (.dup, 1) := by decide +kernel
theorem dX8_box_16 : decode cX8_box 16 = .ok (.ldc 217, 2) := by decide +kernel
theorem dX8_box_18 : decode cX8_box 18 = .ok (.invokespecial 114, 3) := by decide +kernel
theorem dX8_box_21 : decode cX8_box 21 = .ok (.athrow, 1) := by decide +kernel
theorem dX8_box_22 : decode cX8_box 22 = .ok (.iload_n 2, 1) := by decide +kernel
theorem dX8_box_23 : decode cX8_box 23 = .ok (.iconst 5, 1) := by decide +kernel
theorem dX8_box_24 : decode cX8_box 24 = .ok (.invokestatic 149, 3) := by decide +kernel
theorem dX8_box_27 : decode cX8_box 27 = .ok (.iload_n 1, 1) := by decide +kernel
theorem dX8_box_28 : decode cX8_box 28 = .ok (.invokestatic 219, 3) := by decide +kernel
theorem dX8_box_31 : decode cX8_box 31 = .ok (.istore_n 3, 1) := by decide +kernel
theorem dX8_box_32 : decode cX8_box 32 = .ok (.iload_n 2, 1) := by decide +kernel
theorem dX8_box_33 : decode cX8_box 33 = .ok (.tableswitch 50 0 3 #[31, 33, 39, 45], 31) := by decide +kernel
theorem dX8_box_64 : decode cX8_box 64 = .ok (.iload_n 3, 1) := by decide +kernel
theorem dX8_box_65 : decode cX8_box 65 = .ok (.ireturn, 1) := by decide +kernel
theorem dX8_box_66 : decode cX8_box 66 = .ok (.iload_n 1, 1) := by decide +kernel
theorem dX8_box_67 : decode cX8_box 67 = .ok (.iload_n 3, 1) := by decide +kernel
theorem dX8_box_68 : decode cX8_box 68 = .ok (.invokestatic 222, 3) := by decide +kernel
theorem dX8_box_71 : decode cX8_box 71 = .ok (.ireturn, 1) := by decide +kernel
theorem dX8_box_72 : decode cX8_box 72 = .ok (.iload_n 1, 1) := by decide +kernel
theorem dX8_box_73 : decode cX8_box 73 = .ok (.iload_n 3, 1) := by decide +kernel
theorem dX8_box_74 : decode cX8_box 74 = .ok (.invokestatic 225, 3) := by decide +kernel
theorem dX8_box_77 : decode cX8_box 77 = .ok (.ireturn, 1) := by decide +kernel
theorem dX8_box_78 : decode cX8_box 78 = .ok (.iload_n 3, 1) := by decide +kernel
theorem dX8_box_79 : decode cX8_box 79 = .ok (.invokestatic 228, 3) := by decide +kernel
theorem dX8_box_82 : decode cX8_box 82 = .ok (.ireturn, 1) := by decide +kernel
theorem dX8_box_83 : decode cX8_box 83 = .ok (.iload_n 3, 1) := by decide +kernel
theorem dX8_box_84 : decode cX8_box 84 = .ok (.invokestatic 231, 3) := by decide +kernel
theorem dX8_box_87 : decode cX8_box 87 = .ok (.ireturn, 1) := by decide +kernel
set_option maxRecDepth 20000 in
set_option maxHeartbeats 4000000 in
theorem C_X8_box (l : Launch) (hl : l.stackTraces = false) (G : Gp) (x1 : Int32) (x2 : Int32)  {σ : St} {Q : Int32 → Prop} {QX : String → St → Prop} (h : wp_X8_box σ x1 x2 QX Q) : CnX l yX8_box cX8_box 4 (some .int) 7 121 2 12 G [.ref (gb G + 0), .int x1, .int x2] σ (qI (fun r σ' => σ' = σ ∧ Q r)) QX := by
  refine CnX_of (L := [(0, .ref (gb G + 0)), (1, .int x1), (2, .int x2)]) RX8 (by decide) rfl (Nat.le_of_ble_eq_true rfl) rfl ?_
  intro p e s m below meth c F hT
  unfold wp_X8_box at h
  refine J_iln F 1 dX8_box_0 rfl rfl ?_
  refine J_ic F dX8_box_1 ki_1 ?_
  refine J_clt F (tgt := 12) dX8_box_2 (by decide) (fun c_1 => ?_) (fun c_1 => ?_)
  · have h := h.1 c_1
    exact J_throw hl F hT th_X8_110_217 (by decide) (Nat.le_of_ble_eq_true rfl) (by decide) (by decide) h dX8_box_12 dX8_box_15 dX8_box_16 dX8_box_18 dX8_box_21
  · have h := h.2 c_1
    refine J_iln F 1 dX8_box_5 rfl rfl ?_
    refine J_si F dX8_box_6 ks_2048 ?_
    refine J_clt F (tgt := 22) dX8_box_9 (by decide) (fun c_2 => ?_) (fun c_2 => ?_)
    · have h := h.1 c_2
      refine J_iln F 2 dX8_box_22 rfl rfl ?_
      refine J_ic F dX8_box_23 ki_5 ?_
      refine J_xcallSv F (As := [.int x2, .int (nI 5)]) (st := []) (C_X8_checkWhat l hl G x2 (nI 5)  h) lm_X8_149 li_X8_checkWhat ini_X8 lc_X8_checkWhat hd_X8_checkWhat (by decide) (Nat.le_of_ble_eq_true rfl) (by decide) (by decide) hT (fun E σ' h => h) rfl dX8_box_24 (fun σ_3 hh => ?_)
      clear h
      obtain ⟨e9, h⟩ := hh
      subst σ_3
      refine J_iln F 1 dX8_box_27 rfl rfl ?_
      refine J_callSi F (As := [.int x1]) (st := []) (C_X4_depthOf l G x1  h) lm_X8_219 li_X4_depthOf ini_X4 lc_X4_depthOf hd_X4_depthOf (by decide) (Nat.le_of_ble_eq_true rfl) (by decide) rfl dX8_box_28 (fun r_4 σ_5 hh => ?_)
      clear h
      obtain ⟨e9, h⟩ := hh
      subst σ_5
      refine J_isn F (L' := [(3, .int r_4), (0, .ref (gb G + 0)), (1, .int x1), (2, .int x2)]) dX8_box_31 rfl (by decide) rfl ?_
      refine J_iln F 3 dX8_box_32 rfl rfl ?_
      refine J_case (v := nI 0) (fun c_7 => ?_) (fun c_7 => ?_)
      · have h := h.1 c_7
        refine J_tabIn F (off := 31) (tgt := 64) dX8_box_33 (by decide) (by decide) (by decide) (by decide) ?_
        refine J_iln F 0 dX8_box_64 rfl rfl ?_
        exact J_retiX F (by decide) (by decide) ⟨_, rfl, rfl, h⟩ dX8_box_65
      · have h := h.2 c_7
        refine J_case (v := nI 1) (fun c_8 => ?_) (fun c_8 => ?_)
        · have h := h.1 c_8
          refine J_tabIn F (off := 33) (tgt := 66) dX8_box_33 (by decide) (by decide) (by decide) (by decide) ?_
          refine J_iln F 2 dX8_box_66 rfl rfl ?_
          refine J_iln F 0 dX8_box_67 rfl rfl ?_
          refine J_callSi F (As := [.int x1, .int r_4]) (st := []) (C_X4_leastX l G x1 r_4  h) lm_X8_222 li_X4_leastX ini_X4 lc_X4_leastX hd_X4_leastX (by decide) (Nat.le_of_ble_eq_true rfl) (by decide) rfl dX8_box_68 (fun r_9 σ_10 hh => ?_)
          clear h
          obtain ⟨e9, h⟩ := hh
          subst σ_10
          exact J_retiX F (by decide) (by decide) ⟨_, rfl, rfl, h⟩ dX8_box_71
        · have h := h.2 c_8
          refine J_case (v := nI 2) (fun c_11 => ?_) (fun c_11 => ?_)
          · have h := h.1 c_11
            refine J_tabIn F (off := 39) (tgt := 72) dX8_box_33 (by decide) (by decide) (by decide) (by decide) ?_
            refine J_iln F 2 dX8_box_72 rfl rfl ?_
            refine J_iln F 0 dX8_box_73 rfl rfl ?_
            refine J_callSi F (As := [.int x1, .int r_4]) (st := []) (C_X4_leastY l G x1 r_4  h) lm_X8_225 li_X4_leastY ini_X4 lc_X4_leastY hd_X4_leastY (by decide) (Nat.le_of_ble_eq_true rfl) (by decide) rfl dX8_box_74 (fun r_12 σ_13 hh => ?_)
            clear h
            obtain ⟨e9, h⟩ := hh
            subst σ_13
            exact J_retiX F (by decide) (by decide) ⟨_, rfl, rfl, h⟩ dX8_box_77
          · have h := h.2 c_11
            refine J_case (v := nI 3) (fun c_14 => ?_) (fun c_14 => ?_)
            · have h := h.1 c_14
              refine J_tabIn F (off := 45) (tgt := 78) dX8_box_33 (by decide) (by decide) (by decide) (by decide) ?_
              refine J_iln F 0 dX8_box_78 rfl rfl ?_
              refine J_callSi F (As := [.int r_4]) (st := []) (C_X4_wide l G r_4  h) lm_X8_228 li_X4_wide ini_X4 lc_X4_wide hd_X4_wide (by decide) (Nat.le_of_ble_eq_true rfl) (by decide) rfl dX8_box_79 (fun r_15 σ_16 hh => ?_)
              clear h
              obtain ⟨e9, h⟩ := hh
              subst σ_16
              exact J_retiX F (by decide) (by decide) ⟨_, rfl, rfl, h⟩ dX8_box_82
            · have h := h.2 c_14
              refine J_tabOut F (tgt := 83) dX8_box_33 (tab_out 0 3 (fun k h1 h2 => by rcases (show k = 0 ∨ k = 1 ∨ k = 2 ∨ k = 3 by omega) with rfl | rfl | rfl | rfl <;> assumption)) (by decide) ?_
              refine J_iln F 0 dX8_box_83 rfl rfl ?_
              refine J_callSi F (As := [.int r_4]) (st := []) (C_X4_high l G r_4  h) lm_X8_231 li_X4_high ini_X4 lc_X4_high hd_X4_high (by decide) (Nat.le_of_ble_eq_true rfl) (by decide) rfl dX8_box_84 (fun r_17 σ_18 hh => ?_)
              clear h
              obtain ⟨e9, h⟩ := hh
              subst σ_18
              exact J_retiX F (by decide) (by decide) ⟨_, rfl, rfl, h⟩ dX8_box_87
    · have h := h.2 c_2
      exact J_throw hl F hT th_X8_110_217 (by decide) (Nat.le_of_ble_eq_true rfl) (by decide) (by decide) h dX8_box_12 dX8_box_15 dX8_box_16 dX8_box_18 dX8_box_21
theorem dX8_checkCell_0 : decode cX8_checkCell 0 = .ok (.iload_n 0, 1) := by decide +kernel
theorem dX8_checkCell_1 : decode cX8_checkCell 1 = .ok (.iload_n 1, 1) := by decide +kernel
theorem dX8_checkCell_2 : decode cX8_checkCell 2 = .ok (.invokestatic 132, 3) := by decide +kernel
theorem dX8_checkCell_5 : decode cX8_checkCell 5 = .ok (.ifCond .ne 14, 3) := by decide +kernel
theorem dX8_checkCell_8 : decode cX8_checkCell 8 = .ok (.new 110, 3) := by decide +kernel
theorem dX8_checkCell_11 : decode cX8_checkCell 11 = .ok (.dup, 1) := by decide +kernel
theorem dX8_checkCell_12 : decode cX8_checkCell 12 = .ok (.ldc_w 364, 3) := by decide +kernel
theorem dX8_checkCell_15 : decode cX8_checkCell 15 = .ok (.invokespecial 114, 3) := by decide +kernel
theorem dX8_checkCell_18 : decode cX8_checkCell 18 = .ok (.athrow, 1) := by decide +kernel
theorem dX8_checkCell_19 : decode cX8_checkCell 19 = .ok (.return_, 1) := by decide +kernel
set_option maxRecDepth 20000 in
set_option maxHeartbeats 4000000 in
theorem C_X8_checkCell (l : Launch) (hl : l.stackTraces = false) (G : Gp) (x0 : Int32) (x1 : Int32)  {σ : St} {Q : Prop} {QX : String → St → Prop} (h : wp_X8_checkCell σ x0 x1 QX Q) : CnX l yX8_checkCell cX8_checkCell 2 none 6 100 1 6 G [.int x0, .int x1] σ (qV (fun σ' => σ' = σ ∧ Q)) QX := by
  refine CnX_of (L := [(0, .int x0), (1, .int x1)]) RX8 (by decide) rfl (Nat.le_of_ble_eq_true rfl) rfl ?_
  intro p e s m below meth c F hT
  unfold wp_X8_checkCell at h
  refine J_iln F 0 dX8_checkCell_0 rfl rfl ?_
  refine J_iln F 1 dX8_checkCell_1 rfl rfl ?_
  refine J_callSi F (As := [.int x0, .int x1]) (st := []) (C_X8_isCell l G x0 x1  h) lm_X8_132 li_X8_isCell ini_X8 lc_X8_isCell hd_X8_isCell (by decide) (Nat.le_of_ble_eq_true rfl) (by decide) rfl dX8_checkCell_2 (fun r_1 σ_2 hh => ?_)
  clear h
  obtain ⟨e9, h⟩ := hh
  subst σ_2
  refine J_zne F (tgt := 19) dX8_checkCell_5 (by decide) (fun c_3 => ?_) (fun c_3 => ?_)
  · have h := h.1 c_3
    exact J_retvX F (by decide) (by decide) ⟨rfl, rfl, h⟩ dX8_checkCell_19
  · have h := h.2 c_3
    exact J_throwW hl F hT th_X8_110_364 (by decide) (Nat.le_of_ble_eq_true rfl) (by decide) (by decide) h dX8_checkCell_8 dX8_checkCell_11 dX8_checkCell_12 dX8_checkCell_15 dX8_checkCell_18
theorem dX8_cell_0 : decode cX8_cell 0 = .ok (.aload_n 0, 1) := by decide +kernel
theorem dX8_cell_1 : decode cX8_cell 1 = .ok (.iload_n 1, 1) := by decide +kernel
theorem dX8_cell_2 : decode cX8_cell 2 = .ok (.invokevirtual 184, 3) := by decide +kernel
theorem dX8_cell_5 : decode cX8_cell 5 = .ok (.iload_n 2, 1) := by decide +kernel
theorem dX8_cell_6 : decode cX8_cell 6 = .ok (.iload_n 3, 1) := by decide +kernel
theorem dX8_cell_7 : decode cX8_cell 7 = .ok (.invokestatic 234, 3) := by decide +kernel
theorem dX8_cell_10 : decode cX8_cell 10 = .ok (.iload 4, 2) := by decide +kernel
theorem dX8_cell_12 : decode cX8_cell 12 = .ok (.iconst 2, 1) := by decide +kernel
theorem dX8_cell_13 : decode cX8_cell 13 = .ok (.invokestatic 149, 3) := by decide +kernel
theorem dX8_cell_16 : decode cX8_cell 16 = .ok (.aload_n 0, 1) := by decide +kernel
theorem dX8_cell_17 : decode cX8_cell 17 = .ok (.getfield 66, 3) := by decide +kernel
theorem dX8_cell_20 : decode cX8_cell 20 = .ok (.getfield 187, 3) := by decide +kernel
theorem dX8_cell_23 : decode cX8_cell 23 = .ok (.iload_n 1, 1) := by decide +kernel
theorem dX8_cell_24 : decode cX8_cell 24 = .ok (.aaload, 1) := by decide +kernel
theorem dX8_cell_25 : decode cX8_cell 25 = .ok (.astore 5, 2) := by decide +kernel
theorem dX8_cell_27 : decode cX8_cell 27 = .ok (.iload 4, 2) := by decide +kernel
theorem dX8_cell_29 : decode cX8_cell 29 = .ok (.iconst 1, 1) := by decide +kernel
theorem dX8_cell_30 : decode cX8_cell 30 = .ok (.if_icmp .ne 11, 3) := by decide +kernel
theorem dX8_cell_33 : decode cX8_cell 33 = .ok (.aload 5, 2) := by decide +kernel
theorem dX8_cell_35 : decode cX8_cell 35 = .ok (.iload_n 2, 1) := by decide +kernel
theorem dX8_cell_36 : decode cX8_cell 36 = .ok (.iload_n 3, 1) := by decide +kernel
theorem dX8_cell_37 : decode cX8_cell 37 = .ok (.invokevirtual 237, 3) := by decide +kernel
theorem dX8_cell_40 : decode cX8_cell 40 = .ok (.ireturn, 1) := by decide +kernel
theorem dX8_cell_41 : decode cX8_cell 41 = .ok (.aload 5, 2) := by decide +kernel
theorem dX8_cell_43 : decode cX8_cell 43 = .ok (.iload_n 2, 1) := by decide +kernel
theorem dX8_cell_44 : decode cX8_cell 44 = .ok (.iload_n 3, 1) := by decide +kernel
theorem dX8_cell_45 : decode cX8_cell 45 = .ok (.invokevirtual 240, 3) := by decide +kernel
theorem dX8_cell_48 : decode cX8_cell 48 = .ok (.istore 6, 2) := by decide +kernel
theorem dX8_cell_50 : decode cX8_cell 50 = .ok (.iload 6, 2) := by decide +kernel
theorem dX8_cell_52 : decode cX8_cell 52 = .ok (.ifCond .ne 7, 3) := by decide +kernel
theorem dX8_cell_55 : decode cX8_cell 55 = .ok (.iconst (-1), 1) := by decide +kernel
theorem dX8_cell_56 : decode cX8_cell 56 = .ok (.goto 5, 3) := by decide +kernel
theorem dX8_cell_59 : decode cX8_cell 59 = .ok (.iload 6, 2) := by decide +kernel
theorem dX8_cell_61 : decode cX8_cell 61 = .ok (.ireturn, 1) := by decide +kernel
set_option maxRecDepth 20000 in
set_option maxHeartbeats 4000000 in
theorem C_X8_cell (l : Launch) (hl : l.stackTraces = false) (G : Gp) (x1 : Int32) (x2 : Int32) (x3 : Int32) (x4 : Int32)  {σ : St} {Q : Int32 → Prop} {QX : String → St → Prop} (h : wp_X8_cell σ x1 x2 x3 x4 QX Q) : CnX l yX8_cell cX8_cell 7 (some .int) 7 121 3 18 G [.ref (gb G + 0), .int x1, .int x2, .int x3, .int x4] σ (qI (fun r σ' => σ' = σ ∧ Q r)) QX := by
  refine CnX_of (L := [(0, .ref (gb G + 0)), (1, .int x1), (2, .int x2), (3, .int x3), (4, .int x4)]) RX8 (by decide) rfl (Nat.le_of_ble_eq_true rfl) rfl ?_
  intro p e s m below meth c F hT
  unfold wp_X8_cell at h
  refine J_aln F 0 dX8_cell_0 rfl rfl ?_
  refine J_iln F 1 dX8_cell_1 rfl rfl ?_
  refine J_xcallVv F (As := [.int x1]) (st := []) (C_X8_checkReality l hl G x1  h) (ci := 8) ly_0 (by decide) rfl rfl lm_X8_184 li_X8_checkReality ls_X8_checkReality ini_X8 lc_X8_checkReality hd_X8_checkReality (by decide) (Nat.le_of_ble_eq_true rfl) (by decide) (by decide) hT (fun E σ' h => h) rfl dX8_cell_2 (fun σ_1 hh => ?_)
  clear h
  obtain ⟨e9, h⟩ := hh
  subst σ_1
  refine J_iln F 2 dX8_cell_5 rfl rfl ?_
  refine J_iln F 3 dX8_cell_6 rfl rfl ?_
  refine J_xcallSv F (As := [.int x2, .int x3]) (st := []) (C_X8_checkCell l hl G x2 x3  h) lm_X8_234 li_X8_checkCell ini_X8 lc_X8_checkCell hd_X8_checkCell (by decide) (Nat.le_of_ble_eq_true rfl) (by decide) (by decide) hT (fun E σ' h => h) rfl dX8_cell_7 (fun σ_2 hh => ?_)
  clear h
  obtain ⟨e9, h⟩ := hh
  subst σ_2
  refine J_il F 4 dX8_cell_10 rfl ?_
  refine J_ic F dX8_cell_12 ki_2 ?_
  refine J_xcallSv F (As := [.int x4, .int (nI 2)]) (st := []) (C_X8_checkWhat l hl G x4 (nI 2)  h) lm_X8_149 li_X8_checkWhat ini_X8 lc_X8_checkWhat hd_X8_checkWhat (by decide) (Nat.le_of_ble_eq_true rfl) (by decide) (by decide) hT (fun E σ' h => h) rfl dX8_cell_13 (fun σ_3 hh => ?_)
  clear h
  obtain ⟨e9, h⟩ := hh
  subst σ_3
  refine J_aln F 0 dX8_cell_16 rfl rfl ?_
  refine J_gfm F (ci := 8) 8 rfl inX8 ly_0 (by decide) (by decide) rfl lf_X8_66 rfl dX8_cell_17 ?_
  obtain ⟨h_4, h⟩ := h
  refine J_gfr F (ci := 1) 0 rfl inX1 h_4 (by decide) (by decide) rfl lf_X8_187 rfl dX8_cell_20 ?_
  refine J_iln F 1 dX8_cell_23 rfl rfl ?_
  obtain ⟨h_5, h⟩ := h
  refine J_aldS F (lay_net h_4).1 h_5 dX8_cell_24 ?_
  refine J_as F (L' := [(5, .ref (gb G + ((σ 0 8).toNatClampNeg + 1 + 8 + 4 * Int32.toNatClampNeg x1))), (0, .ref (gb G + 0)), (1, .int x1), (2, .int x2), (3, .int x3), (4, .int x4)]) dX8_cell_25 (by decide) rfl ?_
  refine J_il F 5 dX8_cell_27 rfl ?_
  refine J_ic F dX8_cell_29 ki_1 ?_
  refine J_cne F (tgt := 41) dX8_cell_30 (by decide) (fun c_6 => ?_) (fun c_6 => ?_)
  · have h := h.1 c_6
    refine J_al F 0 dX8_cell_41 rfl ?_
    refine J_iln F 3 dX8_cell_43 rfl rfl ?_
    refine J_iln F 4 dX8_cell_44 rfl rfl ?_
    refine J_callVi F (As := [.int x2, .int x3]) (st := []) (C_X4_zoneAt l G ((σ 0 8).toNatClampNeg + 1 + 8 + 4 * Int32.toNatClampNeg x1) x2 x3 (lay_sp h_4 h_5) h) (ci := 4) (lay_sp h_4 h_5) (by decide) rfl rfl lm_X8_240 li_X4_zoneAt ls_X4_zoneAt ini_X4 lc_X4_zoneAt hd_X4_zoneAt (by decide) (Nat.le_of_ble_eq_true rfl) (by decide) rfl dX8_cell_45 (fun r_7 σ_8 hh => ?_)
    clear h
    obtain ⟨e9, h⟩ := hh
    subst σ_8
    refine J_is F (L' := [(6, .int r_7), (5, .ref (gb G + ((σ 0 8).toNatClampNeg + 1 + 8 + 4 * Int32.toNatClampNeg x1))), (0, .ref (gb G + 0)), (1, .int x1), (2, .int x2), (3, .int x3), (4, .int x4)]) dX8_cell_48 (by decide) rfl ?_
    refine J_il F 0 dX8_cell_50 rfl ?_
    refine J_zne F (tgt := 59) dX8_cell_52 (by decide) (fun c_9 => ?_) (fun c_9 => ?_)
    · have h := h.1 c_9
      refine J_il F 0 dX8_cell_59 rfl ?_
      exact J_retiX F (by decide) (by decide) ⟨_, rfl, rfl, h⟩ dX8_cell_61
    · have h := h.2 c_9
      refine J_ic F dX8_cell_55 ki_m1 ?_
      refine J_goto F (tgt := 61) dX8_cell_56 (by decide) ?_
      exact J_retiX F (by decide) (by decide) ⟨_, rfl, rfl, h⟩ dX8_cell_61
  · have h := h.2 c_6
    refine J_al F 0 dX8_cell_33 rfl ?_
    refine J_iln F 3 dX8_cell_35 rfl rfl ?_
    refine J_iln F 4 dX8_cell_36 rfl rfl ?_
    refine J_callVi F (As := [.int x2, .int x3]) (st := []) (C_X4_nodeAt l G ((σ 0 8).toNatClampNeg + 1 + 8 + 4 * Int32.toNatClampNeg x1) x2 x3 (lay_sp h_4 h_5) h) (ci := 4) (lay_sp h_4 h_5) (by decide) rfl rfl lm_X8_237 li_X4_nodeAt ls_X4_nodeAt ini_X4 lc_X4_nodeAt hd_X4_nodeAt (by decide) (Nat.le_of_ble_eq_true rfl) (by decide) rfl dX8_cell_37 (fun r_10 σ_11 hh => ?_)
    clear h
    obtain ⟨e9, h⟩ := hh
    subst σ_11
    exact J_retiX F (by decide) (by decide) ⟨_, rfl, rfl, h⟩ dX8_cell_40
theorem dX8_heir_0 : decode cX8_heir 0 = .ok (.iload_n 1, 1) := by decide +kernel
theorem dX8_heir_1 : decode cX8_heir 1 = .ok (.invokestatic 146, 3) := by decide +kernel
theorem dX8_heir_4 : decode cX8_heir 4 = .ok (.aload_n 0, 1) := by decide +kernel
theorem dX8_heir_5 : decode cX8_heir 5 = .ok (.iload_n 2, 1) := by decide +kernel
theorem dX8_heir_6 : decode cX8_heir 6 = .ok (.invokevirtual 184, 3) := by decide +kernel
theorem dX8_heir_9 : decode cX8_heir 9 = .ok (.aload_n 0, 1) := by decide +kernel
theorem dX8_heir_10 : decode cX8_heir 10 = .ok (.getfield 66, 3) := by decide +kernel
theorem dX8_heir_13 : decode cX8_heir 13 = .ok (.getfield 187, 3) := by decide +kernel
theorem dX8_heir_16 : decode cX8_heir 16 = .ok (.iload_n 2, 1) := by decide +kernel
theorem dX8_heir_17 : decode cX8_heir 17 = .ok (.aaload, 1) := by decide +kernel
theorem dX8_heir_18 : decode cX8_heir 18 = .ok (.astore 4, 2) := by decide +kernel
theorem dX8_heir_20 : decode cX8_heir 20 = .ok (.aload 4, 2) := by decide +kernel
theorem dX8_heir_22 : decode cX8_heir 22 = .ok (.iload_n 1, 1) := by decide +kernel
theorem dX8_heir_23 : decode cX8_heir 23 = .ok (.iload_n 3, 1) := by decide +kernel
theorem dX8_heir_24 : decode cX8_heir 24 = .ok (.invokevirtual 214, 3) := by decide +kernel
theorem dX8_heir_27 : decode cX8_heir 27 = .ok (.istore 5, 2) := by decide +kernel
theorem dX8_heir_29 : decode cX8_heir 29 = .ok (.iload 5, 2) := by decide +kernel
theorem dX8_heir_31 : decode cX8_heir 31 = .ok (.iconst (-1), 1) := by decide +kernel
theorem dX8_heir_32 : decode cX8_heir 32 = .ok (.if_icmp .ne 7, 3) := by decide +kernel
theorem dX8_heir_35 : decode cX8_heir 35 = .ok (.iconst (-1), 1) := by decide +kernel
theorem dX8_heir_36 : decode cX8_heir 36 = .ok (.goto 24, 3) := by decide +kernel
theorem dX8_heir_39 : decode cX8_heir 39 = .ok (.aload 4, 2) := by decide +kernel
theorem dX8_heir_41 : decode cX8_heir 41 = .ok (.iload 5, 2) := by decide +kernel
theorem dX8_heir_43 : decode cX8_heir 43 = .ok (.aload_n 0, 1) := by decide +kernel
theorem dX8_heir_44 : decode cX8_heir 44 = .ok (.getfield 66, 3) := by decide +kernel
theorem dX8_heir_47 : decode cX8_heir 47 = .ok (.iconst 1, 1) := by decide +kernel
theorem dX8_heir_48 : decode cX8_heir 48 = .ok (.invokevirtual 243, 3) := by decide +kernel
theorem dX8_heir_51 : decode cX8_heir 51 = .ok (.iconst 1, 1) := by decide +kernel
theorem dX8_heir_52 : decode cX8_heir 52 = .ok (.iload_n 1, 1) := by decide +kernel
theorem dX8_heir_53 : decode cX8_heir 53 = .ok (.ishl, 1) := by decide +kernel
theorem dX8_heir_54 : decode cX8_heir 54 = .ok (.iconst (-1), 1) := by decide +kernel
theorem dX8_heir_55 : decode cX8_heir 55 = .ok (.ixor, 1) := by decide +kernel
theorem dX8_heir_56 : decode cX8_heir 56 = .ok (.iand, 1) := by decide +kernel
theorem dX8_heir_57 : decode cX8_heir 57 = .ok (.invokevirtual 246, 3) := by decide +kernel
theorem dX8_heir_60 : decode cX8_heir 60 = .ok (.ireturn, 1) := by decide +kernel
set_option maxRecDepth 20000 in
set_option maxHeartbeats 4000000 in
theorem C_X8_heir (l : Launch) (hl : l.stackTraces = false) (G : Gp) (x1 : Int32) (x2 : Int32) (x3 : Int32)  {σ : St} {Q : Int32 → Prop} {QX : String → St → Prop} (h : wp_X8_heir σ x1 x2 x3 QX Q) : CnX l yX8_heir cX8_heir 6 (some .int) 7 121 2 12 G [.ref (gb G + 0), .int x1, .int x2, .int x3] σ (qI (fun r σ' => σ' = σ ∧ Q r)) QX := by
  refine CnX_of (L := [(0, .ref (gb G + 0)), (1, .int x1), (2, .int x2), (3, .int x3)]) RX8 (by decide) rfl (Nat.le_of_ble_eq_true rfl) rfl ?_
  intro p e s m below meth c F hT
  unfold wp_X8_heir at h
  refine J_iln F 1 dX8_heir_0 rfl rfl ?_
  refine J_xcallSv F (As := [.int x1]) (st := []) (C_X8_checkNode l hl G x1  h) lm_X8_146 li_X8_checkNode ini_X8 lc_X8_checkNode hd_X8_checkNode (by decide) (Nat.le_of_ble_eq_true rfl) (by decide) (by decide) hT (fun E σ' h => h) rfl dX8_heir_1 (fun σ_1 hh => ?_)
  clear h
  obtain ⟨e9, h⟩ := hh
  subst σ_1
  refine J_aln F 0 dX8_heir_4 rfl rfl ?_
  refine J_iln F 2 dX8_heir_5 rfl rfl ?_
  refine J_xcallVv F (As := [.int x2]) (st := []) (C_X8_checkReality l hl G x2  h) (ci := 8) ly_0 (by decide) rfl rfl lm_X8_184 li_X8_checkReality ls_X8_checkReality ini_X8 lc_X8_checkReality hd_X8_checkReality (by decide) (Nat.le_of_ble_eq_true rfl) (by decide) (by decide) hT (fun E σ' h => h) rfl dX8_heir_6 (fun σ_2 hh => ?_)
  clear h
  obtain ⟨e9, h⟩ := hh
  subst σ_2
  refine J_aln F 0 dX8_heir_9 rfl rfl ?_
  refine J_gfm F (ci := 8) 8 rfl inX8 ly_0 (by decide) (by decide) rfl lf_X8_66 rfl dX8_heir_10 ?_
  obtain ⟨h_3, h⟩ := h
  refine J_gfr F (ci := 1) 0 rfl inX1 h_3 (by decide) (by decide) rfl lf_X8_187 rfl dX8_heir_13 ?_
  refine J_iln F 2 dX8_heir_16 rfl rfl ?_
  obtain ⟨h_4, h⟩ := h
  refine J_aldS F (lay_net h_3).1 h_4 dX8_heir_17 ?_
  refine J_as F (L' := [(4, .ref (gb G + ((σ 0 8).toNatClampNeg + 1 + 8 + 4 * Int32.toNatClampNeg x2))), (0, .ref (gb G + 0)), (1, .int x1), (2, .int x2), (3, .int x3)]) dX8_heir_18 (by decide) rfl ?_
  refine J_al F 0 dX8_heir_20 rfl ?_
  refine J_iln F 2 dX8_heir_22 rfl rfl ?_
  refine J_iln F 4 dX8_heir_23 rfl rfl ?_
  refine J_callVi F (As := [.int x1, .int x3]) (st := []) (C_X4_zoneOf l G ((σ 0 8).toNatClampNeg + 1 + 8 + 4 * Int32.toNatClampNeg x2) x1 x3 (lay_sp h_3 h_4) h) (ci := 4) (lay_sp h_3 h_4) (by decide) rfl rfl lm_X8_214 li_X4_zoneOf ls_X4_zoneOf ini_X4 lc_X4_zoneOf hd_X4_zoneOf (by decide) (Nat.le_of_ble_eq_true rfl) (by decide) rfl dX8_heir_24 (fun r_5 σ_6 hh => ?_)
  clear h
  obtain ⟨e9, h⟩ := hh
  subst σ_6
  refine J_is F (L' := [(5, .int r_5), (4, .ref (gb G + ((σ 0 8).toNatClampNeg + 1 + 8 + 4 * Int32.toNatClampNeg x2))), (0, .ref (gb G + 0)), (1, .int x1), (2, .int x2), (3, .int x3)]) dX8_heir_27 (by decide) rfl ?_
  refine J_il F 0 dX8_heir_29 rfl ?_
  refine J_ic F dX8_heir_31 ki_m1 ?_
  refine J_cne F (tgt := 39) dX8_heir_32 (by decide) (fun c_7 => ?_) (fun c_7 => ?_)
  · have h := h.1 c_7
    refine J_al F 1 dX8_heir_39 rfl ?_
    refine J_il F 0 dX8_heir_41 rfl ?_
    refine J_aln F 2 dX8_heir_43 rfl rfl ?_
    refine J_gfm F (ci := 8) 8 rfl inX8 ly_0 (by decide) (by decide) rfl lf_X8_66 rfl dX8_heir_44 ?_
    obtain ⟨h_8, h⟩ := h
    refine J_ic F dX8_heir_47 ki_1 ?_
    refine J_callVi F (As := [.int (nI 1)]) (st := [.int r_5, .ref (gb G + ((σ 0 8).toNatClampNeg + 1 + 8 + 4 * Int32.toNatClampNeg x2))]) (C_X1_nodesThatAre l G ((σ 0 8).toNatClampNeg) (nI 1) h_8 h) (ci := 1) h_8 (by decide) rfl rfl lm_X8_243 li_X1_nodesThatAre ls_X1_nodesThatAre ini_X1 lc_X1_nodesThatAre hd_X1_nodesThatAre (by decide) (Nat.le_of_ble_eq_true rfl) (by decide) rfl dX8_heir_48 (fun r_9 σ_10 hh => ?_)
    clear h
    obtain ⟨e9, h⟩ := hh
    subst σ_10
    refine J_ic F dX8_heir_51 ki_1 ?_
    refine J_iln F 3 dX8_heir_52 rfl rfl ?_
    refine J_ishl F dX8_heir_53 ?_
    refine J_ic F dX8_heir_54 ki_m1 ?_
    refine J_ixor F dX8_heir_55 ?_
    refine J_iand F dX8_heir_56 ?_
    refine J_callVi F (As := [.int r_5, .int (r_9 &&& (((nI 1) <<< (x1 &&& 31)) ^^^ (-1)))]) (st := []) (C_X4_heirOf l G ((σ 0 8).toNatClampNeg + 1 + 8 + 4 * Int32.toNatClampNeg x2) r_5 (r_9 &&& (((nI 1) <<< (x1 &&& 31)) ^^^ (-1))) (lay_sp h_3 h_4) h) (ci := 4) (lay_sp h_3 h_4) (by decide) rfl rfl lm_X8_246 li_X4_heirOf ls_X4_heirOf ini_X4 lc_X4_heirOf hd_X4_heirOf (by decide) (Nat.le_of_ble_eq_true rfl) (by decide) rfl dX8_heir_57 (fun r_11 σ_12 hh => ?_)
    clear h
    obtain ⟨e9, h⟩ := hh
    subst σ_12
    exact J_retiX F (by decide) (by decide) ⟨_, rfl, rfl, h⟩ dX8_heir_60
  · have h := h.2 c_7
    refine J_ic F dX8_heir_35 ki_m1 ?_
    refine J_goto F (tgt := 60) dX8_heir_36 (by decide) ?_
    exact J_retiX F (by decide) (by decide) ⟨_, rfl, rfl, h⟩ dX8_heir_60
theorem dX8_key_0 : decode cX8_key 0 = .ok (.iload_n 1, 1) := by decide +kernel
theorem dX8_key_1 : decode cX8_key 1 = .ok (.invokestatic 153, 3) := by decide +kernel
theorem dX8_key_4 : decode cX8_key 4 = .ok (.iload_n 2, 1) := by decide +kernel
theorem dX8_key_5 : decode cX8_key 5 = .ok (.iconst 2, 1) := by decide +kernel
theorem dX8_key_6 : decode cX8_key 6 = .ok (.invokestatic 149, 3) := by decide +kernel
theorem dX8_key_9 : decode cX8_key 9 = .ok (.iload_n 2, 1) := by decide +kernel
theorem dX8_key_10 : decode cX8_key 10 = .ok (.ifCond .ne 15, 3) := by decide +kernel
theorem dX8_key_13 : decode cX8_key 13 = .ok (.aload_n 0, 1) := by decide +kernel
theorem dX8_key_14 : decode cX8_key 14 = .ok (.getfield 66, 3) := by decide +kernel
theorem dX8_key_17 : decode cX8_key 17 = .ok (.getfield 249, 3) := by decide +kernel
theorem dX8_key_20 : decode cX8_key 20 = .ok (.iload_n 1, 1) := by decide +kernel
theorem dX8_key_21 : decode cX8_key 21 = .ok (.iaload, 1) := by decide +kernel
theorem dX8_key_22 : decode cX8_key 22 = .ok (.goto 12, 3) := by decide +kernel
theorem dX8_key_25 : decode cX8_key 25 = .ok (.aload_n 0, 1) := by decide +kernel
theorem dX8_key_26 : decode cX8_key 26 = .ok (.getfield 66, 3) := by decide +kernel
theorem dX8_key_29 : decode cX8_key 29 = .ok (.getfield 252, 3) := by decide +kernel
theorem dX8_key_32 : decode cX8_key 32 = .ok (.iload_n 1, 1) := by decide +kernel
theorem dX8_key_33 : decode cX8_key 33 = .ok (.iaload, 1) := by decide +kernel
theorem dX8_key_34 : decode cX8_key 34 = .ok (.ireturn, 1) := by decide +kernel
set_option maxRecDepth 20000 in
set_option maxHeartbeats 4000000 in
theorem C_X8_key (l : Launch) (hl : l.stackTraces = false) (G : Gp) (x1 : Int32) (x2 : Int32)  {σ : St} {Q : Int32 → Prop} {QX : String → St → Prop} (h : wp_X8_key σ x1 x2 QX Q) : CnX l yX8_key cX8_key 3 (some .int) 7 121 2 12 G [.ref (gb G + 0), .int x1, .int x2] σ (qI (fun r σ' => σ' = σ ∧ Q r)) QX := by
  refine CnX_of (L := [(0, .ref (gb G + 0)), (1, .int x1), (2, .int x2)]) RX8 (by decide) rfl (Nat.le_of_ble_eq_true rfl) rfl ?_
  intro p e s m below meth c F hT
  unfold wp_X8_key at h
  refine J_iln F 1 dX8_key_0 rfl rfl ?_
  refine J_xcallSv F (As := [.int x1]) (st := []) (C_X8_checkKey l hl G x1  h) lm_X8_153 li_X8_checkKey ini_X8 lc_X8_checkKey hd_X8_checkKey (by decide) (Nat.le_of_ble_eq_true rfl) (by decide) (by decide) hT (fun E σ' h => h) rfl dX8_key_1 (fun σ_1 hh => ?_)
  clear h
  obtain ⟨e9, h⟩ := hh
  subst σ_1
  refine J_iln F 2 dX8_key_4 rfl rfl ?_
  refine J_ic F dX8_key_5 ki_2 ?_
  refine J_xcallSv F (As := [.int x2, .int (nI 2)]) (st := []) (C_X8_checkWhat l hl G x2 (nI 2)  h) lm_X8_149 li_X8_checkWhat ini_X8 lc_X8_checkWhat hd_X8_checkWhat (by decide) (Nat.le_of_ble_eq_true rfl) (by decide) (by decide) hT (fun E σ' h => h) rfl dX8_key_6 (fun σ_2 hh => ?_)
  clear h
  obtain ⟨e9, h⟩ := hh
  subst σ_2
  refine J_iln F 2 dX8_key_9 rfl rfl ?_
  refine J_zne F (tgt := 25) dX8_key_10 (by decide) (fun c_3 => ?_) (fun c_3 => ?_)
  · have h := h.1 c_3
    refine J_aln F 0 dX8_key_25 rfl rfl ?_
    refine J_gfm F (ci := 8) 8 rfl inX8 ly_0 (by decide) (by decide) rfl lf_X8_66 rfl dX8_key_26 ?_
    obtain ⟨h_4, h⟩ := h
    refine J_gfr F (ci := 1) 7 rfl inX1 h_4 (by decide) (by decide) rfl lf_X8_252 rfl dX8_key_29 ?_
    refine J_iln F 1 dX8_key_32 rfl rfl ?_
    obtain ⟨h_5, h⟩ := h
    refine J_iald F (lay_net h_4).2.2.2.2.2.2.2.1 h_5 dX8_key_33 ?_
    exact J_retiX F (by decide) (by decide) ⟨_, rfl, rfl, h⟩ dX8_key_34
  · have h := h.2 c_3
    refine J_aln F 0 dX8_key_13 rfl rfl ?_
    refine J_gfm F (ci := 8) 8 rfl inX8 ly_0 (by decide) (by decide) rfl lf_X8_66 rfl dX8_key_14 ?_
    obtain ⟨h_6, h⟩ := h
    refine J_gfr F (ci := 1) 6 rfl inX1 h_6 (by decide) (by decide) rfl lf_X8_249 rfl dX8_key_17 ?_
    refine J_iln F 1 dX8_key_20 rfl rfl ?_
    obtain ⟨h_7, h⟩ := h
    refine J_iald F (lay_net h_6).2.2.2.2.2.2.1 h_7 dX8_key_21 ?_
    refine J_goto F (tgt := 34) dX8_key_22 (by decide) ?_
    exact J_retiX F (by decide) (by decide) ⟨_, rfl, rfl, h⟩ dX8_key_34
theorem dX8_point_0 : decode cX8_point 0 = .ok (.iload_n 1, 1) := by decide +kernel
theorem dX8_point_1 : decode cX8_point 1 = .ok (.invokestatic 153, 3) := by decide +kernel
theorem dX8_point_4 : decode cX8_point 4 = .ok (.aload_n 0, 1) := by decide +kernel
theorem dX8_point_5 : decode cX8_point 5 = .ok (.iload_n 2, 1) := by decide +kernel
theorem dX8_point_6 : decode cX8_point 6 = .ok (.invokevirtual 184, 3) := by decide +kernel
theorem dX8_point_9 : decode cX8_point 9 = .ok (.iload_n 3, 1) := by decide +kernel
theorem dX8_point_10 : decode cX8_point 10 = .ok (.iconst 3, 1) := by decide +kernel
theorem dX8_point_11 : decode cX8_point 11 = .ok (.invokestatic 149, 3) := by decide +kernel
theorem dX8_point_14 : decode cX8_point 14 = .ok (.iload_n 1, 1) := by decide +kernel
theorem dX8_point_15 : decode cX8_point 15 = .ok (.iload_n 2, 1) := by decide +kernel
theorem dX8_point_16 : decode cX8_point 16 = .ok (.invokestatic 255, 3) := by decide +kernel
theorem dX8_point_19 : decode cX8_point 19 = .ok (.istore 4, 2) := by decide +kernel
theorem dX8_point_21 : decode cX8_point 21 = .ok (.iload_n 1, 1) := by decide +kernel
theorem dX8_point_22 : decode cX8_point 22 = .ok (.iload_n 2, 1) := by decide +kernel
theorem dX8_point_23 : decode cX8_point 23 = .ok (.invokestatic 258, 3) := by decide +kernel
theorem dX8_point_26 : decode cX8_point 26 = .ok (.istore 5, 2) := by decide +kernel
theorem dX8_point_28 : decode cX8_point 28 = .ok (.iload_n 3, 1) := by decide +kernel
theorem dX8_point_29 : decode cX8_point 29 = .ok (.iconst 2, 1) := by decide +kernel
theorem dX8_point_30 : decode cX8_point 30 = .ok (.if_icmp .ne 20, 3) := by decide +kernel
theorem dX8_point_33 : decode cX8_point 33 = .ok (.aload_n 0, 1) := by decide +kernel
theorem dX8_point_34 : decode cX8_point 34 = .ok (.getfield 66, 3) := by decide +kernel
theorem dX8_point_37 : decode cX8_point 37 = .ok (.getfield 187, 3) := by decide +kernel
theorem dX8_point_40 : decode cX8_point 40 = .ok (.iload_n 2, 1) := by decide +kernel
theorem dX8_point_41 : decode cX8_point 41 = .ok (.aaload, 1) := by decide +kernel
theorem dX8_point_42 : decode cX8_point 42 = .ok (.iload 4, 2) := by decide +kernel
theorem dX8_point_44 : decode cX8_point 44 = .ok (.iload 5, 2) := by decide +kernel
theorem dX8_point_46 : decode cX8_point 46 = .ok (.invokevirtual 237, 3) := by decide +kernel
theorem dX8_point_49 : decode cX8_point 49 = .ok (.ireturn, 1) := by decide +kernel
theorem dX8_point_50 : decode cX8_point 50 = .ok (.iload_n 3, 1) := by decide +kernel
theorem dX8_point_51 : decode cX8_point 51 = .ok (.ifCond .ne 8, 3) := by decide +kernel
theorem dX8_point_54 : decode cX8_point 54 = .ok (.iload 4, 2) := by decide +kernel
theorem dX8_point_56 : decode cX8_point 56 = .ok (.goto 5, 3) := by decide +kernel
theorem dX8_point_59 : decode cX8_point 59 = .ok (.iload 5, 2) := by decide +kernel
theorem dX8_point_61 : decode cX8_point 61 = .ok (.ireturn, 1) := by decide +kernel
set_option maxRecDepth 20000 in
set_option maxHeartbeats 4000000 in
theorem C_X8_point (l : Launch) (hl : l.stackTraces = false) (G : Gp) (x1 : Int32) (x2 : Int32) (x3 : Int32)  {σ : St} {Q : Int32 → Prop} {QX : String → St → Prop} (h : wp_X8_point σ x1 x2 x3 QX Q) : CnX l yX8_point cX8_point 6 (some .int) 7 121 3 18 G [.ref (gb G + 0), .int x1, .int x2, .int x3] σ (qI (fun r σ' => σ' = σ ∧ Q r)) QX := by
  refine CnX_of (L := [(0, .ref (gb G + 0)), (1, .int x1), (2, .int x2), (3, .int x3)]) RX8 (by decide) rfl (Nat.le_of_ble_eq_true rfl) rfl ?_
  intro p e s m below meth c F hT
  unfold wp_X8_point at h
  refine J_iln F 1 dX8_point_0 rfl rfl ?_
  refine J_xcallSv F (As := [.int x1]) (st := []) (C_X8_checkKey l hl G x1  h) lm_X8_153 li_X8_checkKey ini_X8 lc_X8_checkKey hd_X8_checkKey (by decide) (Nat.le_of_ble_eq_true rfl) (by decide) (by decide) hT (fun E σ' h => h) rfl dX8_point_1 (fun σ_1 hh => ?_)
  clear h
  obtain ⟨e9, h⟩ := hh
  subst σ_1
  refine J_aln F 0 dX8_point_4 rfl rfl ?_
  refine J_iln F 2 dX8_point_5 rfl rfl ?_
  refine J_xcallVv F (As := [.int x2]) (st := []) (C_X8_checkReality l hl G x2  h) (ci := 8) ly_0 (by decide) rfl rfl lm_X8_184 li_X8_checkReality ls_X8_checkReality ini_X8 lc_X8_checkReality hd_X8_checkReality (by decide) (Nat.le_of_ble_eq_true rfl) (by decide) (by decide) hT (fun E σ' h => h) rfl dX8_point_6 (fun σ_2 hh => ?_)
  clear h
  obtain ⟨e9, h⟩ := hh
  subst σ_2
  refine J_iln F 3 dX8_point_9 rfl rfl ?_
  refine J_ic F dX8_point_10 ki_3 ?_
  refine J_xcallSv F (As := [.int x3, .int (nI 3)]) (st := []) (C_X8_checkWhat l hl G x3 (nI 3)  h) lm_X8_149 li_X8_checkWhat ini_X8 lc_X8_checkWhat hd_X8_checkWhat (by decide) (Nat.le_of_ble_eq_true rfl) (by decide) (by decide) hT (fun E σ' h => h) rfl dX8_point_11 (fun σ_3 hh => ?_)
  clear h
  obtain ⟨e9, h⟩ := hh
  subst σ_3
  refine J_iln F 1 dX8_point_14 rfl rfl ?_
  refine J_iln F 2 dX8_point_15 rfl rfl ?_
  refine J_callSi F (As := [.int x1, .int x2]) (st := []) (C_X1_pointX l G x1 x2  h) lm_X8_255 li_X1_pointX ini_X1 lc_X1_pointX hd_X1_pointX (by decide) (Nat.le_of_ble_eq_true rfl) (by decide) rfl dX8_point_16 (fun r_4 σ_5 hh => ?_)
  clear h
  obtain ⟨e9, h⟩ := hh
  subst σ_5
  refine J_is F (L' := [(4, .int r_4), (0, .ref (gb G + 0)), (1, .int x1), (2, .int x2), (3, .int x3)]) dX8_point_19 (by decide) rfl ?_
  refine J_iln F 2 dX8_point_21 rfl rfl ?_
  refine J_iln F 3 dX8_point_22 rfl rfl ?_
  refine J_callSi F (As := [.int x1, .int x2]) (st := []) (C_X1_pointY l G x1 x2  h) lm_X8_258 li_X1_pointY ini_X1 lc_X1_pointY hd_X1_pointY (by decide) (Nat.le_of_ble_eq_true rfl) (by decide) rfl dX8_point_23 (fun r_6 σ_7 hh => ?_)
  clear h
  obtain ⟨e9, h⟩ := hh
  subst σ_7
  refine J_is F (L' := [(5, .int r_6), (4, .int r_4), (0, .ref (gb G + 0)), (1, .int x1), (2, .int x2), (3, .int x3)]) dX8_point_26 (by decide) rfl ?_
  refine J_iln F 5 dX8_point_28 rfl rfl ?_
  refine J_ic F dX8_point_29 ki_2 ?_
  refine J_cne F (tgt := 50) dX8_point_30 (by decide) (fun c_8 => ?_) (fun c_8 => ?_)
  · have h := h.1 c_8
    refine J_iln F 5 dX8_point_50 rfl rfl ?_
    refine J_zne F (tgt := 59) dX8_point_51 (by decide) (fun c_9 => ?_) (fun c_9 => ?_)
    · have h := h.1 c_9
      refine J_il F 0 dX8_point_59 rfl ?_
      exact J_retiX F (by decide) (by decide) ⟨_, rfl, rfl, h⟩ dX8_point_61
    · have h := h.2 c_9
      refine J_il F 1 dX8_point_54 rfl ?_
      refine J_goto F (tgt := 61) dX8_point_56 (by decide) ?_
      exact J_retiX F (by decide) (by decide) ⟨_, rfl, rfl, h⟩ dX8_point_61
  · have h := h.2 c_8
    refine J_aln F 2 dX8_point_33 rfl rfl ?_
    refine J_gfm F (ci := 8) 8 rfl inX8 ly_0 (by decide) (by decide) rfl lf_X8_66 rfl dX8_point_34 ?_
    obtain ⟨h_10, h⟩ := h
    refine J_gfr F (ci := 1) 0 rfl inX1 h_10 (by decide) (by decide) rfl lf_X8_187 rfl dX8_point_37 ?_
    refine J_iln F 4 dX8_point_40 rfl rfl ?_
    obtain ⟨h_11, h⟩ := h
    refine J_aldS F (lay_net h_10).1 h_11 dX8_point_41 ?_
    refine J_il F 1 dX8_point_42 rfl ?_
    refine J_il F 0 dX8_point_44 rfl ?_
    refine J_callVi F (As := [.int r_4, .int r_6]) (st := []) (C_X4_nodeAt l G ((σ 0 8).toNatClampNeg + 1 + 8 + 4 * Int32.toNatClampNeg x2) r_4 r_6 (lay_sp h_10 h_11) h) (ci := 4) (lay_sp h_10 h_11) (by decide) rfl rfl lm_X8_237 li_X4_nodeAt ls_X4_nodeAt ini_X4 lc_X4_nodeAt hd_X4_nodeAt (by decide) (Nat.le_of_ble_eq_true rfl) (by decide) rfl dX8_point_46 (fun r_12 σ_13 hh => ?_)
    clear h
    obtain ⟨e9, h⟩ := hh
    subst σ_13
    exact J_retiX F (by decide) (by decide) ⟨_, rfl, rfl, h⟩ dX8_point_49
theorem dX8_checkUp_0 : decode cX8_checkUp 0 = .ok (.aload_n 0, 1) := by decide +kernel
theorem dX8_checkUp_1 : decode cX8_checkUp 1 = .ok (.getfield 66, 3) := by decide +kernel
theorem dX8_checkUp_4 : decode cX8_checkUp 4 = .ok (.getfield 174, 3) := by decide +kernel
theorem dX8_checkUp_7 : decode cX8_checkUp 7 = .ok (.iload_n 1, 1) := by decide +kernel
theorem dX8_checkUp_8 : decode cX8_checkUp 8 = .ok (.iaload, 1) := by decide +kernel
theorem dX8_checkUp_9 : decode cX8_checkUp 9 = .ok (.iconst 1, 1) := by decide +kernel
theorem dX8_checkUp_10 : decode cX8_checkUp 10 = .ok (.if_icmp .eq 14, 3) := by decide +kernel
theorem dX8_checkUp_13 : decode cX8_checkUp 13 = .ok (.new 158, 3) := by decide +kernel
theorem dX8_checkUp_16 : decode cX8_checkUp 16 = .ok (.dup, 1) := by decide +kernel
theorem dX8_checkUp_17 : decode cX8_checkUp 17 = .ok (.ldc_w 371, 3) := by decide +kernel
theorem dX8_checkUp_20 : decode cX8_checkUp 20 = .ok (.invokespecial 162, 3) := by decide +kernel
theorem dX8_checkUp_23 : decode cX8_checkUp 23 = .ok (.athrow, 1) := by decide +kernel
theorem dX8_checkUp_24 : decode cX8_checkUp 24 = .ok (.return_, 1) := by decide +kernel
set_option maxRecDepth 20000 in
set_option maxHeartbeats 4000000 in
theorem C_X8_checkUp (l : Launch) (hl : l.stackTraces = false) (G : Gp) (x1 : Int32)  {σ : St} {Q : Prop} {QX : String → St → Prop} (h : wp_X8_checkUp σ x1 QX Q) : CnX l yX8_checkUp cX8_checkUp 2 none 6 100 1 6 G [.ref (gb G + 0), .int x1] σ (qV (fun σ' => σ' = σ ∧ Q)) QX := by
  refine CnX_of (L := [(0, .ref (gb G + 0)), (1, .int x1)]) RX8 (by decide) rfl (Nat.le_of_ble_eq_true rfl) rfl ?_
  intro p e s m below meth c F hT
  unfold wp_X8_checkUp at h
  refine J_aln F 0 dX8_checkUp_0 rfl rfl ?_
  refine J_gfm F (ci := 8) 8 rfl inX8 ly_0 (by decide) (by decide) rfl lf_X8_66 rfl dX8_checkUp_1 ?_
  obtain ⟨h_1, h⟩ := h
  refine J_gfr F (ci := 1) 1 rfl inX1 h_1 (by decide) (by decide) rfl lf_X8_174 rfl dX8_checkUp_4 ?_
  refine J_iln F 1 dX8_checkUp_7 rfl rfl ?_
  obtain ⟨h_2, h⟩ := h
  refine J_iald F (lay_net h_1).2.1 h_2 dX8_checkUp_8 ?_
  refine J_ic F dX8_checkUp_9 ki_1 ?_
  refine J_ceq F (tgt := 24) dX8_checkUp_10 (by decide) (fun c_3 => ?_) (fun c_3 => ?_)
  · have h := h.1 c_3
    exact J_retvX F (by decide) (by decide) ⟨rfl, rfl, h⟩ dX8_checkUp_24
  · have h := h.2 c_3
    exact J_throwW hl F hT th_X8_158_371 (by decide) (Nat.le_of_ble_eq_true rfl) (by decide) (by decide) h dX8_checkUp_13 dX8_checkUp_16 dX8_checkUp_17 dX8_checkUp_20 dX8_checkUp_23
theorem dX8_way_0 : decode cX8_way 0 = .ok (.iload_n 1, 1) := by decide +kernel
theorem dX8_way_1 : decode cX8_way 1 = .ok (.invokestatic 146, 3) := by decide +kernel
theorem dX8_way_4 : decode cX8_way 4 = .ok (.aload_n 0, 1) := by decide +kernel
theorem dX8_way_5 : decode cX8_way 5 = .ok (.iload_n 2, 1) := by decide +kernel
theorem dX8_way_6 : decode cX8_way 6 = .ok (.invokevirtual 184, 3) := by decide +kernel
theorem dX8_way_9 : decode cX8_way 9 = .ok (.iload_n 3, 1) := by decide +kernel
theorem dX8_way_10 : decode cX8_way 10 = .ok (.iload 4, 2) := by decide +kernel
theorem dX8_way_12 : decode cX8_way 12 = .ok (.invokestatic 234, 3) := by decide +kernel
theorem dX8_way_15 : decode cX8_way 15 = .ok (.aload_n 0, 1) := by decide +kernel
theorem dX8_way_16 : decode cX8_way 16 = .ok (.iload_n 1, 1) := by decide +kernel
theorem dX8_way_17 : decode cX8_way 17 = .ok (.invokevirtual 261, 3) := by decide +kernel
theorem dX8_way_20 : decode cX8_way 20 = .ok (.aload_n 0, 1) := by decide +kernel
theorem dX8_way_21 : decode cX8_way 21 = .ok (.getfield 66, 3) := by decide +kernel
theorem dX8_way_24 : decode cX8_way 24 = .ok (.getfield 187, 3) := by decide +kernel
theorem dX8_way_27 : decode cX8_way 27 = .ok (.iload_n 2, 1) := by decide +kernel
theorem dX8_way_28 : decode cX8_way 28 = .ok (.aaload, 1) := by decide +kernel
theorem dX8_way_29 : decode cX8_way 29 = .ok (.astore 6, 2) := by decide +kernel
theorem dX8_way_31 : decode cX8_way 31 = .ok (.aload_n 0, 1) := by decide +kernel
theorem dX8_way_32 : decode cX8_way 32 = .ok (.getfield 42, 3) := by decide +kernel
theorem dX8_way_35 : decode cX8_way 35 = .ok (.aload 6, 2) := by decide +kernel
theorem dX8_way_37 : decode cX8_way 37 = .ok (.iload_n 2, 1) := by decide +kernel
theorem dX8_way_38 : decode cX8_way 38 = .ok (.invokevirtual 199, 3) := by decide +kernel
theorem dX8_way_41 : decode cX8_way 41 = .ok (.aload_n 0, 1) := by decide +kernel
theorem dX8_way_42 : decode cX8_way 42 = .ok (.getfield 42, 3) := by decide +kernel
theorem dX8_way_45 : decode cX8_way 45 = .ok (.aload 6, 2) := by decide +kernel
theorem dX8_way_47 : decode cX8_way 47 = .ok (.iload_n 2, 1) := by decide +kernel
theorem dX8_way_48 : decode cX8_way 48 = .ok (.iload_n 3, 1) := by decide +kernel
theorem dX8_way_49 : decode cX8_way 49 = .ok (.iload 4, 2) := by decide +kernel
theorem dX8_way_51 : decode cX8_way 51 = .ok (.invokevirtual 264, 3) := by decide +kernel
theorem dX8_way_54 : decode cX8_way 54 = .ok (.aload_n 0, 1) := by decide +kernel
theorem dX8_way_55 : decode cX8_way 55 = .ok (.getfield 42, 3) := by decide +kernel
theorem dX8_way_58 : decode cX8_way 58 = .ok (.iload_n 1, 1) := by decide +kernel
theorem dX8_way_59 : decode cX8_way 59 = .ok (.iconst 1, 1) := by decide +kernel
theorem dX8_way_60 : decode cX8_way 60 = .ok (.iload_n 2, 1) := by decide +kernel
theorem dX8_way_61 : decode cX8_way 61 = .ok (.ishl, 1) := by decide +kernel
theorem dX8_way_62 : decode cX8_way 62 = .ok (.aload_n 0, 1) := by decide +kernel
theorem dX8_way_63 : decode cX8_way 63 = .ok (.getfield 66, 3) := by decide +kernel
theorem dX8_way_66 : decode cX8_way 66 = .ok (.iconst 1, 1) := by decide +kernel
theorem dX8_way_67 : decode cX8_way 67 = .ok (.invokevirtual 243, 3) := by decide +kernel
theorem dX8_way_70 : decode cX8_way 70 = .ok (.invokevirtual 268, 3) := by decide +kernel
theorem dX8_way_73 : decode cX8_way 73 = .ok (.iload 5, 2) := by decide +kernel
theorem dX8_way_75 : decode cX8_way 75 = .ok (.iconst (-1), 1) := by decide +kernel
theorem dX8_way_76 : decode cX8_way 76 = .ok (.if_icmp .ne 13, 3) := by decide +kernel
theorem dX8_way_79 : decode cX8_way 79 = .ok (.aload_n 0, 1) := by decide +kernel
theorem dX8_way_80 : decode cX8_way 80 = .ok (.getfield 42, 3) := by decide +kernel
theorem dX8_way_83 : decode cX8_way 83 = .ok (.invokevirtual 272, 3) := by decide +kernel
theorem dX8_way_86 : decode cX8_way 86 = .ok (.goto 12, 3) := by decide +kernel
theorem dX8_way_89 : decode cX8_way 89 = .ok (.aload_n 0, 1) := by decide +kernel
theorem dX8_way_90 : decode cX8_way 90 = .ok (.getfield 42, 3) := by decide +kernel
theorem dX8_way_93 : decode cX8_way 93 = .ok (.iload 5, 2) := by decide +kernel
theorem dX8_way_95 : decode cX8_way 95 = .ok (.invokevirtual 276, 3) := by decide +kernel
theorem dX8_way_98 : decode cX8_way 98 = .ok (.ireturn, 1) := by decide +kernel
set_option maxRecDepth 20000 in
set_option maxHeartbeats 4000000 in
theorem C_X8_way (l : Launch) (hl : l.stackTraces = false) (G : Gp) (x1 : Int32) (x2 : Int32) (x3 : Int32) (x4 : Int32) (x5 : Int32)  {σ : St} {Q : Int32 → St → Prop} {QX : String → St → Prop} (h : wp_X8_way σ x1 x2 x3 x4 x5 QX Q) : CnX l yX8_way cX8_way 7 (some .int) 7 121 4 24 G [.ref (gb G + 0), .int x1, .int x2, .int x3, .int x4, .int x5] σ (qI Q) QX := by
  refine CnX_of (L := [(0, .ref (gb G + 0)), (1, .int x1), (2, .int x2), (3, .int x3), (4, .int x4), (5, .int x5)]) RX8 (by decide) rfl (Nat.le_of_ble_eq_true rfl) rfl ?_
  intro p e s m below meth c F hT
  unfold wp_X8_way at h
  refine J_iln F 1 dX8_way_0 rfl rfl ?_
  refine J_xcallSv F (As := [.int x1]) (st := []) (C_X8_checkNode l hl G x1  h) lm_X8_146 li_X8_checkNode ini_X8 lc_X8_checkNode hd_X8_checkNode (by decide) (Nat.le_of_ble_eq_true rfl) (by decide) (by decide) hT (fun E σ' h => h) rfl dX8_way_1 (fun σ_1 hh => ?_)
  clear h
  obtain ⟨e9, h⟩ := hh
  subst σ_1
  refine J_aln F 0 dX8_way_4 rfl rfl ?_
  refine J_iln F 2 dX8_way_5 rfl rfl ?_
  refine J_xcallVv F (As := [.int x2]) (st := []) (C_X8_checkReality l hl G x2  h) (ci := 8) ly_0 (by decide) rfl rfl lm_X8_184 li_X8_checkReality ls_X8_checkReality ini_X8 lc_X8_checkReality hd_X8_checkReality (by decide) (Nat.le_of_ble_eq_true rfl) (by decide) (by decide) hT (fun E σ' h => h) rfl dX8_way_6 (fun σ_2 hh => ?_)
  clear h
  obtain ⟨e9, h⟩ := hh
  subst σ_2
  refine J_iln F 3 dX8_way_9 rfl rfl ?_
  refine J_il F 4 dX8_way_10 rfl ?_
  refine J_xcallSv F (As := [.int x3, .int x4]) (st := []) (C_X8_checkCell l hl G x3 x4  h) lm_X8_234 li_X8_checkCell ini_X8 lc_X8_checkCell hd_X8_checkCell (by decide) (Nat.le_of_ble_eq_true rfl) (by decide) (by decide) hT (fun E σ' h => h) rfl dX8_way_12 (fun σ_3 hh => ?_)
  clear h
  obtain ⟨e9, h⟩ := hh
  subst σ_3
  refine J_aln F 0 dX8_way_15 rfl rfl ?_
  refine J_iln F 1 dX8_way_16 rfl rfl ?_
  refine J_xcallVv F (As := [.int x1]) (st := []) (C_X8_checkUp l hl G x1  h) (ci := 8) ly_0 (by decide) rfl rfl lm_X8_261 li_X8_checkUp ls_X8_checkUp ini_X8 lc_X8_checkUp hd_X8_checkUp (by decide) (Nat.le_of_ble_eq_true rfl) (by decide) (by decide) hT (fun E σ' h => h) rfl dX8_way_17 (fun σ_4 hh => ?_)
  clear h
  obtain ⟨e9, h⟩ := hh
  subst σ_4
  refine J_aln F 0 dX8_way_20 rfl rfl ?_
  refine J_gfm F (ci := 8) 8 rfl inX8 ly_0 (by decide) (by decide) rfl lf_X8_66 rfl dX8_way_21 ?_
  obtain ⟨h_5, h⟩ := h
  refine J_gfr F (ci := 1) 0 rfl inX1 h_5 (by decide) (by decide) rfl lf_X8_187 rfl dX8_way_24 ?_
  refine J_iln F 2 dX8_way_27 rfl rfl ?_
  obtain ⟨h_6, h⟩ := h
  refine J_aldS F (lay_net h_5).1 h_6 dX8_way_28 ?_
  refine J_as F (L' := [(6, .ref (gb G + ((σ 0 8).toNatClampNeg + 1 + 8 + 4 * Int32.toNatClampNeg x2))), (0, .ref (gb G + 0)), (1, .int x1), (2, .int x2), (3, .int x3), (4, .int x4), (5, .int x5)]) dX8_way_29 (by decide) rfl ?_
  refine J_aln F 1 dX8_way_31 rfl rfl ?_
  refine J_gfa F (ci := 8) 4 rfl inX8 ly_0 (by decide) (by decide) rfl lf_X8_42 rfl dX8_way_32 ?_
  refine J_al F 0 dX8_way_35 rfl ?_
  refine J_iln F 3 dX8_way_37 rfl rfl ?_
  refine J_callVv F (As := [.ref (gb G + ((σ 0 8).toNatClampNeg + 1 + 8 + 4 * Int32.toNatClampNeg x2)), .int x2]) (st := []) (C_X7_lookBeside l G ((σ 0 8).toNatClampNeg + 1 + 8 + 4 * Int32.toNatClampNeg x2) x2 (lay_sp h_5 h_6) h) (ci := 7) ly_176 (by decide) rfl rfl lm_X8_199 li_X7_lookBeside ls_X7_lookBeside ini_X7 lc_X7_lookBeside hd_X7_lookBeside (by decide) (Nat.le_of_ble_eq_true rfl) (by decide) rfl dX8_way_38 (fun σ_7 h => ?_)
  refine J_aln F 1 dX8_way_41 rfl rfl ?_
  refine J_gfa F (ci := 8) 4 rfl inX8 ly_0 (by decide) (by decide) rfl lf_X8_42 rfl dX8_way_42 ?_
  refine J_al F 0 dX8_way_45 rfl ?_
  refine J_iln F 3 dX8_way_47 rfl rfl ?_
  refine J_iln F 4 dX8_way_48 rfl rfl ?_
  refine J_il F 5 dX8_way_49 rfl ?_
  refine J_callVv F (As := [.ref (gb G + ((σ 0 8).toNatClampNeg + 1 + 8 + 4 * Int32.toNatClampNeg x2)), .int x2, .int x3, .int x4]) (st := []) (C_X7_lookFar l G ((σ 0 8).toNatClampNeg + 1 + 8 + 4 * Int32.toNatClampNeg x2) x2 x3 x4 (lay_sp h_5 h_6) h) (ci := 7) ly_176 (by decide) rfl rfl lm_X8_264 li_X7_lookFar ls_X7_lookFar ini_X7 lc_X7_lookFar hd_X7_lookFar (by decide) (Nat.le_of_ble_eq_true rfl) (by decide) rfl dX8_way_51 (fun σ_8 h => ?_)
  refine J_aln F 1 dX8_way_54 rfl rfl ?_
  refine J_gfa F (ci := 8) 4 rfl inX8 ly_0 (by decide) (by decide) rfl lf_X8_42 rfl dX8_way_55 ?_
  refine J_iln F 2 dX8_way_58 rfl rfl ?_
  refine J_ic F dX8_way_59 ki_1 ?_
  refine J_iln F 3 dX8_way_60 rfl rfl ?_
  refine J_ishl F dX8_way_61 ?_
  refine J_aln F 1 dX8_way_62 rfl rfl ?_
  refine J_gfm F (ci := 8) 8 rfl inX8 ly_0 (by decide) (by decide) rfl lf_X8_66 rfl dX8_way_63 ?_
  obtain ⟨h_9, h⟩ := h
  refine J_ic F dX8_way_66 ki_1 ?_
  refine J_callVi F (As := [.int (nI 1)]) (st := [.int ((nI 1) <<< (x2 &&& 31)), .int x1, .ref (gb G + 176)]) (C_X1_nodesThatAre l G ((σ_8 0 8).toNatClampNeg) (nI 1) h_9 h) (ci := 1) h_9 (by decide) rfl rfl lm_X8_243 li_X1_nodesThatAre ls_X1_nodesThatAre ini_X1 lc_X1_nodesThatAre hd_X1_nodesThatAre (by decide) (Nat.le_of_ble_eq_true rfl) (by decide) rfl dX8_way_67 (fun r_10 σ_11 hh => ?_)
  clear h
  obtain ⟨e9, h⟩ := hh
  subst σ_11
  refine J_callVv F (As := [.int x1, .int ((nI 1) <<< (x2 &&& 31)), .int r_10]) (st := []) (C_X7_follow l G x1 ((nI 1) <<< (x2 &&& 31)) r_10  h) (ci := 7) ly_176 (by decide) rfl rfl lm_X8_268 li_X7_follow ls_X7_follow ini_X7 lc_X7_follow hd_X7_follow (by decide) (Nat.le_of_ble_eq_true rfl) (by decide) rfl dX8_way_70 (fun σ_12 h => ?_)
  refine J_il F 6 dX8_way_73 rfl ?_
  refine J_ic F dX8_way_75 ki_m1 ?_
  refine J_cne F (tgt := 89) dX8_way_76 (by decide) (fun c_13 => ?_) (fun c_13 => ?_)
  · have h := h.1 c_13
    refine J_aln F 1 dX8_way_89 rfl rfl ?_
    refine J_gfa F (ci := 8) 4 rfl inX8 ly_0 (by decide) (by decide) rfl lf_X8_42 rfl dX8_way_90 ?_
    refine J_il F 6 dX8_way_93 rfl ?_
    refine J_callVi F (As := [.int x5]) (st := []) (C_X7_nodeOfWay l G x5  h) (ci := 7) ly_176 (by decide) rfl rfl lm_X8_276 li_X7_nodeOfWay ls_X7_nodeOfWay ini_X7 lc_X7_nodeOfWay hd_X7_nodeOfWay (by decide) (Nat.le_of_ble_eq_true rfl) (by decide) rfl dX8_way_95 (fun r_14 σ_15 hh => ?_)
    clear h
    obtain ⟨e9, h⟩ := hh
    subst σ_15
    exact J_retiX F (by decide) (by decide) ⟨_, rfl, h⟩ dX8_way_98
  · have h := h.2 c_13
    refine J_aln F 1 dX8_way_79 rfl rfl ?_
    refine J_gfa F (ci := 8) 4 rfl inX8 ly_0 (by decide) (by decide) rfl lf_X8_42 rfl dX8_way_80 ?_
    refine J_callVi F (As := []) (st := []) (C_X7_hopsOrNone l G   h) (ci := 7) ly_176 (by decide) rfl rfl lm_X8_272 li_X7_hopsOrNone ls_X7_hopsOrNone ini_X7 lc_X7_hopsOrNone hd_X7_hopsOrNone (by decide) (Nat.le_of_ble_eq_true rfl) (by decide) rfl dX8_way_83 (fun r_16 σ_17 hh => ?_)
    clear h
    obtain ⟨e9, h⟩ := hh
    subst σ_17
    refine J_goto F (tgt := 98) dX8_way_86 (by decide) ?_
    exact J_retiX F (by decide) (by decide) ⟨_, rfl, h⟩ dX8_way_98
theorem dX8_delayOfWay_0 : decode cX8_delayOfWay 0 = .ok (.iconst 0, 1) := by decide +kernel
theorem dX8_delayOfWay_1 : decode cX8_delayOfWay 1 = .ok (.istore_n 1, 1) := by decide +kernel
theorem dX8_delayOfWay_2 : decode cX8_delayOfWay 2 = .ok (.iconst 1, 1) := by decide +kernel
theorem dX8_delayOfWay_3 : decode cX8_delayOfWay 3 = .ok (.istore_n 2, 1) := by decide +kernel
theorem dX8_delayOfWay_4 : decode cX8_delayOfWay 4 = .ok (.iload_n 2, 1) := by decide +kernel
theorem dX8_delayOfWay_5 : decode cX8_delayOfWay 5 = .ok (.aload_n 0, 1) := by decide +kernel
theorem dX8_delayOfWay_6 : decode cX8_delayOfWay 6 = .ok (.getfield 42, 3) := by decide +kernel
theorem dX8_delayOfWay_9 : decode cX8_delayOfWay 9 = .ok (.getfield 298, 3) := by decide +kernel
theorem dX8_delayOfWay_12 : decode cX8_delayOfWay 12 = .ok (.if_icmp .gt 37, 3) := by decide +kernel
theorem dX8_delayOfWay_15 : decode cX8_delayOfWay 15 = .ok (.iload_n 1, 1) := by decide +kernel
theorem dX8_delayOfWay_16 : decode cX8_delayOfWay 16 = .ok (.aload_n 0, 1) := by decide +kernel
theorem dX8_delayOfWay_17 : decode cX8_delayOfWay 17 = .ok (.getfield 66, 3) := by decide +kernel
theorem dX8_delayOfWay_20 : decode cX8_delayOfWay 20 = .ok (.aload_n 0, 1) := by decide +kernel
theorem dX8_delayOfWay_21 : decode cX8_delayOfWay 21 = .ok (.getfield 42, 3) := by decide +kernel
theorem dX8_delayOfWay_24 : decode cX8_delayOfWay 24 = .ok (.iload_n 2, 1) := by decide +kernel
theorem dX8_delayOfWay_25 : decode cX8_delayOfWay 25 = .ok (.iconst 1, 1) := by decide +kernel
theorem dX8_delayOfWay_26 : decode cX8_delayOfWay 26 = .ok (.isub, 1) := by decide +kernel
theorem dX8_delayOfWay_27 : decode cX8_delayOfWay 27 = .ok (.invokevirtual 276, 3) := by decide +kernel
theorem dX8_delayOfWay_30 : decode cX8_delayOfWay 30 = .ok (.aload_n 0, 1) := by decide +kernel
theorem dX8_delayOfWay_31 : decode cX8_delayOfWay 31 = .ok (.getfield 42, 3) := by decide +kernel
theorem dX8_delayOfWay_34 : decode cX8_delayOfWay 34 = .ok (.iload_n 2, 1) := by decide +kernel
theorem dX8_delayOfWay_35 : decode cX8_delayOfWay 35 = .ok (.invokevirtual 276, 3) := by decide +kernel
theorem dX8_delayOfWay_38 : decode cX8_delayOfWay 38 = .ok (.invokevirtual 291, 3) := by decide +kernel
theorem dX8_delayOfWay_41 : decode cX8_delayOfWay 41 = .ok (.iadd, 1) := by decide +kernel
theorem dX8_delayOfWay_42 : decode cX8_delayOfWay 42 = .ok (.istore_n 1, 1) := by decide +kernel
theorem dX8_delayOfWay_43 : decode cX8_delayOfWay 43 = .ok (.iinc 2 1, 3) := by decide +kernel
theorem dX8_delayOfWay_46 : decode cX8_delayOfWay 46 = .ok (.goto (-42), 3) := by decide +kernel
theorem dX8_delayOfWay_49 : decode cX8_delayOfWay 49 = .ok (.iload_n 1, 1) := by decide +kernel
theorem dX8_delayOfWay_50 : decode cX8_delayOfWay 50 = .ok (.ireturn, 1) := by decide +kernel
set_option maxRecDepth 20000 in
set_option maxHeartbeats 4000000 in
theorem wk_X8_delayOfWay_4 {p : Program} {l : Launch} {e : Env} {s : State} {m : MethodId} {args : Array Value} {below : List Frame} {meth : Method} {c : Code} {G : Gp} {σ : St}   {Q : Int32 → Prop} (F : FX p s m args meth c cX8_delayOfWay 3 (some .int) RX8 G)   : ∀ (n9 : Nat) (x1 : Int32) (x2 : Int32), LP2 (wp_X8_delayOfWay_4 σ Q) n9 x1 x2 → J p l e (rmF 2 43) s m args below meth c 3 G (MQ below (QQ G (qI (fun r σ' => σ' = σ ∧ Q r))) args s 0 0 (fr G)) 0 0 4 [(0, .ref (gb G + 0)), (1, .int x1), (2, .int x2)] [] σ := by
  intro n9
  induction n9 with
  | zero => intro x1 x2 h; exact h.elim
  | succ n9 i4 =>
    intro x1 x2 h
    have h : wp_X8_delayOfWay_4 σ Q (LP2 (wp_X8_delayOfWay_4 σ Q) n9) x1 x2 := h
    unfold wp_X8_delayOfWay_4 at h
    refine J_iln F 2 dX8_delayOfWay_4 rfl rfl ?_
    refine J_aln F 0 dX8_delayOfWay_5 rfl rfl ?_
    refine J_gfa F (ci := 8) 4 rfl inX8 ly_0 (by decide) (by decide) rfl lf_X8_42 rfl dX8_delayOfWay_6 ?_
    refine J_gfi F (ci := 7) 3 rfl inX7 ly_176 (by decide) (by decide) rfl lf_X8_298 rfl dX8_delayOfWay_9 ?_
    refine J_cgt F (tgt := 49) dX8_delayOfWay_12 (by decide) (fun c_1 => ?_) (fun c_1 => ?_)
    · have h := h.1 c_1
      refine J_iln F 1 dX8_delayOfWay_49 rfl rfl ?_
      exact J_reti F ⟨_, rfl, rfl, h⟩ dX8_delayOfWay_50
    · have h := h.2 c_1
      refine J_iln F 1 dX8_delayOfWay_15 rfl rfl ?_
      refine J_aln F 0 dX8_delayOfWay_16 rfl rfl ?_
      refine J_gfm F (ci := 8) 8 rfl inX8 ly_0 (by decide) (by decide) rfl lf_X8_66 rfl dX8_delayOfWay_17 ?_
      obtain ⟨h_2, h⟩ := h
      refine J_aln F 0 dX8_delayOfWay_20 rfl rfl ?_
      refine J_gfa F (ci := 8) 4 rfl inX8 ly_0 (by decide) (by decide) rfl lf_X8_42 rfl dX8_delayOfWay_21 ?_
      refine J_iln F 2 dX8_delayOfWay_24 rfl rfl ?_
      refine J_ic F dX8_delayOfWay_25 ki_1 ?_
      refine J_isub F dX8_delayOfWay_26 ?_
      refine J_callVi F (As := [.int (x2 - (nI 1))]) (st := [.ref (gb G + ((σ 0 8).toNatClampNeg)), .int x1]) (C_X7_nodeOfWay l G (x2 - (nI 1))  h) (ci := 7) ly_176 (by decide) rfl rfl lm_X8_276 li_X7_nodeOfWay ls_X7_nodeOfWay ini_X7 lc_X7_nodeOfWay hd_X7_nodeOfWay (by decide) (Nat.le_of_ble_eq_true rfl) (by decide) rfl dX8_delayOfWay_27 (fun r_3 σ_4 hh => ?_)
      clear h
      obtain ⟨e9, h⟩ := hh
      subst σ_4
      refine J_aln F 0 dX8_delayOfWay_30 rfl rfl ?_
      refine J_gfa F (ci := 8) 4 rfl inX8 ly_0 (by decide) (by decide) rfl lf_X8_42 rfl dX8_delayOfWay_31 ?_
      refine J_iln F 2 dX8_delayOfWay_34 rfl rfl ?_
      refine J_callVi F (As := [.int x2]) (st := [.int r_3, .ref (gb G + ((σ 0 8).toNatClampNeg)), .int x1]) (C_X7_nodeOfWay l G x2  h) (ci := 7) ly_176 (by decide) rfl rfl lm_X8_276 li_X7_nodeOfWay ls_X7_nodeOfWay ini_X7 lc_X7_nodeOfWay hd_X7_nodeOfWay (by decide) (Nat.le_of_ble_eq_true rfl) (by decide) rfl dX8_delayOfWay_35 (fun r_5 σ_6 hh => ?_)
      clear h
      obtain ⟨e9, h⟩ := hh
      subst σ_6
      refine J_callVi F (As := [.int r_3, .int r_5]) (st := [.int x1]) (C_X1_apart l G ((σ 0 8).toNatClampNeg) r_3 r_5 h_2 h) (ci := 1) h_2 (by decide) rfl rfl lm_X8_291 li_X1_apart ls_X1_apart ini_X1 lc_X1_apart hd_X1_apart (by decide) (Nat.le_of_ble_eq_true rfl) (by decide) rfl dX8_delayOfWay_38 (fun r_7 σ_8 hh => ?_)
      clear h
      obtain ⟨e9, h⟩ := hh
      subst σ_8
      refine J_iadd F dX8_delayOfWay_41 ?_
      refine J_top (fun x1_9 ex1_9 => ?_)
      have h := h x1_9 ex1_9
      refine J_isn F (L' := [(1, .int x1_9), (0, .ref (gb G + 0)), (2, .int x2)]) dX8_delayOfWay_42 rfl (by decide) rfl ?_
      obtain ⟨x2_10, ex2_10⟩ : ∃ z : Int32, z = x2 + (nI 1) := ⟨_, rfl⟩
      have h := h x2_10 ex2_10
      refine J_iinc F (v := x2_10) (L' := [(2, .int x2_10), (1, .int x1_9), (0, .ref (gb G + 0))]) 2 dX8_delayOfWay_43 rfl (by rw [ki_1, ex2_10]) (by decide) rfl ?_
      refine J_goto F (tgt := 4) dX8_delayOfWay_46 (by decide) ?_
      refine J_sub [2, 1, 0] rfl ?_
      exact i4 _ _ h
set_option maxRecDepth 20000 in
set_option maxHeartbeats 4000000 in
theorem C_X8_delayOfWay (l : Launch) (G : Gp)   {σ : St} {Q : Int32 → Prop} (h : wp_X8_delayOfWay σ  Q) : Cn l yX8_delayOfWay cX8_delayOfWay 3 (some .int) 2 43 G [.ref (gb G + 0)] σ (qI (fun r σ' => σ' = σ ∧ Q r)) := by
  refine Cn_of (L := [(0, .ref (gb G + 0))]) RX8 (by decide) rfl (Nat.le_of_ble_eq_true rfl) rfl ?_
  intro p e s m below meth c F
  unfold wp_X8_delayOfWay at h
  refine J_ic F dX8_delayOfWay_0 ki_0 ?_
  refine J_isn F (L' := [(1, .int (nI 0)), (0, .ref (gb G + 0))]) dX8_delayOfWay_1 rfl (by decide) rfl ?_
  refine J_ic F dX8_delayOfWay_2 ki_1 ?_
  refine J_isn F (L' := [(2, .int (nI 1)), (1, .int (nI 0)), (0, .ref (gb G + 0))]) dX8_delayOfWay_3 rfl (by decide) rfl ?_
  refine J_sub [2, 1, 0] rfl ?_
  obtain ⟨n9, h⟩ := h
  exact wk_X8_delayOfWay_4 F  n9 _ _ h
theorem dX8_stretch_0 : decode cX8_stretch 0 = .ok (.iload_n 0, 1) := by decide +kernel
theorem dX8_stretch_1 : decode cX8_stretch 1 = .ok (.istore_n 3, 1) := by decide +kernel
theorem dX8_stretch_2 : decode cX8_stretch 2 = .ok (.iload_n 1, 1) := by decide +kernel
theorem dX8_stretch_3 : decode cX8_stretch 3 = .ok (.istore 4, 2) := by decide +kernel
theorem dX8_stretch_5 : decode cX8_stretch 5 = .ok (.iconst 0, 1) := by decide +kernel
theorem dX8_stretch_6 : decode cX8_stretch 6 = .ok (.istore 5, 2) := by decide +kernel
theorem dX8_stretch_8 : decode cX8_stretch 8 = .ok (.iload 5, 2) := by decide +kernel
theorem dX8_stretch_10 : decode cX8_stretch 10 = .ok (.bipush 100, 2) := by decide +kernel
theorem dX8_stretch_12 : decode cX8_stretch 12 = .ok (.if_icmp .ge 27, 3) := by decide +kernel
theorem dX8_stretch_15 : decode cX8_stretch 15 = .ok (.iload 4, 2) := by decide +kernel
theorem dX8_stretch_17 : decode cX8_stretch 17 = .ok (.ifCond .eq 22, 3) := by decide +kernel
theorem dX8_stretch_20 : decode cX8_stretch 20 = .ok (.iload_n 3, 1) := by decide +kernel
theorem dX8_stretch_21 : decode cX8_stretch 21 = .ok (.iload 4, 2) := by decide +kernel
theorem dX8_stretch_23 : decode cX8_stretch 23 = .ok (.irem, 1) := by decide +kernel
theorem dX8_stretch_24 : decode cX8_stretch 24 = .ok (.istore 6, 2) := by decide +kernel
theorem dX8_stretch_26 : decode cX8_stretch 26 = .ok (.iload 4, 2) := by decide +kernel
theorem dX8_stretch_28 : decode cX8_stretch 28 = .ok (.istore_n 3, 1) := by decide +kernel
theorem dX8_stretch_29 : decode cX8_stretch 29 = .ok (.iload 6, 2) := by decide +kernel
theorem dX8_stretch_31 : decode cX8_stretch 31 = .ok (.istore 4, 2) := by decide +kernel
theorem dX8_stretch_33 : decode cX8_stretch 33 = .ok (.iinc 5 1, 3) := by decide +kernel
theorem dX8_stretch_36 : decode cX8_stretch 36 = .ok (.goto (-28), 3) := by decide +kernel
theorem dX8_stretch_39 : decode cX8_stretch 39 = .ok (.iload_n 3, 1) := by decide +kernel
theorem dX8_stretch_40 : decode cX8_stretch 40 = .ok (.ifCond .ne 5, 3) := by decide +kernel
theorem dX8_stretch_43 : decode cX8_stretch 43 = .ok (.iconst 1, 1) := by decide +kernel
theorem dX8_stretch_44 : decode cX8_stretch 44 = .ok (.ireturn, 1) := by decide +kernel
theorem dX8_stretch_45 : decode cX8_stretch 45 = .ok (.iload_n 2, 1) := by decide +kernel
theorem dX8_stretch_46 : decode cX8_stretch 46 = .ok (.ifCond .eq 7, 3) := by decide +kernel
theorem dX8_stretch_49 : decode cX8_stretch 49 = .ok (.iload_n 0, 1) := by decide +kernel
theorem dX8_stretch_50 : decode cX8_stretch 50 = .ok (.goto 4, 3) := by decide +kernel
theorem dX8_stretch_53 : decode cX8_stretch 53 = .ok (.iload_n 1, 1) := by decide +kernel
theorem dX8_stretch_54 : decode cX8_stretch 54 = .ok (.iload_n 3, 1) := by decide +kernel
theorem dX8_stretch_55 : decode cX8_stretch 55 = .ok (.idiv, 1) := by decide +kernel
theorem dX8_stretch_56 : decode cX8_stretch 56 = .ok (.ireturn, 1) := by decide +kernel
set_option maxRecDepth 20000 in
set_option maxHeartbeats 4000000 in
theorem wk_X8_stretch_39 {p : Program} {l : Launch} {e : Env} {s : State} {m : MethodId} {args : Array Value} {below : List Frame} {meth : Method} {c : Code} {G : Gp} {σ : St} {x0 : Int32} {x1 : Int32} {x2 : Int32} {x3 : Int32}  {Q : Int32 → Prop} (F : FX p s m args meth c cX8_stretch 7 (some .int) RX8 G)   (h : wp_X8_stretch_39 σ x0 x1 x2 x3 Q) : J p l e (rmF 0 0) s m args below meth c 7 G (MQ below (QQ G (qI (fun r σ' => σ' = σ ∧ Q r))) args s 0 0 (fr G)) 0 0 39 [(0, .int x0), (1, .int x1), (2, .int x2), (3, .int x3)] [] σ := by
  unfold wp_X8_stretch_39 at h
  refine J_iln F 3 dX8_stretch_39 rfl rfl ?_
  refine J_zne F (tgt := 45) dX8_stretch_40 (by decide) (fun c_1 => ?_) (fun c_1 => ?_)
  · have h := h.1 c_1
    refine J_iln F 2 dX8_stretch_45 rfl rfl ?_
    refine J_zeq F (tgt := 53) dX8_stretch_46 (by decide) (fun c_2 => ?_) (fun c_2 => ?_)
    · have h := h.1 c_2
      refine J_iln F 1 dX8_stretch_53 rfl rfl ?_
      refine J_iln F 3 dX8_stretch_54 rfl rfl ?_
      obtain ⟨h_3, h⟩ := h
      refine J_idiv F dX8_stretch_55 h_3 ?_
      exact J_reti F ⟨_, rfl, rfl, h⟩ dX8_stretch_56
    · have h := h.2 c_2
      refine J_iln F 0 dX8_stretch_49 rfl rfl ?_
      refine J_goto F (tgt := 54) dX8_stretch_50 (by decide) ?_
      refine J_iln F 3 dX8_stretch_54 rfl rfl ?_
      obtain ⟨h_4, h⟩ := h
      refine J_idiv F dX8_stretch_55 h_4 ?_
      exact J_reti F ⟨_, rfl, rfl, h⟩ dX8_stretch_56
  · have h := h.2 c_1
    refine J_ic F dX8_stretch_43 ki_1 ?_
    exact J_reti F ⟨_, rfl, rfl, h⟩ dX8_stretch_44
set_option maxRecDepth 20000 in
set_option maxHeartbeats 4000000 in
theorem wk_X8_stretch_8 {p : Program} {l : Launch} {e : Env} {s : State} {m : MethodId} {args : Array Value} {below : List Frame} {meth : Method} {c : Code} {G : Gp} {σ : St} {x0 : Int32} {x1 : Int32} {x2 : Int32}  {Q : Int32 → Prop} (F : FX p s m args meth c cX8_stretch 7 (some .int) RX8 G)   : ∀ (n9 : Nat) (x3 : Int32) (x4 : Int32) (x5 : Int32), LP3 (wp_X8_stretch_8 σ x0 x1 x2 Q) n9 x3 x4 x5 → J p l e (rmF 0 0) s m args below meth c 7 G (MQ below (QQ G (qI (fun r σ' => σ' = σ ∧ Q r))) args s 0 0 (fr G)) 0 0 8 [(0, .int x0), (1, .int x1), (2, .int x2), (3, .int x3), (4, .int x4), (5, .int x5)] [] σ := by
  intro n9
  induction n9 with
  | zero => intro x3 x4 x5 h; exact h.elim
  | succ n9 i8 =>
    intro x3 x4 x5 h
    have h : wp_X8_stretch_8 σ x0 x1 x2 Q (LP3 (wp_X8_stretch_8 σ x0 x1 x2 Q) n9) x3 x4 x5 := h
    unfold wp_X8_stretch_8 at h
    refine J_il F 5 dX8_stretch_8 rfl ?_
    refine J_bi F dX8_stretch_10 kb_100 ?_
    refine J_cge F (tgt := 39) dX8_stretch_12 (by decide) (fun c_5 => ?_) (fun c_5 => ?_)
    · have h := h.1 c_5
      refine J_sub [0, 1, 2, 3] rfl ?_
      exact wk_X8_stretch_39 F  h
    · have h := h.2 c_5
      refine J_il F 4 dX8_stretch_15 rfl ?_
      refine J_zeq F (tgt := 39) dX8_stretch_17 (by decide) (fun c_6 => ?_) (fun c_6 => ?_)
      · have h := h.1 c_6
        refine J_sub [0, 1, 2, 3] rfl ?_
        exact wk_X8_stretch_39 F  h
      · have h := h.2 c_6
        refine J_iln F 3 dX8_stretch_20 rfl rfl ?_
        refine J_il F 4 dX8_stretch_21 rfl ?_
        obtain ⟨h_7, h⟩ := h
        refine J_irem F dX8_stretch_23 h_7 ?_
        refine J_top (fun x6_8 ex6_8 => ?_)
        have h := h x6_8 ex6_8
        refine J_is F (L' := [(6, .int x6_8), (0, .int x0), (1, .int x1), (2, .int x2), (3, .int x3), (4, .int x4), (5, .int x5)]) dX8_stretch_24 (by decide) rfl ?_
        refine J_il F 5 dX8_stretch_26 rfl ?_
        refine J_isn F (L' := [(3, .int x4), (6, .int x6_8), (0, .int x0), (1, .int x1), (2, .int x2), (4, .int x4), (5, .int x5)]) dX8_stretch_28 rfl (by decide) rfl ?_
        refine J_il F 1 dX8_stretch_29 rfl ?_
        refine J_is F (L' := [(4, .int x6_8), (3, .int x4), (6, .int x6_8), (0, .int x0), (1, .int x1), (2, .int x2), (5, .int x5)]) dX8_stretch_31 (by decide) rfl ?_
        obtain ⟨x5_9, ex5_9⟩ : ∃ z : Int32, z = x5 + (nI 1) := ⟨_, rfl⟩
        have h := h x5_9 ex5_9
        refine J_iinc F (v := x5_9) (L' := [(5, .int x5_9), (4, .int x6_8), (3, .int x4), (6, .int x6_8), (0, .int x0), (1, .int x1), (2, .int x2)]) 6 dX8_stretch_33 rfl (by rw [ki_1, ex5_9]) (by decide) rfl ?_
        refine J_goto F (tgt := 8) dX8_stretch_36 (by decide) ?_
        refine J_sub [4, 5, 6, 2, 1, 0] rfl ?_
        exact i8 _ _ _ h
set_option maxRecDepth 20000 in
set_option maxHeartbeats 4000000 in
theorem C_X8_stretch (l : Launch) (G : Gp) (x0 : Int32) (x1 : Int32) (x2 : Int32)  {σ : St} {Q : Int32 → Prop} (h : wp_X8_stretch σ x0 x1 x2 Q) : Cn l yX8_stretch cX8_stretch 7 (some .int) 0 0 G [.int x0, .int x1, .int x2] σ (qI (fun r σ' => σ' = σ ∧ Q r)) := by
  refine Cn_of (L := [(0, .int x0), (1, .int x1), (2, .int x2)]) RX8 (by decide) rfl (Nat.le_of_ble_eq_true rfl) rfl ?_
  intro p e s m below meth c F
  unfold wp_X8_stretch at h
  refine J_iln F 0 dX8_stretch_0 rfl rfl ?_
  refine J_isn F (L' := [(3, .int x0), (0, .int x0), (1, .int x1), (2, .int x2)]) dX8_stretch_1 rfl (by decide) rfl ?_
  refine J_iln F 2 dX8_stretch_2 rfl rfl ?_
  refine J_is F (L' := [(4, .int x1), (3, .int x0), (0, .int x0), (1, .int x1), (2, .int x2)]) dX8_stretch_3 (by decide) rfl ?_
  refine J_ic F dX8_stretch_5 ki_0 ?_
  refine J_is F (L' := [(5, .int (nI 0)), (4, .int x1), (3, .int x0), (0, .int x0), (1, .int x1), (2, .int x2)]) dX8_stretch_6 (by decide) rfl ?_
  refine J_sub [3, 4, 5, 2, 1, 0] rfl ?_
  obtain ⟨n9, h⟩ := h
  exact wk_X8_stretch_8 F  n9 _ _ _ h
theorem dX8_seek_0 : decode cX8_seek 0 = .ok (.iload_n 1, 1) := by decide +kernel
theorem dX8_seek_1 : decode cX8_seek 1 = .ok (.invokestatic 146, 3) := by decide +kernel
theorem dX8_seek_4 : decode cX8_seek 4 = .ok (.iload_n 2, 1) := by decide +kernel
theorem dX8_seek_5 : decode cX8_seek 5 = .ok (.invokestatic 153, 3) := by decide +kernel
theorem dX8_seek_8 : decode cX8_seek 8 = .ok (.iload_n 3, 1) := by decide +kernel
theorem dX8_seek_9 : decode cX8_seek 9 = .ok (.iconst 5, 1) := by decide +kernel
theorem dX8_seek_10 : decode cX8_seek 10 = .ok (.invokestatic 149, 3) := by decide +kernel
theorem dX8_seek_13 : decode cX8_seek 13 = .ok (.aload_n 0, 1) := by decide +kernel
theorem dX8_seek_14 : decode cX8_seek 14 = .ok (.iload_n 1, 1) := by decide +kernel
theorem dX8_seek_15 : decode cX8_seek 15 = .ok (.invokevirtual 261, 3) := by decide +kernel
theorem dX8_seek_18 : decode cX8_seek 18 = .ok (.iconst 0, 1) := by decide +kernel
theorem dX8_seek_19 : decode cX8_seek 19 = .ok (.istore 4, 2) := by decide +kernel
theorem dX8_seek_21 : decode cX8_seek 21 = .ok (.iload 4, 2) := by decide +kernel
theorem dX8_seek_23 : decode cX8_seek 23 = .ok (.aload_n 0, 1) := by decide +kernel
theorem dX8_seek_24 : decode cX8_seek 24 = .ok (.getfield 66, 3) := by decide +kernel
theorem dX8_seek_27 : decode cX8_seek 27 = .ok (.getfield 279, 3) := by decide +kernel
theorem dX8_seek_30 : decode cX8_seek 30 = .ok (.if_icmp .ge 72, 3) := by decide +kernel
theorem dX8_seek_33 : decode cX8_seek 33 = .ok (.aload_n 0, 1) := by decide +kernel
theorem dX8_seek_34 : decode cX8_seek 34 = .ok (.getfield 66, 3) := by decide +kernel
theorem dX8_seek_37 : decode cX8_seek 37 = .ok (.iload_n 2, 1) := by decide +kernel
theorem dX8_seek_38 : decode cX8_seek 38 = .ok (.iload 4, 2) := by decide +kernel
theorem dX8_seek_40 : decode cX8_seek 40 = .ok (.invokevirtual 282, 3) := by decide +kernel
theorem dX8_seek_43 : decode cX8_seek 43 = .ok (.ifCond .eq 53, 3) := by decide +kernel
theorem dX8_seek_46 : decode cX8_seek 46 = .ok (.aload_n 0, 1) := by decide +kernel
theorem dX8_seek_47 : decode cX8_seek 47 = .ok (.getfield 42, 3) := by decide +kernel
theorem dX8_seek_50 : decode cX8_seek 50 = .ok (.aload_n 0, 1) := by decide +kernel
theorem dX8_seek_51 : decode cX8_seek 51 = .ok (.getfield 66, 3) := by decide +kernel
theorem dX8_seek_54 : decode cX8_seek 54 = .ok (.getfield 187, 3) := by decide +kernel
theorem dX8_seek_57 : decode cX8_seek 57 = .ok (.iload 4, 2) := by decide +kernel
theorem dX8_seek_59 : decode cX8_seek 59 = .ok (.aaload, 1) := by decide +kernel
theorem dX8_seek_60 : decode cX8_seek 60 = .ok (.iload 4, 2) := by decide +kernel
theorem dX8_seek_62 : decode cX8_seek 62 = .ok (.invokevirtual 199, 3) := by decide +kernel
theorem dX8_seek_65 : decode cX8_seek 65 = .ok (.aload_n 0, 1) := by decide +kernel
theorem dX8_seek_66 : decode cX8_seek 66 = .ok (.getfield 42, 3) := by decide +kernel
theorem dX8_seek_69 : decode cX8_seek 69 = .ok (.aload_n 0, 1) := by decide +kernel
theorem dX8_seek_70 : decode cX8_seek 70 = .ok (.getfield 66, 3) := by decide +kernel
theorem dX8_seek_73 : decode cX8_seek 73 = .ok (.getfield 187, 3) := by decide +kernel
theorem dX8_seek_76 : decode cX8_seek 76 = .ok (.iload 4, 2) := by decide +kernel
theorem dX8_seek_78 : decode cX8_seek 78 = .ok (.aaload, 1) := by decide +kernel
theorem dX8_seek_79 : decode cX8_seek 79 = .ok (.iload 4, 2) := by decide +kernel
theorem dX8_seek_81 : decode cX8_seek 81 = .ok (.iload_n 2, 1) := by decide +kernel
theorem dX8_seek_82 : decode cX8_seek 82 = .ok (.iload 4, 2) := by decide +kernel
theorem dX8_seek_84 : decode cX8_seek 84 = .ok (.invokestatic 255, 3) := by decide +kernel
theorem dX8_seek_87 : decode cX8_seek 87 = .ok (.iload_n 2, 1) := by decide +kernel
theorem dX8_seek_88 : decode cX8_seek 88 = .ok (.iload 4, 2) := by decide +kernel
theorem dX8_seek_90 : decode cX8_seek 90 = .ok (.invokestatic 258, 3) := by decide +kernel
theorem dX8_seek_93 : decode cX8_seek 93 = .ok (.invokevirtual 264, 3) := by decide +kernel
theorem dX8_seek_96 : decode cX8_seek 96 = .ok (.iinc 4 1, 3) := by decide +kernel
theorem dX8_seek_99 : decode cX8_seek 99 = .ok (.goto (-78), 3) := by decide +kernel
theorem dX8_seek_102 : decode cX8_seek 102 = .ok (.aload_n 0, 1) := by decide +kernel
theorem dX8_seek_103 : decode cX8_seek 103 = .ok (.getfield 42, 3) := by decide +kernel
theorem dX8_seek_106 : decode cX8_seek 106 = .ok (.iload_n 1, 1) := by decide +kernel
theorem dX8_seek_107 : decode cX8_seek 107 = .ok (.aload_n 0, 1) := by decide +kernel
theorem dX8_seek_108 : decode cX8_seek 108 = .ok (.getfield 66, 3) := by decide +kernel
theorem dX8_seek_111 : decode cX8_seek 111 = .ok (.getfield 252, 3) := by decide +kernel
theorem dX8_seek_114 : decode cX8_seek 114 = .ok (.iload_n 2, 1) := by decide +kernel
theorem dX8_seek_115 : decode cX8_seek 115 = .ok (.iaload, 1) := by decide +kernel
theorem dX8_seek_116 : decode cX8_seek 116 = .ok (.aload_n 0, 1) := by decide +kernel
theorem dX8_seek_117 : decode cX8_seek 117 = .ok (.getfield 66, 3) := by decide +kernel
theorem dX8_seek_120 : decode cX8_seek 120 = .ok (.iconst 1, 1) := by decide +kernel
theorem dX8_seek_121 : decode cX8_seek 121 = .ok (.invokevirtual 243, 3) := by decide +kernel
theorem dX8_seek_124 : decode cX8_seek 124 = .ok (.invokevirtual 268, 3) := by decide +kernel
theorem dX8_seek_127 : decode cX8_seek 127 = .ok (.iload_n 3, 1) := by decide +kernel
theorem dX8_seek_128 : decode cX8_seek 128 = .ok (.tableswitch 49 0 2 #[28, 36, 41], 28) := by decide +kernel
theorem dX8_seek_156 : decode cX8_seek 156 = .ok (.aload_n 0, 1) := by decide +kernel
theorem dX8_seek_157 : decode cX8_seek 157 = .ok (.getfield 42, 3) := by decide +kernel
theorem dX8_seek_160 : decode cX8_seek 160 = .ok (.invokevirtual 272, 3) := by decide +kernel
theorem dX8_seek_163 : decode cX8_seek 163 = .ok (.ireturn, 1) := by decide +kernel
theorem dX8_seek_164 : decode cX8_seek 164 = .ok (.aload_n 0, 1) := by decide +kernel
theorem dX8_seek_165 : decode cX8_seek 165 = .ok (.invokevirtual 285, 3) := by decide +kernel
theorem dX8_seek_168 : decode cX8_seek 168 = .ok (.ireturn, 1) := by decide +kernel
theorem dX8_seek_169 : decode cX8_seek 169 = .ok (.aload_n 0, 1) := by decide +kernel
theorem dX8_seek_170 : decode cX8_seek 170 = .ok (.getfield 42, 3) := by decide +kernel
theorem dX8_seek_173 : decode cX8_seek 173 = .ok (.invokevirtual 288, 3) := by decide +kernel
theorem dX8_seek_176 : decode cX8_seek 176 = .ok (.ireturn, 1) := by decide +kernel
theorem dX8_seek_177 : decode cX8_seek 177 = .ok (.aload_n 0, 1) := by decide +kernel
theorem dX8_seek_178 : decode cX8_seek 178 = .ok (.invokevirtual 285, 3) := by decide +kernel
theorem dX8_seek_181 : decode cX8_seek 181 = .ok (.aload_n 0, 1) := by decide +kernel
theorem dX8_seek_182 : decode cX8_seek 182 = .ok (.getfield 66, 3) := by decide +kernel
theorem dX8_seek_185 : decode cX8_seek 185 = .ok (.iload_n 1, 1) := by decide +kernel
theorem dX8_seek_186 : decode cX8_seek 186 = .ok (.aload_n 0, 1) := by decide +kernel
theorem dX8_seek_187 : decode cX8_seek 187 = .ok (.getfield 42, 3) := by decide +kernel
theorem dX8_seek_190 : decode cX8_seek 190 = .ok (.invokevirtual 288, 3) := by decide +kernel
theorem dX8_seek_193 : decode cX8_seek 193 = .ok (.invokevirtual 291, 3) := by decide +kernel
theorem dX8_seek_196 : decode cX8_seek 196 = .ok (.iload_n 3, 1) := by decide +kernel
theorem dX8_seek_197 : decode cX8_seek 197 = .ok (.iconst 3, 1) := by decide +kernel
theorem dX8_seek_198 : decode cX8_seek 198 = .ok (.if_icmp .ne 7, 3) := by decide +kernel
theorem dX8_seek_201 : decode cX8_seek 201 = .ok (.iconst 1, 1) := by decide +kernel
theorem dX8_seek_202 : decode cX8_seek 202 = .ok (.goto 4, 3) := by decide +kernel
theorem dX8_seek_205 : decode cX8_seek 205 = .ok (.iconst 0, 1) := by decide +kernel
theorem dX8_seek_206 : decode cX8_seek 206 = .ok (.invokestatic 294, 3) := by decide +kernel
theorem dX8_seek_209 : decode cX8_seek 209 = .ok (.ireturn, 1) := by decide +kernel
set_option maxRecDepth 20000 in
set_option maxHeartbeats 4000000 in
theorem wk_X8_seek_206 {p : Program} {l : Launch} {e : Env} {s : State} {m : MethodId} {args : Array Value} {below : List Frame} {meth : Method} {c : Code} {G : Gp} {σ : St} {t0 : Int32} {t1 : Int32} {t2 : Int32}  {Q : Int32 → St → Prop} {QX : String → St → Prop} (F : FX p s m args meth c cX8_seek 5 (some .int) RX8 G) (hl : l.stackTraces = false) (hT : ∀ x ∈ c.exceptionTable.toList, False)   (h : wp_X8_seek_206 σ t0 t1 t2 Q QX) : J p l e (rmX 7 121 4 24) s m args below meth c 5 G (vx_MQ below (QQ G (qI Q)) (XX G QX) args s 4 24 (fr G)) 4 24 206 [] [.int t2, .int t1, .int t0] σ := by
  unfold wp_X8_seek_206 at h
  refine J_callSi F (As := [.int t0, .int t1, .int t2]) (st := []) (C_X8_stretch l G t0 t1 t2  h) lm_X8_294 li_X8_stretch ini_X8 lc_X8_stretch hd_X8_stretch (by decide) (Nat.le_of_ble_eq_true rfl) (by decide) rfl dX8_seek_206 (fun r_1 σ_2 hh => ?_)
  clear h
  obtain ⟨e9, h⟩ := hh
  subst σ_2
  exact J_retiX F (by decide) (by decide) ⟨_, rfl, h⟩ dX8_seek_209
set_option maxRecDepth 20000 in
set_option maxHeartbeats 4000000 in
theorem wk_X8_seek_102 {p : Program} {l : Launch} {e : Env} {s : State} {m : MethodId} {args : Array Value} {below : List Frame} {meth : Method} {c : Code} {G : Gp} {σ : St} {x1 : Int32} {x2 : Int32} {x3 : Int32}  {Q : Int32 → St → Prop} {QX : String → St → Prop} (F : FX p s m args meth c cX8_seek 5 (some .int) RX8 G) (hl : l.stackTraces = false) (hT : ∀ x ∈ c.exceptionTable.toList, False)   (h : wp_X8_seek_102 σ x1 x2 x3 Q QX) : J p l e (rmX 7 121 4 24) s m args below meth c 5 G (vx_MQ below (QQ G (qI Q)) (XX G QX) args s 4 24 (fr G)) 4 24 102 [(0, .ref (gb G + 0)), (1, .int x1), (2, .int x2), (3, .int x3)] [] σ := by
  unfold wp_X8_seek_102 at h
  refine J_aln F 0 dX8_seek_102 rfl rfl ?_
  refine J_gfa F (ci := 8) 4 rfl inX8 ly_0 (by decide) (by decide) rfl lf_X8_42 rfl dX8_seek_103 ?_
  refine J_iln F 1 dX8_seek_106 rfl rfl ?_
  refine J_aln F 0 dX8_seek_107 rfl rfl ?_
  refine J_gfm F (ci := 8) 8 rfl inX8 ly_0 (by decide) (by decide) rfl lf_X8_66 rfl dX8_seek_108 ?_
  obtain ⟨h_3, h⟩ := h
  refine J_gfr F (ci := 1) 7 rfl inX1 h_3 (by decide) (by decide) rfl lf_X8_252 rfl dX8_seek_111 ?_
  refine J_iln F 2 dX8_seek_114 rfl rfl ?_
  obtain ⟨h_4, h⟩ := h
  refine J_iald F (lay_net h_3).2.2.2.2.2.2.2.1 h_4 dX8_seek_115 ?_
  refine J_aln F 0 dX8_seek_116 rfl rfl ?_
  refine J_gfm F (ci := 8) 8 rfl inX8 ly_0 (by decide) (by decide) rfl lf_X8_66 rfl dX8_seek_117 ?_
  obtain ⟨h_5, h⟩ := h
  refine J_ic F dX8_seek_120 ki_1 ?_
  refine J_callVi F (As := [.int (nI 1)]) (st := [.int (σ ((σ 0 8).toNatClampNeg + 8) (Int32.toNatClampNeg x2)), .int x1, .ref (gb G + 176)]) (C_X1_nodesThatAre l G ((σ 0 8).toNatClampNeg) (nI 1) h_5 h) (ci := 1) h_5 (by decide) rfl rfl lm_X8_243 li_X1_nodesThatAre ls_X1_nodesThatAre ini_X1 lc_X1_nodesThatAre hd_X1_nodesThatAre (by decide) (Nat.le_of_ble_eq_true rfl) (by decide) rfl dX8_seek_121 (fun r_6 σ_7 hh => ?_)
  clear h
  obtain ⟨e9, h⟩ := hh
  subst σ_7
  refine J_callVv F (As := [.int x1, .int (σ ((σ 0 8).toNatClampNeg + 8) (Int32.toNatClampNeg x2)), .int r_6]) (st := []) (C_X7_follow l G x1 (σ ((σ 0 8).toNatClampNeg + 8) (Int32.toNatClampNeg x2)) r_6  h) (ci := 7) ly_176 (by decide) rfl rfl lm_X8_268 li_X7_follow ls_X7_follow ini_X7 lc_X7_follow hd_X7_follow (by decide) (Nat.le_of_ble_eq_true rfl) (by decide) rfl dX8_seek_124 (fun σ_8 h => ?_)
  refine J_iln F 3 dX8_seek_127 rfl rfl ?_
  refine J_case (v := nI 0) (fun c_10 => ?_) (fun c_10 => ?_)
  · have h := h.1 c_10
    refine J_tabIn F (off := 28) (tgt := 156) dX8_seek_128 (by decide) (by decide) (by decide) (by decide) ?_
    refine J_aln F 0 dX8_seek_156 rfl rfl ?_
    refine J_gfa F (ci := 8) 4 rfl inX8 ly_0 (by decide) (by decide) rfl lf_X8_42 rfl dX8_seek_157 ?_
    refine J_callVi F (As := []) (st := []) (C_X7_hopsOrNone l G   h) (ci := 7) ly_176 (by decide) rfl rfl lm_X8_272 li_X7_hopsOrNone ls_X7_hopsOrNone ini_X7 lc_X7_hopsOrNone hd_X7_hopsOrNone (by decide) (Nat.le_of_ble_eq_true rfl) (by decide) rfl dX8_seek_160 (fun r_11 σ_12 hh => ?_)
    clear h
    obtain ⟨e9, h⟩ := hh
    subst σ_12
    exact J_retiX F (by decide) (by decide) ⟨_, rfl, h⟩ dX8_seek_163
  · have h := h.2 c_10
    refine J_case (v := nI 1) (fun c_13 => ?_) (fun c_13 => ?_)
    · have h := h.1 c_13
      refine J_tabIn F (off := 36) (tgt := 164) dX8_seek_128 (by decide) (by decide) (by decide) (by decide) ?_
      refine J_aln F 0 dX8_seek_164 rfl rfl ?_
      refine J_callVi F (As := []) (st := []) (C_X8_delayOfWay l G   h) (ci := 8) ly_0 (by decide) rfl rfl lm_X8_285 li_X8_delayOfWay ls_X8_delayOfWay ini_X8 lc_X8_delayOfWay hd_X8_delayOfWay (by decide) (Nat.le_of_ble_eq_true rfl) (by decide) rfl dX8_seek_165 (fun r_14 σ_15 hh => ?_)
      clear h
      obtain ⟨e9, h⟩ := hh
      subst σ_15
      exact J_retiX F (by decide) (by decide) ⟨_, rfl, h⟩ dX8_seek_168
    · have h := h.2 c_13
      refine J_case (v := nI 2) (fun c_16 => ?_) (fun c_16 => ?_)
      · have h := h.1 c_16
        refine J_tabIn F (off := 41) (tgt := 169) dX8_seek_128 (by decide) (by decide) (by decide) (by decide) ?_
        refine J_aln F 0 dX8_seek_169 rfl rfl ?_
        refine J_gfa F (ci := 8) 4 rfl inX8 ly_0 (by decide) (by decide) rfl lf_X8_42 rfl dX8_seek_170 ?_
        refine J_callVi F (As := []) (st := []) (C_X7_lastNode l G   h) (ci := 7) ly_176 (by decide) rfl rfl lm_X8_288 li_X7_lastNode ls_X7_lastNode ini_X7 lc_X7_lastNode hd_X7_lastNode (by decide) (Nat.le_of_ble_eq_true rfl) (by decide) rfl dX8_seek_173 (fun r_17 σ_18 hh => ?_)
        clear h
        obtain ⟨e9, h⟩ := hh
        subst σ_18
        exact J_retiX F (by decide) (by decide) ⟨_, rfl, h⟩ dX8_seek_176
      · have h := h.2 c_16
        refine J_tabOut F (tgt := 177) dX8_seek_128 (tab_out 0 2 (fun k h1 h2 => by rcases (show k = 0 ∨ k = 1 ∨ k = 2 by omega) with rfl | rfl | rfl <;> assumption)) (by decide) ?_
        refine J_aln F 0 dX8_seek_177 rfl rfl ?_
        refine J_callVi F (As := []) (st := []) (C_X8_delayOfWay l G   h) (ci := 8) ly_0 (by decide) rfl rfl lm_X8_285 li_X8_delayOfWay ls_X8_delayOfWay ini_X8 lc_X8_delayOfWay hd_X8_delayOfWay (by decide) (Nat.le_of_ble_eq_true rfl) (by decide) rfl dX8_seek_178 (fun r_19 σ_20 hh => ?_)
        clear h
        obtain ⟨e9, h⟩ := hh
        subst σ_20
        refine J_aln F 0 dX8_seek_181 rfl rfl ?_
        refine J_gfm F (ci := 8) 8 rfl inX8 ly_0 (by decide) (by decide) rfl lf_X8_66 rfl dX8_seek_182 ?_
        obtain ⟨h_21, h⟩ := h
        refine J_iln F 1 dX8_seek_185 rfl rfl ?_
        refine J_aln F 0 dX8_seek_186 rfl rfl ?_
        refine J_gfa F (ci := 8) 4 rfl inX8 ly_0 (by decide) (by decide) rfl lf_X8_42 rfl dX8_seek_187 ?_
        refine J_callVi F (As := []) (st := [.int x1, .ref (gb G + ((σ_8 0 8).toNatClampNeg)), .int r_19]) (C_X7_lastNode l G   h) (ci := 7) ly_176 (by decide) rfl rfl lm_X8_288 li_X7_lastNode ls_X7_lastNode ini_X7 lc_X7_lastNode hd_X7_lastNode (by decide) (Nat.le_of_ble_eq_true rfl) (by decide) rfl dX8_seek_190 (fun r_22 σ_23 hh => ?_)
        clear h
        obtain ⟨e9, h⟩ := hh
        subst σ_23
        refine J_callVi F (As := [.int x1, .int r_22]) (st := [.int r_19]) (C_X1_apart l G ((σ_8 0 8).toNatClampNeg) x1 r_22 h_21 h) (ci := 1) h_21 (by decide) rfl rfl lm_X8_291 li_X1_apart ls_X1_apart ini_X1 lc_X1_apart hd_X1_apart (by decide) (Nat.le_of_ble_eq_true rfl) (by decide) rfl dX8_seek_193 (fun r_24 σ_25 hh => ?_)
        clear h
        obtain ⟨e9, h⟩ := hh
        subst σ_25
        refine J_iln F 3 dX8_seek_196 rfl rfl ?_
        refine J_ic F dX8_seek_197 ki_3 ?_
        refine J_cne F (tgt := 205) dX8_seek_198 (by decide) (fun c_26 => ?_) (fun c_26 => ?_)
        · have h := h.1 c_26
          refine J_ic F dX8_seek_205 ki_0 ?_
          refine J_sub [] rfl ?_
          exact wk_X8_seek_206 F hl hT h
        · have h := h.2 c_26
          refine J_ic F dX8_seek_201 ki_1 ?_
          refine J_goto F (tgt := 206) dX8_seek_202 (by decide) ?_
          refine J_sub [] rfl ?_
          exact wk_X8_seek_206 F hl hT h
set_option maxRecDepth 20000 in
set_option maxHeartbeats 4000000 in
theorem wk_X8_seek_21 {p : Program} {l : Launch} {e : Env} {s : State} {m : MethodId} {args : Array Value} {below : List Frame} {meth : Method} {c : Code} {G : Gp} {x1 : Int32} {x2 : Int32} {x3 : Int32}  {Q : Int32 → St → Prop} {QX : String → St → Prop} (F : FX p s m args meth c cX8_seek 5 (some .int) RX8 G) (hl : l.stackTraces = false) (hT : ∀ x ∈ c.exceptionTable.toList, False)   : ∀ (n9 : Nat) (σ : St) (x4 : Int32), LP2 (wp_X8_seek_21 x1 x2 x3 Q QX) n9 σ x4 → J p l e (rmX 7 121 4 24) s m args below meth c 5 G (vx_MQ below (QQ G (qI Q)) (XX G QX) args s 4 24 (fr G)) 4 24 21 [(0, .ref (gb G + 0)), (1, .int x1), (2, .int x2), (3, .int x3), (4, .int x4)] [] σ := by
  intro n9
  induction n9 with
  | zero => intro σ x4 h; exact h.elim
  | succ n9 i21 =>
    intro σ x4 h
    have h : wp_X8_seek_21 x1 x2 x3 Q QX (LP2 (wp_X8_seek_21 x1 x2 x3 Q QX) n9) σ x4 := h
    unfold wp_X8_seek_21 at h
    refine J_il F 4 dX8_seek_21 rfl ?_
    refine J_aln F 0 dX8_seek_23 rfl rfl ?_
    refine J_gfm F (ci := 8) 8 rfl inX8 ly_0 (by decide) (by decide) rfl lf_X8_66 rfl dX8_seek_24 ?_
    obtain ⟨h_27, h⟩ := h
    refine J_gfi F (ci := 1) 9 rfl inX1 h_27 (by decide) (by decide) rfl lf_X8_279 rfl dX8_seek_27 ?_
    refine J_cge F (tgt := 102) dX8_seek_30 (by decide) (fun c_28 => ?_) (fun c_28 => ?_)
    · have h := h.1 c_28
      refine J_sub [0, 1, 2, 3] rfl ?_
      exact wk_X8_seek_102 F hl hT h
    · have h := h.2 c_28
      refine J_aln F 0 dX8_seek_33 rfl rfl ?_
      refine J_gfm F (ci := 8) 8 rfl inX8 ly_0 (by decide) (by decide) rfl lf_X8_66 rfl dX8_seek_34 ?_
      obtain ⟨h_29, h⟩ := h
      refine J_iln F 2 dX8_seek_37 rfl rfl ?_
      refine J_il F 4 dX8_seek_38 rfl ?_
      refine J_callVi F (As := [.int x2, .int x4]) (st := []) (C_X1_isHeld l G ((σ 0 8).toNatClampNeg) x2 x4 h_29 h) (ci := 1) h_29 (by decide) rfl rfl lm_X8_282 li_X1_isHeld ls_X1_isHeld ini_X1 lc_X1_isHeld hd_X1_isHeld (by decide) (Nat.le_of_ble_eq_true rfl) (by decide) rfl dX8_seek_40 (fun r_30 σ_31 hh => ?_)
      clear h
      obtain ⟨e9, h⟩ := hh
      subst σ_31
      refine J_zeq F (tgt := 96) dX8_seek_43 (by decide) (fun c_32 => ?_) (fun c_32 => ?_)
      · have h := h.1 c_32
        obtain ⟨x4_33, ex4_33⟩ : ∃ z : Int32, z = x4 + (nI 1) := ⟨_, rfl⟩
        have h := h x4_33 ex4_33
        refine J_iinc F (v := x4_33) (L' := [(4, .int x4_33), (0, .ref (gb G + 0)), (1, .int x1), (2, .int x2), (3, .int x3)]) 4 dX8_seek_96 rfl (by rw [ki_1, ex4_33]) (by decide) rfl ?_
        refine J_goto F (tgt := 21) dX8_seek_99 (by decide) ?_
        refine J_sub [1, 2, 3, 4, 0] rfl ?_
        exact i21 _ _ h
      · have h := h.2 c_32
        refine J_aln F 0 dX8_seek_46 rfl rfl ?_
        refine J_gfa F (ci := 8) 4 rfl inX8 ly_0 (by decide) (by decide) rfl lf_X8_42 rfl dX8_seek_47 ?_
        refine J_aln F 0 dX8_seek_50 rfl rfl ?_
        refine J_gfm F (ci := 8) 8 rfl inX8 ly_0 (by decide) (by decide) rfl lf_X8_66 rfl dX8_seek_51 ?_
        obtain ⟨h_34, h⟩ := h
        refine J_gfr F (ci := 1) 0 rfl inX1 h_34 (by decide) (by decide) rfl lf_X8_187 rfl dX8_seek_54 ?_
        refine J_il F 4 dX8_seek_57 rfl ?_
        obtain ⟨h_35, h⟩ := h
        refine J_aldS F (lay_net h_34).1 h_35 dX8_seek_59 ?_
        refine J_il F 4 dX8_seek_60 rfl ?_
        refine J_callVv F (As := [.ref (gb G + ((σ 0 8).toNatClampNeg + 1 + 8 + 4 * Int32.toNatClampNeg x4)), .int x4]) (st := []) (C_X7_lookBeside l G ((σ 0 8).toNatClampNeg + 1 + 8 + 4 * Int32.toNatClampNeg x4) x4 (lay_sp h_34 h_35) h) (ci := 7) ly_176 (by decide) rfl rfl lm_X8_199 li_X7_lookBeside ls_X7_lookBeside ini_X7 lc_X7_lookBeside hd_X7_lookBeside (by decide) (Nat.le_of_ble_eq_true rfl) (by decide) rfl dX8_seek_62 (fun σ_36 h => ?_)
        refine J_aln F 0 dX8_seek_65 rfl rfl ?_
        refine J_gfa F (ci := 8) 4 rfl inX8 ly_0 (by decide) (by decide) rfl lf_X8_42 rfl dX8_seek_66 ?_
        refine J_aln F 0 dX8_seek_69 rfl rfl ?_
        refine J_gfm F (ci := 8) 8 rfl inX8 ly_0 (by decide) (by decide) rfl lf_X8_66 rfl dX8_seek_70 ?_
        obtain ⟨h_37, h⟩ := h
        refine J_gfr F (ci := 1) 0 rfl inX1 h_37 (by decide) (by decide) rfl lf_X8_187 rfl dX8_seek_73 ?_
        refine J_il F 4 dX8_seek_76 rfl ?_
        obtain ⟨h_38, h⟩ := h
        refine J_aldS F (lay_net h_37).1 h_38 dX8_seek_78 ?_
        refine J_il F 4 dX8_seek_79 rfl ?_
        refine J_iln F 2 dX8_seek_81 rfl rfl ?_
        refine J_il F 4 dX8_seek_82 rfl ?_
        refine J_callSi F (As := [.int x2, .int x4]) (st := [.int x4, .ref (gb G + ((σ_36 0 8).toNatClampNeg + 1 + 8 + 4 * Int32.toNatClampNeg x4)), .ref (gb G + 176)]) (C_X1_pointX l G x2 x4  h) lm_X8_255 li_X1_pointX ini_X1 lc_X1_pointX hd_X1_pointX (by decide) (Nat.le_of_ble_eq_true rfl) (by decide) rfl dX8_seek_84 (fun r_39 σ_40 hh => ?_)
        clear h
        obtain ⟨e9, h⟩ := hh
        subst σ_40
        refine J_iln F 2 dX8_seek_87 rfl rfl ?_
        refine J_il F 4 dX8_seek_88 rfl ?_
        refine J_callSi F (As := [.int x2, .int x4]) (st := [.int r_39, .int x4, .ref (gb G + ((σ_36 0 8).toNatClampNeg + 1 + 8 + 4 * Int32.toNatClampNeg x4)), .ref (gb G + 176)]) (C_X1_pointY l G x2 x4  h) lm_X8_258 li_X1_pointY ini_X1 lc_X1_pointY hd_X1_pointY (by decide) (Nat.le_of_ble_eq_true rfl) (by decide) rfl dX8_seek_90 (fun r_41 σ_42 hh => ?_)
        clear h
        obtain ⟨e9, h⟩ := hh
        subst σ_42
        refine J_callVv F (As := [.ref (gb G + ((σ_36 0 8).toNatClampNeg + 1 + 8 + 4 * Int32.toNatClampNeg x4)), .int x4, .int r_39, .int r_41]) (st := []) (C_X7_lookFar l G ((σ_36 0 8).toNatClampNeg + 1 + 8 + 4 * Int32.toNatClampNeg x4) x4 r_39 r_41 (lay_sp h_37 h_38) h) (ci := 7) ly_176 (by decide) rfl rfl lm_X8_264 li_X7_lookFar ls_X7_lookFar ini_X7 lc_X7_lookFar hd_X7_lookFar (by decide) (Nat.le_of_ble_eq_true rfl) (by decide) rfl dX8_seek_93 (fun σ_43 h => ?_)
        obtain ⟨x4_44, ex4_44⟩ : ∃ z : Int32, z = x4 + (nI 1) := ⟨_, rfl⟩
        have h := h x4_44 ex4_44
        refine J_iinc F (v := x4_44) (L' := [(4, .int x4_44), (0, .ref (gb G + 0)), (1, .int x1), (2, .int x2), (3, .int x3)]) 4 dX8_seek_96 rfl (by rw [ki_1, ex4_44]) (by decide) rfl ?_
        refine J_goto F (tgt := 21) dX8_seek_99 (by decide) ?_
        refine J_sub [1, 2, 3, 4, 0] rfl ?_
        exact i21 _ _ h
set_option maxRecDepth 20000 in
set_option maxHeartbeats 4000000 in
theorem C_X8_seek (l : Launch) (hl : l.stackTraces = false) (G : Gp) (x1 : Int32) (x2 : Int32) (x3 : Int32)  {σ : St} {Q : Int32 → St → Prop} {QX : String → St → Prop} (h : wp_X8_seek σ x1 x2 x3 QX Q) : CnX l yX8_seek cX8_seek 5 (some .int) 7 121 4 24 G [.ref (gb G + 0), .int x1, .int x2, .int x3] σ (qI Q) QX := by
  refine CnX_of (L := [(0, .ref (gb G + 0)), (1, .int x1), (2, .int x2), (3, .int x3)]) RX8 (by decide) rfl (Nat.le_of_ble_eq_true rfl) rfl ?_
  intro p e s m below meth c F hT
  unfold wp_X8_seek at h
  refine J_iln F 1 dX8_seek_0 rfl rfl ?_
  refine J_xcallSv F (As := [.int x1]) (st := []) (C_X8_checkNode l hl G x1  h) lm_X8_146 li_X8_checkNode ini_X8 lc_X8_checkNode hd_X8_checkNode (by decide) (Nat.le_of_ble_eq_true rfl) (by decide) (by decide) hT (fun E σ' h => h) rfl dX8_seek_1 (fun σ_45 hh => ?_)
  clear h
  obtain ⟨e9, h⟩ := hh
  subst σ_45
  refine J_iln F 2 dX8_seek_4 rfl rfl ?_
  refine J_xcallSv F (As := [.int x2]) (st := []) (C_X8_checkKey l hl G x2  h) lm_X8_153 li_X8_checkKey ini_X8 lc_X8_checkKey hd_X8_checkKey (by decide) (Nat.le_of_ble_eq_true rfl) (by decide) (by decide) hT (fun E σ' h => h) rfl dX8_seek_5 (fun σ_46 hh => ?_)
  clear h
  obtain ⟨e9, h⟩ := hh
  subst σ_46
  refine J_iln F 3 dX8_seek_8 rfl rfl ?_
  refine J_ic F dX8_seek_9 ki_5 ?_
  refine J_xcallSv F (As := [.int x3, .int (nI 5)]) (st := []) (C_X8_checkWhat l hl G x3 (nI 5)  h) lm_X8_149 li_X8_checkWhat ini_X8 lc_X8_checkWhat hd_X8_checkWhat (by decide) (Nat.le_of_ble_eq_true rfl) (by decide) (by decide) hT (fun E σ' h => h) rfl dX8_seek_10 (fun σ_47 hh => ?_)
  clear h
  obtain ⟨e9, h⟩ := hh
  subst σ_47
  refine J_aln F 0 dX8_seek_13 rfl rfl ?_
  refine J_iln F 1 dX8_seek_14 rfl rfl ?_
  refine J_xcallVv F (As := [.int x1]) (st := []) (C_X8_checkUp l hl G x1  h) (ci := 8) ly_0 (by decide) rfl rfl lm_X8_261 li_X8_checkUp ls_X8_checkUp ini_X8 lc_X8_checkUp hd_X8_checkUp (by decide) (Nat.le_of_ble_eq_true rfl) (by decide) (by decide) hT (fun E σ' h => h) rfl dX8_seek_15 (fun σ_48 hh => ?_)
  clear h
  obtain ⟨e9, h⟩ := hh
  subst σ_48
  refine J_ic F dX8_seek_18 ki_0 ?_
  refine J_is F (L' := [(4, .int (nI 0)), (0, .ref (gb G + 0)), (1, .int x1), (2, .int x2), (3, .int x3)]) dX8_seek_19 (by decide) rfl ?_
  refine J_sub [1, 2, 3, 4, 0] rfl ?_
  obtain ⟨n9, h⟩ := h
  exact wk_X8_seek_21 F hl hT n9 _ _ h
theorem dX8_risk_0 : decode cX8_risk 0 = .ok (.iload_n 1, 1) := by decide +kernel
theorem dX8_risk_1 : decode cX8_risk 1 = .ok (.invokestatic 146, 3) := by decide +kernel
theorem dX8_risk_4 : decode cX8_risk 4 = .ok (.iconst 0, 1) := by decide +kernel
theorem dX8_risk_5 : decode cX8_risk 5 = .ok (.istore_n 2, 1) := by decide +kernel
theorem dX8_risk_6 : decode cX8_risk 6 = .ok (.iconst 0, 1) := by decide +kernel
theorem dX8_risk_7 : decode cX8_risk 7 = .ok (.istore_n 3, 1) := by decide +kernel
theorem dX8_risk_8 : decode cX8_risk 8 = .ok (.iload_n 3, 1) := by decide +kernel
theorem dX8_risk_9 : decode cX8_risk 9 = .ok (.bipush 100, 2) := by decide +kernel
theorem dX8_risk_11 : decode cX8_risk 11 = .ok (.if_icmp .ge 24, 3) := by decide +kernel
theorem dX8_risk_14 : decode cX8_risk 14 = .ok (.aload_n 0, 1) := by decide +kernel
theorem dX8_risk_15 : decode cX8_risk 15 = .ok (.getfield 66, 3) := by decide +kernel
theorem dX8_risk_18 : decode cX8_risk 18 = .ok (.iload_n 3, 1) := by decide +kernel
theorem dX8_risk_19 : decode cX8_risk 19 = .ok (.iload_n 1, 1) := by decide +kernel
theorem dX8_risk_20 : decode cX8_risk 20 = .ok (.invokevirtual 301, 3) := by decide +kernel
theorem dX8_risk_23 : decode cX8_risk 23 = .ok (.ifCond .eq 6, 3) := by decide +kernel
theorem dX8_risk_26 : decode cX8_risk 26 = .ok (.iinc 2 1, 3) := by decide +kernel
theorem dX8_risk_29 : decode cX8_risk 29 = .ok (.iinc 3 1, 3) := by decide +kernel
theorem dX8_risk_32 : decode cX8_risk 32 = .ok (.goto (-24), 3) := by decide +kernel
theorem dX8_risk_35 : decode cX8_risk 35 = .ok (.iload_n 2, 1) := by decide +kernel
theorem dX8_risk_36 : decode cX8_risk 36 = .ok (.ireturn, 1) := by decide +kernel
set_option maxRecDepth 20000 in
set_option maxHeartbeats 4000000 in
theorem wk_X8_risk_8 {p : Program} {l : Launch} {e : Env} {s : State} {m : MethodId} {args : Array Value} {below : List Frame} {meth : Method} {c : Code} {G : Gp} {σ : St} {x1 : Int32}  {Q : Int32 → Prop} {QX : String → St → Prop} (F : FX p s m args meth c cX8_risk 4 (some .int) RX8 G) (hl : l.stackTraces = false) (hT : ∀ x ∈ c.exceptionTable.toList, False)   : ∀ (n9 : Nat) (x2 : Int32) (x3 : Int32), LP2 (wp_X8_risk_8 σ x1 Q QX) n9 x2 x3 → J p l e (rmX 7 120 1 6) s m args below meth c 4 G (vx_MQ below (QQ G (qI (fun r σ' => σ' = σ ∧ Q r))) (XX G QX) args s 1 6 (fr G)) 1 6 8 [(0, .ref (gb G + 0)), (1, .int x1), (2, .int x2), (3, .int x3)] [] σ := by
  intro n9
  induction n9 with
  | zero => intro x2 x3 h; exact h.elim
  | succ n9 i8 =>
    intro x2 x3 h
    have h : wp_X8_risk_8 σ x1 Q QX (LP2 (wp_X8_risk_8 σ x1 Q QX) n9) x2 x3 := h
    unfold wp_X8_risk_8 at h
    refine J_iln F 3 dX8_risk_8 rfl rfl ?_
    refine J_bi F dX8_risk_9 kb_100 ?_
    refine J_cge F (tgt := 35) dX8_risk_11 (by decide) (fun c_1 => ?_) (fun c_1 => ?_)
    · have h := h.1 c_1
      refine J_iln F 2 dX8_risk_35 rfl rfl ?_
      exact J_retiX F (by decide) (by decide) ⟨_, rfl, rfl, h⟩ dX8_risk_36
    · have h := h.2 c_1
      refine J_aln F 0 dX8_risk_14 rfl rfl ?_
      refine J_gfm F (ci := 8) 8 rfl inX8 ly_0 (by decide) (by decide) rfl lf_X8_66 rfl dX8_risk_15 ?_
      obtain ⟨h_2, h⟩ := h
      refine J_iln F 3 dX8_risk_18 rfl rfl ?_
      refine J_iln F 1 dX8_risk_19 rfl rfl ?_
      refine J_callVi F (As := [.int x3, .int x1]) (st := []) (C_X1_isHeldByNoneBut l G ((σ 0 8).toNatClampNeg) x3 x1 h_2 h) (ci := 1) h_2 (by decide) rfl rfl lm_X8_301 li_X1_isHeldByNoneBut ls_X1_isHeldByNoneBut ini_X1 lc_X1_isHeldByNoneBut hd_X1_isHeldByNoneBut (by decide) (Nat.le_of_ble_eq_true rfl) (by decide) rfl dX8_risk_20 (fun r_3 σ_4 hh => ?_)
      clear h
      obtain ⟨e9, h⟩ := hh
      subst σ_4
      refine J_zeq F (tgt := 29) dX8_risk_23 (by decide) (fun c_5 => ?_) (fun c_5 => ?_)
      · have h := h.1 c_5
        obtain ⟨x3_6, ex3_6⟩ : ∃ z : Int32, z = x3 + (nI 1) := ⟨_, rfl⟩
        have h := h x3_6 ex3_6
        refine J_iinc F (v := x3_6) (L' := [(3, .int x3_6), (0, .ref (gb G + 0)), (1, .int x1), (2, .int x2)]) 3 dX8_risk_29 rfl (by rw [ki_1, ex3_6]) (by decide) rfl ?_
        refine J_goto F (tgt := 8) dX8_risk_32 (by decide) ?_
        refine J_sub [1, 2, 3, 0] rfl ?_
        exact i8 _ _ h
      · have h := h.2 c_5
        obtain ⟨x2_7, ex2_7⟩ : ∃ z : Int32, z = x2 + (nI 1) := ⟨_, rfl⟩
        have h := h x2_7 ex2_7
        refine J_iinc F (v := x2_7) (L' := [(2, .int x2_7), (0, .ref (gb G + 0)), (1, .int x1), (3, .int x3)]) 2 dX8_risk_26 rfl (by rw [ki_1, ex2_7]) (by decide) rfl ?_
        obtain ⟨x3_8, ex3_8⟩ : ∃ z : Int32, z = x3 + (nI 1) := ⟨_, rfl⟩
        have h := h x3_8 ex3_8
        refine J_iinc F (v := x3_8) (L' := [(3, .int x3_8), (2, .int x2_7), (0, .ref (gb G + 0)), (1, .int x1)]) 3 dX8_risk_29 rfl (by rw [ki_1, ex3_8]) (by decide) rfl ?_
        refine J_goto F (tgt := 8) dX8_risk_32 (by decide) ?_
        refine J_sub [2, 3, 1, 0] rfl ?_
        exact i8 _ _ h
set_option maxRecDepth 20000 in
set_option maxHeartbeats 4000000 in
theorem C_X8_risk (l : Launch) (hl : l.stackTraces = false) (G : Gp) (x1 : Int32)  {σ : St} {Q : Int32 → Prop} {QX : String → St → Prop} (h : wp_X8_risk σ x1 QX Q) : CnX l yX8_risk cX8_risk 4 (some .int) 7 120 1 6 G [.ref (gb G + 0), .int x1] σ (qI (fun r σ' => σ' = σ ∧ Q r)) QX := by
  refine CnX_of (L := [(0, .ref (gb G + 0)), (1, .int x1)]) RX8 (by decide) rfl (Nat.le_of_ble_eq_true rfl) rfl ?_
  intro p e s m below meth c F hT
  unfold wp_X8_risk at h
  refine J_iln F 1 dX8_risk_0 rfl rfl ?_
  refine J_xcallSv F (As := [.int x1]) (st := []) (C_X8_checkNode l hl G x1  h) lm_X8_146 li_X8_checkNode ini_X8 lc_X8_checkNode hd_X8_checkNode (by decide) (Nat.le_of_ble_eq_true rfl) (by decide) (by decide) hT (fun E σ' h => h) rfl dX8_risk_1 (fun σ_9 hh => ?_)
  clear h
  obtain ⟨e9, h⟩ := hh
  subst σ_9
  refine J_ic F dX8_risk_4 ki_0 ?_
  refine J_isn F (L' := [(2, .int (nI 0)), (0, .ref (gb G + 0)), (1, .int x1)]) dX8_risk_5 rfl (by decide) rfl ?_
  refine J_ic F dX8_risk_6 ki_0 ?_
  refine J_isn F (L' := [(3, .int (nI 0)), (2, .int (nI 0)), (0, .ref (gb G + 0)), (1, .int x1)]) dX8_risk_7 rfl (by decide) rfl ?_
  refine J_sub [2, 3, 1, 0] rfl ?_
  obtain ⟨n9, h⟩ := h
  exact wk_X8_risk_8 F hl hT n9 _ _ h
theorem dX8_order_0 : decode cX8_order 0 = .ok (.iload_n 1, 1) := by decide +kernel
theorem dX8_order_1 : decode cX8_order 1 = .ok (.iload_n 2, 1) := by decide +kernel
theorem dX8_order_2 : decode cX8_order 2 = .ok (.invokestatic 128, 3) := by decide +kernel
theorem dX8_order_5 : decode cX8_order 5 = .ok (.ifCond .ne 13, 3) := by decide +kernel
theorem dX8_order_8 : decode cX8_order 8 = .ok (.new 110, 3) := by decide +kernel
theorem dX8_order_11 : decode cX8_order 11 = .ok (.dup, 1) := by decide +kernel
theorem dX8_order_12 : decode cX8_order 12 = .ok (.ldc 144, 2) := by decide +kernel
theorem dX8_order_14 : decode cX8_order 14 = .ok (.invokespecial 114, 3) := by decide +kernel
theorem dX8_order_17 : decode cX8_order 17 = .ok (.athrow, 1) := by decide +kernel
theorem dX8_order_18 : decode cX8_order 18 = .ok (.aload_n 0, 1) := by decide +kernel
theorem dX8_order_19 : decode cX8_order 19 = .ok (.getfield 66, 3) := by decide +kernel
theorem dX8_order_22 : decode cX8_order 22 = .ok (.iload_n 1, 1) := by decide +kernel
theorem dX8_order_23 : decode cX8_order 23 = .ok (.iload_n 2, 1) := by decide +kernel
theorem dX8_order_24 : decode cX8_order 24 = .ok (.invokevirtual 304, 3) := by decide +kernel
theorem dX8_order_27 : decode cX8_order 27 = .ok (.ireturn, 1) := by decide +kernel
set_option maxRecDepth 20000 in
set_option maxHeartbeats 4000000 in
theorem C_X8_order (l : Launch) (hl : l.stackTraces = false) (G : Gp) (x1 : Int32) (x2 : Int32)  {σ : St} {Q : Int32 → Prop} {QX : String → St → Prop} (h : wp_X8_order σ x1 x2 QX Q) : CnX l yX8_order cX8_order 3 (some .int) 6 100 1 6 G [.ref (gb G + 0), .int x1, .int x2] σ (qI (fun r σ' => σ' = σ ∧ Q r)) QX := by
  refine CnX_of (L := [(0, .ref (gb G + 0)), (1, .int x1), (2, .int x2)]) RX8 (by decide) rfl (Nat.le_of_ble_eq_true rfl) rfl ?_
  intro p e s m below meth c F hT
  unfold wp_X8_order at h
  refine J_iln F 1 dX8_order_0 rfl rfl ?_
  refine J_iln F 2 dX8_order_1 rfl rfl ?_
  refine J_callSi F (As := [.int x1, .int x2]) (st := []) (C_X8_isPlace l G x1 x2  h) lm_X8_128 li_X8_isPlace ini_X8 lc_X8_isPlace hd_X8_isPlace (by decide) (Nat.le_of_ble_eq_true rfl) (by decide) rfl dX8_order_2 (fun r_1 σ_2 hh => ?_)
  clear h
  obtain ⟨e9, h⟩ := hh
  subst σ_2
  refine J_zne F (tgt := 18) dX8_order_5 (by decide) (fun c_3 => ?_) (fun c_3 => ?_)
  · have h := h.1 c_3
    refine J_aln F 0 dX8_order_18 rfl rfl ?_
    refine J_gfm F (ci := 8) 8 rfl inX8 ly_0 (by decide) (by decide) rfl lf_X8_66 rfl dX8_order_19 ?_
    obtain ⟨h_4, h⟩ := h
    refine J_iln F 1 dX8_order_22 rfl rfl ?_
    refine J_iln F 2 dX8_order_23 rfl rfl ?_
    refine J_callVi F (As := [.int x1, .int x2]) (st := []) (C_X1_orderOf l G ((σ 0 8).toNatClampNeg) x1 x2 h_4 h) (ci := 1) h_4 (by decide) rfl rfl lm_X8_304 li_X1_orderOf ls_X1_orderOf ini_X1 lc_X1_orderOf hd_X1_orderOf (by decide) (Nat.le_of_ble_eq_true rfl) (by decide) rfl dX8_order_24 (fun r_5 σ_6 hh => ?_)
    clear h
    obtain ⟨e9, h⟩ := hh
    subst σ_6
    exact J_retiX F (by decide) (by decide) ⟨_, rfl, rfl, h⟩ dX8_order_27
  · have h := h.2 c_3
    exact J_throw hl F hT th_X8_110_144 (by decide) (Nat.le_of_ble_eq_true rfl) (by decide) (by decide) h dX8_order_8 dX8_order_11 dX8_order_12 dX8_order_14 dX8_order_17
theorem dX8_reality_0 : decode cX8_reality 0 = .ok (.aload_n 0, 1) := by decide +kernel
theorem dX8_reality_1 : decode cX8_reality 1 = .ok (.iload_n 1, 1) := by decide +kernel
theorem dX8_reality_2 : decode cX8_reality 2 = .ok (.invokevirtual 184, 3) := by decide +kernel
theorem dX8_reality_5 : decode cX8_reality 5 = .ok (.iload_n 2, 1) := by decide +kernel
theorem dX8_reality_6 : decode cX8_reality 6 = .ok (.bipush 6, 2) := by decide +kernel
theorem dX8_reality_8 : decode cX8_reality 8 = .ok (.invokestatic 149, 3) := by decide +kernel
theorem dX8_reality_11 : decode cX8_reality 11 = .ok (.iload_n 2, 1) := by decide +kernel
theorem dX8_reality_12 : decode cX8_reality 12 = .ok (.tableswitch 123 0 4 #[36, 49, 70, 76, 110], 36) := by decide +kernel
theorem dX8_reality_48 : decode cX8_reality 48 = .ok (.aload_n 0, 1) := by decide +kernel
theorem dX8_reality_49 : decode cX8_reality 49 = .ok (.getfield 66, 3) := by decide +kernel
theorem dX8_reality_52 : decode cX8_reality 52 = .ok (.getfield 187, 3) := by decide +kernel
theorem dX8_reality_55 : decode cX8_reality 55 = .ok (.iload_n 1, 1) := by decide +kernel
theorem dX8_reality_56 : decode cX8_reality 56 = .ok (.aaload, 1) := by decide +kernel
theorem dX8_reality_57 : decode cX8_reality 57 = .ok (.invokevirtual 307, 3) := by decide +kernel
theorem dX8_reality_60 : decode cX8_reality 60 = .ok (.ireturn, 1) := by decide +kernel
theorem dX8_reality_61 : decode cX8_reality 61 = .ok (.aload_n 0, 1) := by decide +kernel
theorem dX8_reality_62 : decode cX8_reality 62 = .ok (.getfield 66, 3) := by decide +kernel
theorem dX8_reality_65 : decode cX8_reality 65 = .ok (.getfield 187, 3) := by decide +kernel
theorem dX8_reality_68 : decode cX8_reality 68 = .ok (.iload_n 1, 1) := by decide +kernel
theorem dX8_reality_69 : decode cX8_reality 69 = .ok (.aaload, 1) := by decide +kernel
theorem dX8_reality_70 : decode cX8_reality 70 = .ok (.aload_n 0, 1) := by decide +kernel
theorem dX8_reality_71 : decode cX8_reality 71 = .ok (.getfield 66, 3) := by decide +kernel
theorem dX8_reality_74 : decode cX8_reality 74 = .ok (.iconst 1, 1) := by decide +kernel
theorem dX8_reality_75 : decode cX8_reality 75 = .ok (.invokevirtual 243, 3) := by decide +kernel
theorem dX8_reality_78 : decode cX8_reality 78 = .ok (.invokevirtual 310, 3) := by decide +kernel
theorem dX8_reality_81 : decode cX8_reality 81 = .ok (.ireturn, 1) := by decide +kernel
theorem dX8_reality_82 : decode cX8_reality 82 = .ok (.aload_n 0, 1) := by decide +kernel
theorem dX8_reality_83 : decode cX8_reality 83 = .ok (.iload_n 1, 1) := by decide +kernel
theorem dX8_reality_84 : decode cX8_reality 84 = .ok (.invokevirtual 210, 3) := by decide +kernel
theorem dX8_reality_87 : decode cX8_reality 87 = .ok (.ireturn, 1) := by decide +kernel
theorem dX8_reality_88 : decode cX8_reality 88 = .ok (.aload_n 0, 1) := by decide +kernel
theorem dX8_reality_89 : decode cX8_reality 89 = .ok (.getfield 51, 3) := by decide +kernel
theorem dX8_reality_92 : decode cX8_reality 92 = .ok (.aload_n 0, 1) := by decide +kernel
theorem dX8_reality_93 : decode cX8_reality 93 = .ok (.getfield 66, 3) := by decide +kernel
theorem dX8_reality_96 : decode cX8_reality 96 = .ok (.getfield 187, 3) := by decide +kernel
theorem dX8_reality_99 : decode cX8_reality 99 = .ok (.iload_n 1, 1) := by decide +kernel
theorem dX8_reality_100 : decode cX8_reality 100 = .ok (.aaload, 1) := by decide +kernel
theorem dX8_reality_101 : decode cX8_reality 101 = .ok (.iload_n 1, 1) := by decide +kernel
theorem dX8_reality_102 : decode cX8_reality 102 = .ok (.aload_n 0, 1) := by decide +kernel
theorem dX8_reality_103 : decode cX8_reality 103 = .ok (.getfield 66, 3) := by decide +kernel
theorem dX8_reality_106 : decode cX8_reality 106 = .ok (.iconst 1, 1) := by decide +kernel
theorem dX8_reality_107 : decode cX8_reality 107 = .ok (.invokevirtual 243, 3) := by decide +kernel
theorem dX8_reality_110 : decode cX8_reality 110 = .ok (.iconst 0, 1) := by decide +kernel
theorem dX8_reality_111 : decode cX8_reality 111 = .ok (.invokevirtual 313, 3) := by decide +kernel
theorem dX8_reality_114 : decode cX8_reality 114 = .ok (.aload_n 0, 1) := by decide +kernel
theorem dX8_reality_115 : decode cX8_reality 115 = .ok (.getfield 51, 3) := by decide +kernel
theorem dX8_reality_118 : decode cX8_reality 118 = .ok (.getfield 317, 3) := by decide +kernel
theorem dX8_reality_121 : decode cX8_reality 121 = .ok (.ireturn, 1) := by decide +kernel
theorem dX8_reality_122 : decode cX8_reality 122 = .ok (.aload_n 0, 1) := by decide +kernel
theorem dX8_reality_123 : decode cX8_reality 123 = .ok (.getfield 66, 3) := by decide +kernel
theorem dX8_reality_126 : decode cX8_reality 126 = .ok (.getfield 187, 3) := by decide +kernel
theorem dX8_reality_129 : decode cX8_reality 129 = .ok (.iload_n 1, 1) := by decide +kernel
theorem dX8_reality_130 : decode cX8_reality 130 = .ok (.aaload, 1) := by decide +kernel
theorem dX8_reality_131 : decode cX8_reality 131 = .ok (.invokevirtual 320, 3) := by decide +kernel
theorem dX8_reality_134 : decode cX8_reality 134 = .ok (.ireturn, 1) := by decide +kernel
theorem dX8_reality_135 : decode cX8_reality 135 = .ok (.aload_n 0, 1) := by decide +kernel
theorem dX8_reality_136 : decode cX8_reality 136 = .ok (.getfield 66, 3) := by decide +kernel
theorem dX8_reality_139 : decode cX8_reality 139 = .ok (.iload_n 1, 1) := by decide +kernel
theorem dX8_reality_140 : decode cX8_reality 140 = .ok (.invokevirtual 323, 3) := by decide +kernel
theorem dX8_reality_143 : decode cX8_reality 143 = .ok (.ireturn, 1) := by decide +kernel
set_option maxRecDepth 20000 in
set_option maxHeartbeats 4000000 in
theorem C_X8_reality (l : Launch) (hl : l.stackTraces = false) (G : Gp) (x1 : Int32) (x2 : Int32)  {σ : St} {Q : Int32 → St → Prop} {QX : String → St → Prop} (h : wp_X8_reality σ x1 x2 QX Q) : CnX l yX8_reality cX8_reality 3 (some .int) 7 133 2 12 G [.ref (gb G + 0), .int x1, .int x2] σ (qI Q) QX := by
  refine CnX_of (L := [(0, .ref (gb G + 0)), (1, .int x1), (2, .int x2)]) RX8 (by decide) rfl (Nat.le_of_ble_eq_true rfl) rfl ?_
  intro p e s m below meth c F hT
  unfold wp_X8_reality at h
  refine J_aln F 0 dX8_reality_0 rfl rfl ?_
  refine J_iln F 1 dX8_reality_1 rfl rfl ?_
  refine J_xcallVv F (As := [.int x1]) (st := []) (C_X8_checkReality l hl G x1  h) (ci := 8) ly_0 (by decide) rfl rfl lm_X8_184 li_X8_checkReality ls_X8_checkReality ini_X8 lc_X8_checkReality hd_X8_checkReality (by decide) (Nat.le_of_ble_eq_true rfl) (by decide) (by decide) hT (fun E σ' h => h) rfl dX8_reality_2 (fun σ_1 hh => ?_)
  clear h
  obtain ⟨e9, h⟩ := hh
  subst σ_1
  refine J_iln F 2 dX8_reality_5 rfl rfl ?_
  refine J_bi F dX8_reality_6 kb_6 ?_
  refine J_xcallSv F (As := [.int x2, .int (nI 6)]) (st := []) (C_X8_checkWhat l hl G x2 (nI 6)  h) lm_X8_149 li_X8_checkWhat ini_X8 lc_X8_checkWhat hd_X8_checkWhat (by decide) (Nat.le_of_ble_eq_true rfl) (by decide) (by decide) hT (fun E σ' h => h) rfl dX8_reality_8 (fun σ_2 hh => ?_)
  clear h
  obtain ⟨e9, h⟩ := hh
  subst σ_2
  refine J_iln F 2 dX8_reality_11 rfl rfl ?_
  refine J_case (v := nI 0) (fun c_4 => ?_) (fun c_4 => ?_)
  · have h := h.1 c_4
    refine J_tabIn F (off := 36) (tgt := 48) dX8_reality_12 (by decide) (by decide) (by decide) (by decide) ?_
    refine J_aln F 0 dX8_reality_48 rfl rfl ?_
    refine J_gfm F (ci := 8) 8 rfl inX8 ly_0 (by decide) (by decide) rfl lf_X8_66 rfl dX8_reality_49 ?_
    obtain ⟨h_5, h⟩ := h
    refine J_gfr F (ci := 1) 0 rfl inX1 h_5 (by decide) (by decide) rfl lf_X8_187 rfl dX8_reality_52 ?_
    refine J_iln F 1 dX8_reality_55 rfl rfl ?_
    obtain ⟨h_6, h⟩ := h
    refine J_aldS F (lay_net h_5).1 h_6 dX8_reality_56 ?_
    refine J_callVi F (As := []) (st := []) (C_X4_zonesOfAll l G ((σ 0 8).toNatClampNeg + 1 + 8 + 4 * Int32.toNatClampNeg x1) (lay_sp h_5 h_6) h) (ci := 4) (lay_sp h_5 h_6) (by decide) rfl rfl lm_X8_307 li_X4_zonesOfAll ls_X4_zonesOfAll ini_X4 lc_X4_zonesOfAll hd_X4_zonesOfAll (by decide) (Nat.le_of_ble_eq_true rfl) (by decide) rfl dX8_reality_57 (fun r_7 σ_8 hh => ?_)
    clear h
    obtain ⟨e9, h⟩ := hh
    subst σ_8
    exact J_retiX F (by decide) (by decide) ⟨_, rfl, h⟩ dX8_reality_60
  · have h := h.2 c_4
    refine J_case (v := nI 1) (fun c_9 => ?_) (fun c_9 => ?_)
    · have h := h.1 c_9
      refine J_tabIn F (off := 49) (tgt := 61) dX8_reality_12 (by decide) (by decide) (by decide) (by decide) ?_
      refine J_aln F 0 dX8_reality_61 rfl rfl ?_
      refine J_gfm F (ci := 8) 8 rfl inX8 ly_0 (by decide) (by decide) rfl lf_X8_66 rfl dX8_reality_62 ?_
      obtain ⟨h_10, h⟩ := h
      refine J_gfr F (ci := 1) 0 rfl inX1 h_10 (by decide) (by decide) rfl lf_X8_187 rfl dX8_reality_65 ?_
      refine J_iln F 1 dX8_reality_68 rfl rfl ?_
      obtain ⟨h_11, h⟩ := h
      refine J_aldS F (lay_net h_10).1 h_11 dX8_reality_69 ?_
      refine J_aln F 0 dX8_reality_70 rfl rfl ?_
      refine J_gfm F (ci := 8) 8 rfl inX8 ly_0 (by decide) (by decide) rfl lf_X8_66 rfl dX8_reality_71 ?_
      obtain ⟨h_12, h⟩ := h
      refine J_ic F dX8_reality_74 ki_1 ?_
      refine J_callVi F (As := [.int (nI 1)]) (st := [.ref (gb G + ((σ 0 8).toNatClampNeg + 1 + 8 + 4 * Int32.toNatClampNeg x1))]) (C_X1_nodesThatAre l G ((σ 0 8).toNatClampNeg) (nI 1) h_12 h) (ci := 1) h_12 (by decide) rfl rfl lm_X8_243 li_X1_nodesThatAre ls_X1_nodesThatAre ini_X1 lc_X1_nodesThatAre hd_X1_nodesThatAre (by decide) (Nat.le_of_ble_eq_true rfl) (by decide) rfl dX8_reality_75 (fun r_13 σ_14 hh => ?_)
      clear h
      obtain ⟨e9, h⟩ := hh
      subst σ_14
      refine J_callVi F (As := [.int r_13]) (st := []) (C_X4_evenOf l G ((σ 0 8).toNatClampNeg + 1 + 8 + 4 * Int32.toNatClampNeg x1) r_13 (lay_sp h_10 h_11) h) (ci := 4) (lay_sp h_10 h_11) (by decide) rfl rfl lm_X8_310 li_X4_evenOf ls_X4_evenOf ini_X4 lc_X4_evenOf hd_X4_evenOf (by decide) (Nat.le_of_ble_eq_true rfl) (by decide) rfl dX8_reality_78 (fun r_15 σ_16 hh => ?_)
      clear h
      obtain ⟨e9, h⟩ := hh
      subst σ_16
      exact J_retiX F (by decide) (by decide) ⟨_, rfl, h⟩ dX8_reality_81
    · have h := h.2 c_9
      refine J_case (v := nI 2) (fun c_17 => ?_) (fun c_17 => ?_)
      · have h := h.1 c_17
        refine J_tabIn F (off := 70) (tgt := 82) dX8_reality_12 (by decide) (by decide) (by decide) (by decide) ?_
        refine J_aln F 0 dX8_reality_82 rfl rfl ?_
        refine J_iln F 1 dX8_reality_83 rfl rfl ?_
        refine J_callVi F (As := [.int x1]) (st := []) (C_X8_hubOf l G x1  h) (ci := 8) ly_0 (by decide) rfl rfl lm_X8_210 li_X8_hubOf ls_X8_hubOf ini_X8 lc_X8_hubOf hd_X8_hubOf (by decide) (Nat.le_of_ble_eq_true rfl) (by decide) rfl dX8_reality_84 (fun r_18 σ_19 h => ?_)
        exact J_retiX F (by decide) (by decide) ⟨_, rfl, h⟩ dX8_reality_87
      · have h := h.2 c_17
        refine J_case (v := nI 3) (fun c_20 => ?_) (fun c_20 => ?_)
        · have h := h.1 c_20
          refine J_tabIn F (off := 76) (tgt := 88) dX8_reality_12 (by decide) (by decide) (by decide) (by decide) ?_
          refine J_aln F 0 dX8_reality_88 rfl rfl ?_
          refine J_gfa F (ci := 8) 5 rfl inX8 ly_0 (by decide) (by decide) rfl lf_X8_51 rfl dX8_reality_89 ?_
          refine J_aln F 0 dX8_reality_92 rfl rfl ?_
          refine J_gfm F (ci := 8) 8 rfl inX8 ly_0 (by decide) (by decide) rfl lf_X8_66 rfl dX8_reality_93 ?_
          obtain ⟨h_21, h⟩ := h
          refine J_gfr F (ci := 1) 0 rfl inX1 h_21 (by decide) (by decide) rfl lf_X8_187 rfl dX8_reality_96 ?_
          refine J_iln F 1 dX8_reality_99 rfl rfl ?_
          obtain ⟨h_22, h⟩ := h
          refine J_aldS F (lay_net h_21).1 h_22 dX8_reality_100 ?_
          refine J_iln F 1 dX8_reality_101 rfl rfl ?_
          refine J_aln F 0 dX8_reality_102 rfl rfl ?_
          refine J_gfm F (ci := 8) 8 rfl inX8 ly_0 (by decide) (by decide) rfl lf_X8_66 rfl dX8_reality_103 ?_
          obtain ⟨h_23, h⟩ := h
          refine J_ic F dX8_reality_106 ki_1 ?_
          refine J_callVi F (As := [.int (nI 1)]) (st := [.int x1, .ref (gb G + ((σ 0 8).toNatClampNeg + 1 + 8 + 4 * Int32.toNatClampNeg x1)), .ref (gb G + 180)]) (C_X1_nodesThatAre l G ((σ 0 8).toNatClampNeg) (nI 1) h_23 h) (ci := 1) h_23 (by decide) rfl rfl lm_X8_243 li_X1_nodesThatAre ls_X1_nodesThatAre ini_X1 lc_X1_nodesThatAre hd_X1_nodesThatAre (by decide) (Nat.le_of_ble_eq_true rfl) (by decide) rfl dX8_reality_107 (fun r_24 σ_25 hh => ?_)
          clear h
          obtain ⟨e9, h⟩ := hh
          subst σ_25
          refine J_ic F dX8_reality_110 ki_0 ?_
          refine J_callVv F (As := [.ref (gb G + ((σ 0 8).toNatClampNeg + 1 + 8 + 4 * Int32.toNatClampNeg x1)), .int x1, .int r_24, .int (nI 0)]) (st := []) (C_X5_walkAll l G ((σ 0 8).toNatClampNeg + 1 + 8 + 4 * Int32.toNatClampNeg x1) x1 r_24 (nI 0) (lay_sp h_21 h_22) h) (ci := 5) ly_180 (by decide) rfl rfl lm_X8_313 li_X5_walkAll ls_X5_walkAll ini_X5 lc_X5_walkAll hd_X5_walkAll (by decide) (Nat.le_of_ble_eq_true rfl) (by decide) rfl dX8_reality_111 (fun σ_26 h => ?_)
          refine J_aln F 0 dX8_reality_114 rfl rfl ?_
          refine J_gfa F (ci := 8) 5 rfl inX8 ly_0 (by decide) (by decide) rfl lf_X8_51 rfl dX8_reality_115 ?_
          refine J_gfi F (ci := 5) 3 rfl inX5 ly_180 (by decide) (by decide) rfl lf_X8_317 rfl dX8_reality_118 ?_
          exact J_retiX F (by decide) (by decide) ⟨_, rfl, h⟩ dX8_reality_121
        · have h := h.2 c_20
          refine J_case (v := nI 4) (fun c_27 => ?_) (fun c_27 => ?_)
          · have h := h.1 c_27
            refine J_tabIn F (off := 110) (tgt := 122) dX8_reality_12 (by decide) (by decide) (by decide) (by decide) ?_
            refine J_aln F 0 dX8_reality_122 rfl rfl ?_
            refine J_gfm F (ci := 8) 8 rfl inX8 ly_0 (by decide) (by decide) rfl lf_X8_66 rfl dX8_reality_123 ?_
            obtain ⟨h_28, h⟩ := h
            refine J_gfr F (ci := 1) 0 rfl inX1 h_28 (by decide) (by decide) rfl lf_X8_187 rfl dX8_reality_126 ?_
            refine J_iln F 1 dX8_reality_129 rfl rfl ?_
            obtain ⟨h_29, h⟩ := h
            refine J_aldS F (lay_net h_28).1 h_29 dX8_reality_130 ?_
            refine J_callVi F (As := []) (st := []) (C_X4_zonesOfTheScattered l G ((σ 0 8).toNatClampNeg + 1 + 8 + 4 * Int32.toNatClampNeg x1) (lay_sp h_28 h_29) h) (ci := 4) (lay_sp h_28 h_29) (by decide) rfl rfl lm_X8_320 li_X4_zonesOfTheScattered ls_X4_zonesOfTheScattered ini_X4 lc_X4_zonesOfTheScattered hd_X4_zonesOfTheScattered (by decide) (Nat.le_of_ble_eq_true rfl) (by decide) rfl dX8_reality_131 (fun r_30 σ_31 hh => ?_)
            clear h
            obtain ⟨e9, h⟩ := hh
            subst σ_31
            exact J_retiX F (by decide) (by decide) ⟨_, rfl, h⟩ dX8_reality_134
          · have h := h.2 c_27
            refine J_tabOut F (tgt := 135) dX8_reality_12 (tab_out 0 4 (fun k h1 h2 => by rcases (show k = 0 ∨ k = 1 ∨ k = 2 ∨ k = 3 ∨ k = 4 by omega) with rfl | rfl | rfl | rfl | rfl <;> assumption)) (by decide) ?_
            refine J_aln F 0 dX8_reality_135 rfl rfl ?_
            refine J_gfm F (ci := 8) 8 rfl inX8 ly_0 (by decide) (by decide) rfl lf_X8_66 rfl dX8_reality_136 ?_
            obtain ⟨h_32, h⟩ := h
            refine J_iln F 1 dX8_reality_139 rfl rfl ?_
            refine J_callVi F (As := [.int x1]) (st := []) (C_X1_copiesHeldIn l G ((σ 0 8).toNatClampNeg) x1 h_32 h) (ci := 1) h_32 (by decide) rfl rfl lm_X8_323 li_X1_copiesHeldIn ls_X1_copiesHeldIn ini_X1 lc_X1_copiesHeldIn hd_X1_copiesHeldIn (by decide) (Nat.le_of_ble_eq_true rfl) (by decide) rfl dX8_reality_140 (fun r_33 σ_34 hh => ?_)
            clear h
            obtain ⟨e9, h⟩ := hh
            subst σ_34
            exact J_retiX F (by decide) (by decide) ⟨_, rfl, h⟩ dX8_reality_143
theorem dX8_ways_0 : decode cX8_ways 0 = .ok (.aload_n 0, 1) := by decide +kernel
theorem dX8_ways_1 : decode cX8_ways 1 = .ok (.iload_n 1, 1) := by decide +kernel
theorem dX8_ways_2 : decode cX8_ways 2 = .ok (.invokevirtual 184, 3) := by decide +kernel
theorem dX8_ways_5 : decode cX8_ways 5 = .ok (.iload_n 2, 1) := by decide +kernel
theorem dX8_ways_6 : decode cX8_ways 6 = .ok (.iconst 4, 1) := by decide +kernel
theorem dX8_ways_7 : decode cX8_ways 7 = .ok (.invokestatic 149, 3) := by decide +kernel
theorem dX8_ways_10 : decode cX8_ways 10 = .ok (.aload_n 0, 1) := by decide +kernel
theorem dX8_ways_11 : decode cX8_ways 11 = .ok (.getfield 66, 3) := by decide +kernel
theorem dX8_ways_14 : decode cX8_ways 14 = .ok (.getfield 187, 3) := by decide +kernel
theorem dX8_ways_17 : decode cX8_ways 17 = .ok (.iload_n 1, 1) := by decide +kernel
theorem dX8_ways_18 : decode cX8_ways 18 = .ok (.aaload, 1) := by decide +kernel
theorem dX8_ways_19 : decode cX8_ways 19 = .ok (.astore_n 3, 1) := by decide +kernel
theorem dX8_ways_20 : decode cX8_ways 20 = .ok (.aload_n 0, 1) := by decide +kernel
theorem dX8_ways_21 : decode cX8_ways 21 = .ok (.getfield 66, 3) := by decide +kernel
theorem dX8_ways_24 : decode cX8_ways 24 = .ok (.iconst 1, 1) := by decide +kernel
theorem dX8_ways_25 : decode cX8_ways 25 = .ok (.invokevirtual 243, 3) := by decide +kernel
theorem dX8_ways_28 : decode cX8_ways 28 = .ok (.istore 4, 2) := by decide +kernel
theorem dX8_ways_30 : decode cX8_ways 30 = .ok (.iload_n 2, 1) := by decide +kernel
theorem dX8_ways_31 : decode cX8_ways 31 = .ok (.iconst 3, 1) := by decide +kernel
theorem dX8_ways_32 : decode cX8_ways 32 = .ok (.if_icmp .ne 10, 3) := by decide +kernel
theorem dX8_ways_35 : decode cX8_ways 35 = .ok (.aload_n 3, 1) := by decide +kernel
theorem dX8_ways_36 : decode cX8_ways 36 = .ok (.iload 4, 2) := by decide +kernel
theorem dX8_ways_38 : decode cX8_ways 38 = .ok (.invokevirtual 331, 3) := by decide +kernel
theorem dX8_ways_41 : decode cX8_ways 41 = .ok (.ireturn, 1) := by decide +kernel
theorem dX8_ways_42 : decode cX8_ways 42 = .ok (.aload_n 0, 1) := by decide +kernel
theorem dX8_ways_43 : decode cX8_ways 43 = .ok (.getfield 51, 3) := by decide +kernel
theorem dX8_ways_46 : decode cX8_ways 46 = .ok (.aload_n 3, 1) := by decide +kernel
theorem dX8_ways_47 : decode cX8_ways 47 = .ok (.iload_n 1, 1) := by decide +kernel
theorem dX8_ways_48 : decode cX8_ways 48 = .ok (.iload 4, 2) := by decide +kernel
theorem dX8_ways_50 : decode cX8_ways 50 = .ok (.iload_n 2, 1) := by decide +kernel
theorem dX8_ways_51 : decode cX8_ways 51 = .ok (.iconst 2, 1) := by decide +kernel
theorem dX8_ways_52 : decode cX8_ways 52 = .ok (.if_icmp .ne 7, 3) := by decide +kernel
theorem dX8_ways_55 : decode cX8_ways 55 = .ok (.iconst 1, 1) := by decide +kernel
theorem dX8_ways_56 : decode cX8_ways 56 = .ok (.goto 4, 3) := by decide +kernel
theorem dX8_ways_59 : decode cX8_ways 59 = .ok (.iconst 0, 1) := by decide +kernel
theorem dX8_ways_60 : decode cX8_ways 60 = .ok (.invokevirtual 313, 3) := by decide +kernel
theorem dX8_ways_63 : decode cX8_ways 63 = .ok (.iload_n 2, 1) := by decide +kernel
theorem dX8_ways_64 : decode cX8_ways 64 = .ok (.iconst 2, 1) := by decide +kernel
theorem dX8_ways_65 : decode cX8_ways 65 = .ok (.if_icmp .ne 11, 3) := by decide +kernel
theorem dX8_ways_68 : decode cX8_ways 68 = .ok (.aload_n 0, 1) := by decide +kernel
theorem dX8_ways_69 : decode cX8_ways 69 = .ok (.getfield 51, 3) := by decide +kernel
theorem dX8_ways_72 : decode cX8_ways 72 = .ok (.getfield 334, 3) := by decide +kernel
theorem dX8_ways_75 : decode cX8_ways 75 = .ok (.ireturn, 1) := by decide +kernel
theorem dX8_ways_76 : decode cX8_ways 76 = .ok (.iload_n 2, 1) := by decide +kernel
theorem dX8_ways_77 : decode cX8_ways 77 = .ok (.ifCond .ne 13, 3) := by decide +kernel
theorem dX8_ways_80 : decode cX8_ways 80 = .ok (.aload_n 0, 1) := by decide +kernel
theorem dX8_ways_81 : decode cX8_ways 81 = .ok (.getfield 51, 3) := by decide +kernel
theorem dX8_ways_84 : decode cX8_ways 84 = .ok (.getfield 337, 3) := by decide +kernel
theorem dX8_ways_87 : decode cX8_ways 87 = .ok (.goto 10, 3) := by decide +kernel
theorem dX8_ways_90 : decode cX8_ways 90 = .ok (.aload_n 0, 1) := by decide +kernel
theorem dX8_ways_91 : decode cX8_ways 91 = .ok (.getfield 51, 3) := by decide +kernel
theorem dX8_ways_94 : decode cX8_ways 94 = .ok (.getfield 340, 3) := by decide +kernel
theorem dX8_ways_97 : decode cX8_ways 97 = .ok (.ireturn, 1) := by decide +kernel
set_option maxRecDepth 20000 in
set_option maxHeartbeats 4000000 in
theorem wk_X8_ways_60 {p : Program} {l : Launch} {e : Env} {s : State} {m : MethodId} {args : Array Value} {below : List Frame} {meth : Method} {c : Code} {G : Gp} {σ : St} {x2 : Int32} {b1 : Nat} {t2 : Int32} {t3 : Int32} {t4 : Int32}  {Q : Int32 → St → Prop} {QX : String → St → Prop} (F : FX p s m args meth c cX8_ways 5 (some .int) RX8 G) (hl : l.stackTraces = false) (hT : ∀ x ∈ c.exceptionTable.toList, False) (z1 : lay b1 = (4, 0))  (h : wp_X8_ways_60 σ x2 b1 t2 t3 t4 Q QX) : J p l e (rmX 7 133 2 12) s m args below meth c 5 G (vx_MQ below (QQ G (qI Q)) (XX G QX) args s 2 12 (fr G)) 2 12 60 [(0, .ref (gb G + 0)), (2, .int x2)] [.int t4, .int t3, .int t2, .ref (gb G + b1), .ref (gb G + 180)] σ := by
  unfold wp_X8_ways_60 at h
  refine J_callVv F (As := [.ref (gb G + b1), .int t2, .int t3, .int t4]) (st := []) (C_X5_walkAll l G b1 t2 t3 t4 z1 h) (ci := 5) ly_180 (by decide) rfl rfl lm_X8_313 li_X5_walkAll ls_X5_walkAll ini_X5 lc_X5_walkAll hd_X5_walkAll (by decide) (Nat.le_of_ble_eq_true rfl) (by decide) rfl dX8_ways_60 (fun σ_1 h => ?_)
  refine J_iln F 1 dX8_ways_63 rfl rfl ?_
  refine J_ic F dX8_ways_64 ki_2 ?_
  refine J_cne F (tgt := 76) dX8_ways_65 (by decide) (fun c_2 => ?_) (fun c_2 => ?_)
  · have h := h.1 c_2
    refine J_iln F 1 dX8_ways_76 rfl rfl ?_
    refine J_zne F (tgt := 90) dX8_ways_77 (by decide) (fun c_3 => ?_) (fun c_3 => ?_)
    · have h := h.1 c_3
      refine J_aln F 0 dX8_ways_90 rfl rfl ?_
      refine J_gfa F (ci := 8) 5 rfl inX8 ly_0 (by decide) (by decide) rfl lf_X8_51 rfl dX8_ways_91 ?_
      refine J_gfi F (ci := 5) 2 rfl inX5 ly_180 (by decide) (by decide) rfl lf_X8_340 rfl dX8_ways_94 ?_
      exact J_retiX F (by decide) (by decide) ⟨_, rfl, h⟩ dX8_ways_97
    · have h := h.2 c_3
      refine J_aln F 0 dX8_ways_80 rfl rfl ?_
      refine J_gfa F (ci := 8) 5 rfl inX8 ly_0 (by decide) (by decide) rfl lf_X8_51 rfl dX8_ways_81 ?_
      refine J_gfi F (ci := 5) 1 rfl inX5 ly_180 (by decide) (by decide) rfl lf_X8_337 rfl dX8_ways_84 ?_
      refine J_goto F (tgt := 97) dX8_ways_87 (by decide) ?_
      exact J_retiX F (by decide) (by decide) ⟨_, rfl, h⟩ dX8_ways_97
  · have h := h.2 c_2
    refine J_aln F 0 dX8_ways_68 rfl rfl ?_
    refine J_gfa F (ci := 8) 5 rfl inX8 ly_0 (by decide) (by decide) rfl lf_X8_51 rfl dX8_ways_69 ?_
    refine J_gfi F (ci := 5) 4 rfl inX5 ly_180 (by decide) (by decide) rfl lf_X8_334 rfl dX8_ways_72 ?_
    exact J_retiX F (by decide) (by decide) ⟨_, rfl, h⟩ dX8_ways_75
set_option maxRecDepth 20000 in
set_option maxHeartbeats 4000000 in
theorem C_X8_ways (l : Launch) (hl : l.stackTraces = false) (G : Gp) (x1 : Int32) (x2 : Int32)  {σ : St} {Q : Int32 → St → Prop} {QX : String → St → Prop} (h : wp_X8_ways σ x1 x2 QX Q) : CnX l yX8_ways cX8_ways 5 (some .int) 7 133 2 12 G [.ref (gb G + 0), .int x1, .int x2] σ (qI Q) QX := by
  refine CnX_of (L := [(0, .ref (gb G + 0)), (1, .int x1), (2, .int x2)]) RX8 (by decide) rfl (Nat.le_of_ble_eq_true rfl) rfl ?_
  intro p e s m below meth c F hT
  unfold wp_X8_ways at h
  refine J_aln F 0 dX8_ways_0 rfl rfl ?_
  refine J_iln F 1 dX8_ways_1 rfl rfl ?_
  refine J_xcallVv F (As := [.int x1]) (st := []) (C_X8_checkReality l hl G x1  h) (ci := 8) ly_0 (by decide) rfl rfl lm_X8_184 li_X8_checkReality ls_X8_checkReality ini_X8 lc_X8_checkReality hd_X8_checkReality (by decide) (Nat.le_of_ble_eq_true rfl) (by decide) (by decide) hT (fun E σ' h => h) rfl dX8_ways_2 (fun σ_4 hh => ?_)
  clear h
  obtain ⟨e9, h⟩ := hh
  subst σ_4
  refine J_iln F 2 dX8_ways_5 rfl rfl ?_
  refine J_ic F dX8_ways_6 ki_4 ?_
  refine J_xcallSv F (As := [.int x2, .int (nI 4)]) (st := []) (C_X8_checkWhat l hl G x2 (nI 4)  h) lm_X8_149 li_X8_checkWhat ini_X8 lc_X8_checkWhat hd_X8_checkWhat (by decide) (Nat.le_of_ble_eq_true rfl) (by decide) (by decide) hT (fun E σ' h => h) rfl dX8_ways_7 (fun σ_5 hh => ?_)
  clear h
  obtain ⟨e9, h⟩ := hh
  subst σ_5
  refine J_aln F 0 dX8_ways_10 rfl rfl ?_
  refine J_gfm F (ci := 8) 8 rfl inX8 ly_0 (by decide) (by decide) rfl lf_X8_66 rfl dX8_ways_11 ?_
  obtain ⟨h_6, h⟩ := h
  refine J_gfr F (ci := 1) 0 rfl inX1 h_6 (by decide) (by decide) rfl lf_X8_187 rfl dX8_ways_14 ?_
  refine J_iln F 1 dX8_ways_17 rfl rfl ?_
  obtain ⟨h_7, h⟩ := h
  refine J_aldS F (lay_net h_6).1 h_7 dX8_ways_18 ?_
  refine J_asn F (L' := [(3, .ref (gb G + ((σ 0 8).toNatClampNeg + 1 + 8 + 4 * Int32.toNatClampNeg x1))), (0, .ref (gb G + 0)), (1, .int x1), (2, .int x2)]) dX8_ways_19 rfl (by decide) rfl ?_
  refine J_aln F 1 dX8_ways_20 rfl rfl ?_
  refine J_gfm F (ci := 8) 8 rfl inX8 ly_0 (by decide) (by decide) rfl lf_X8_66 rfl dX8_ways_21 ?_
  obtain ⟨h_8, h⟩ := h
  refine J_ic F dX8_ways_24 ki_1 ?_
  refine J_callVi F (As := [.int (nI 1)]) (st := []) (C_X1_nodesThatAre l G ((σ 0 8).toNatClampNeg) (nI 1) h_8 h) (ci := 1) h_8 (by decide) rfl rfl lm_X8_243 li_X1_nodesThatAre ls_X1_nodesThatAre ini_X1 lc_X1_nodesThatAre hd_X1_nodesThatAre (by decide) (Nat.le_of_ble_eq_true rfl) (by decide) rfl dX8_ways_25 (fun r_9 σ_10 hh => ?_)
  clear h
  obtain ⟨e9, h⟩ := hh
  subst σ_10
  refine J_is F (L' := [(4, .int r_9), (3, .ref (gb G + ((σ 0 8).toNatClampNeg + 1 + 8 + 4 * Int32.toNatClampNeg x1))), (0, .ref (gb G + 0)), (1, .int x1), (2, .int x2)]) dX8_ways_28 (by decide) rfl ?_
  refine J_iln F 4 dX8_ways_30 rfl rfl ?_
  refine J_ic F dX8_ways_31 ki_3 ?_
  refine J_cne F (tgt := 42) dX8_ways_32 (by decide) (fun c_11 => ?_) (fun c_11 => ?_)
  · have h := h.1 c_11
    refine J_aln F 2 dX8_ways_42 rfl rfl ?_
    refine J_gfa F (ci := 8) 5 rfl inX8 ly_0 (by decide) (by decide) rfl lf_X8_51 rfl dX8_ways_43 ?_
    refine J_aln F 1 dX8_ways_46 rfl rfl ?_
    refine J_iln F 3 dX8_ways_47 rfl rfl ?_
    refine J_il F 0 dX8_ways_48 rfl ?_
    refine J_iln F 4 dX8_ways_50 rfl rfl ?_
    refine J_ic F dX8_ways_51 ki_2 ?_
    refine J_cne F (tgt := 59) dX8_ways_52 (by decide) (fun c_12 => ?_) (fun c_12 => ?_)
    · have h := h.1 c_12
      refine J_ic F dX8_ways_59 ki_0 ?_
      refine J_sub [2, 4] rfl ?_
      exact wk_X8_ways_60 F hl hT (lay_sp h_6 h_7) h
    · have h := h.2 c_12
      refine J_ic F dX8_ways_55 ki_1 ?_
      refine J_goto F (tgt := 60) dX8_ways_56 (by decide) ?_
      refine J_sub [2, 4] rfl ?_
      exact wk_X8_ways_60 F hl hT (lay_sp h_6 h_7) h
  · have h := h.2 c_11
    refine J_aln F 1 dX8_ways_35 rfl rfl ?_
    refine J_il F 0 dX8_ways_36 rfl ?_
    refine J_callVi F (As := [.int r_9]) (st := []) (C_X4_firstZoneOfAny l G ((σ 0 8).toNatClampNeg + 1 + 8 + 4 * Int32.toNatClampNeg x1) r_9 (lay_sp h_6 h_7) h) (ci := 4) (lay_sp h_6 h_7) (by decide) rfl rfl lm_X8_331 li_X4_firstZoneOfAny ls_X4_firstZoneOfAny ini_X4 lc_X4_firstZoneOfAny hd_X4_firstZoneOfAny (by decide) (Nat.le_of_ble_eq_true rfl) (by decide) rfl dX8_ways_38 (fun r_13 σ_14 hh => ?_)
    clear h
    obtain ⟨e9, h⟩ := hh
    subst σ_14
    exact J_retiX F (by decide) (by decide) ⟨_, rfl, h⟩ dX8_ways_41
theorem dX8_friends_0 : decode cX8_friends 0 = .ok (.iload_n 1, 1) := by decide +kernel
theorem dX8_friends_1 : decode cX8_friends 1 = .ok (.invokestatic 146, 3) := by decide +kernel
theorem dX8_friends_4 : decode cX8_friends 4 = .ok (.sipush 1023, 3) := by decide +kernel
theorem dX8_friends_7 : decode cX8_friends 7 = .ok (.istore_n 2, 1) := by decide +kernel
theorem dX8_friends_8 : decode cX8_friends 8 = .ok (.iconst 0, 1) := by decide +kernel
theorem dX8_friends_9 : decode cX8_friends 9 = .ok (.istore_n 3, 1) := by decide +kernel
theorem dX8_friends_10 : decode cX8_friends 10 = .ok (.iload_n 3, 1) := by decide +kernel
theorem dX8_friends_11 : decode cX8_friends 11 = .ok (.aload_n 0, 1) := by decide +kernel
theorem dX8_friends_12 : decode cX8_friends 12 = .ok (.getfield 66, 3) := by decide +kernel
theorem dX8_friends_15 : decode cX8_friends 15 = .ok (.getfield 279, 3) := by decide +kernel
theorem dX8_friends_18 : decode cX8_friends 18 = .ok (.if_icmp .ge 38, 3) := by decide +kernel
theorem dX8_friends_21 : decode cX8_friends 21 = .ok (.aload_n 0, 1) := by decide +kernel
theorem dX8_friends_22 : decode cX8_friends 22 = .ok (.getfield 42, 3) := by decide +kernel
theorem dX8_friends_25 : decode cX8_friends 25 = .ok (.aload_n 0, 1) := by decide +kernel
theorem dX8_friends_26 : decode cX8_friends 26 = .ok (.getfield 66, 3) := by decide +kernel
theorem dX8_friends_29 : decode cX8_friends 29 = .ok (.getfield 187, 3) := by decide +kernel
theorem dX8_friends_32 : decode cX8_friends 32 = .ok (.iload_n 3, 1) := by decide +kernel
theorem dX8_friends_33 : decode cX8_friends 33 = .ok (.aaload, 1) := by decide +kernel
theorem dX8_friends_34 : decode cX8_friends 34 = .ok (.iload_n 3, 1) := by decide +kernel
theorem dX8_friends_35 : decode cX8_friends 35 = .ok (.invokevirtual 199, 3) := by decide +kernel
theorem dX8_friends_38 : decode cX8_friends 38 = .ok (.iload_n 2, 1) := by decide +kernel
theorem dX8_friends_39 : decode cX8_friends 39 = .ok (.aload_n 0, 1) := by decide +kernel
theorem dX8_friends_40 : decode cX8_friends 40 = .ok (.getfield 42, 3) := by decide +kernel
theorem dX8_friends_43 : decode cX8_friends 43 = .ok (.iload_n 3, 1) := by decide +kernel
theorem dX8_friends_44 : decode cX8_friends 44 = .ok (.iload_n 1, 1) := by decide +kernel
theorem dX8_friends_45 : decode cX8_friends 45 = .ok (.invokevirtual 203, 3) := by decide +kernel
theorem dX8_friends_48 : decode cX8_friends 48 = .ok (.iand, 1) := by decide +kernel
theorem dX8_friends_49 : decode cX8_friends 49 = .ok (.istore_n 2, 1) := by decide +kernel
theorem dX8_friends_50 : decode cX8_friends 50 = .ok (.iinc 3 1, 3) := by decide +kernel
theorem dX8_friends_53 : decode cX8_friends 53 = .ok (.goto (-43), 3) := by decide +kernel
theorem dX8_friends_56 : decode cX8_friends 56 = .ok (.iload_n 2, 1) := by decide +kernel
theorem dX8_friends_57 : decode cX8_friends 57 = .ok (.ireturn, 1) := by decide +kernel
set_option maxRecDepth 20000 in
set_option maxHeartbeats 4000000 in
theorem wk_X8_friends_10 {p : Program} {l : Launch} {e : Env} {s : State} {m : MethodId} {args : Array Value} {below : List Frame} {meth : Method} {c : Code} {G : Gp} {x1 : Int32}  {Q : Int32 → St → Prop} {QX : String → St → Prop} (F : FX p s m args meth c cX8_friends 4 (some .int) RX8 G) (hl : l.stackTraces = false) (hT : ∀ x ∈ c.exceptionTable.toList, False)   : ∀ (n9 : Nat) (σ : St) (x2 : Int32) (x3 : Int32), LP3 (wp_X8_friends_10 x1 Q QX) n9 σ x2 x3 → J p l e (rmX 7 120 1 6) s m args below meth c 4 G (vx_MQ below (QQ G (qI Q)) (XX G QX) args s 1 6 (fr G)) 1 6 10 [(0, .ref (gb G + 0)), (1, .int x1), (2, .int x2), (3, .int x3)] [] σ := by
  intro n9
  induction n9 with
  | zero => intro σ x2 x3 h; exact h.elim
  | succ n9 i10 =>
    intro σ x2 x3 h
    have h : wp_X8_friends_10 x1 Q QX (LP3 (wp_X8_friends_10 x1 Q QX) n9) σ x2 x3 := h
    unfold wp_X8_friends_10 at h
    refine J_iln F 3 dX8_friends_10 rfl rfl ?_
    refine J_aln F 0 dX8_friends_11 rfl rfl ?_
    refine J_gfm F (ci := 8) 8 rfl inX8 ly_0 (by decide) (by decide) rfl lf_X8_66 rfl dX8_friends_12 ?_
    obtain ⟨h_1, h⟩ := h
    refine J_gfi F (ci := 1) 9 rfl inX1 h_1 (by decide) (by decide) rfl lf_X8_279 rfl dX8_friends_15 ?_
    refine J_cge F (tgt := 56) dX8_friends_18 (by decide) (fun c_2 => ?_) (fun c_2 => ?_)
    · have h := h.1 c_2
      refine J_iln F 2 dX8_friends_56 rfl rfl ?_
      exact J_retiX F (by decide) (by decide) ⟨_, rfl, h⟩ dX8_friends_57
    · have h := h.2 c_2
      refine J_aln F 0 dX8_friends_21 rfl rfl ?_
      refine J_gfa F (ci := 8) 4 rfl inX8 ly_0 (by decide) (by decide) rfl lf_X8_42 rfl dX8_friends_22 ?_
      refine J_aln F 0 dX8_friends_25 rfl rfl ?_
      refine J_gfm F (ci := 8) 8 rfl inX8 ly_0 (by decide) (by decide) rfl lf_X8_66 rfl dX8_friends_26 ?_
      obtain ⟨h_3, h⟩ := h
      refine J_gfr F (ci := 1) 0 rfl inX1 h_3 (by decide) (by decide) rfl lf_X8_187 rfl dX8_friends_29 ?_
      refine J_iln F 3 dX8_friends_32 rfl rfl ?_
      obtain ⟨h_4, h⟩ := h
      refine J_aldS F (lay_net h_3).1 h_4 dX8_friends_33 ?_
      refine J_iln F 3 dX8_friends_34 rfl rfl ?_
      refine J_callVv F (As := [.ref (gb G + ((σ 0 8).toNatClampNeg + 1 + 8 + 4 * Int32.toNatClampNeg x3)), .int x3]) (st := []) (C_X7_lookBeside l G ((σ 0 8).toNatClampNeg + 1 + 8 + 4 * Int32.toNatClampNeg x3) x3 (lay_sp h_3 h_4) h) (ci := 7) ly_176 (by decide) rfl rfl lm_X8_199 li_X7_lookBeside ls_X7_lookBeside ini_X7 lc_X7_lookBeside hd_X7_lookBeside (by decide) (Nat.le_of_ble_eq_true rfl) (by decide) rfl dX8_friends_35 (fun σ_5 h => ?_)
      refine J_iln F 2 dX8_friends_38 rfl rfl ?_
      refine J_aln F 0 dX8_friends_39 rfl rfl ?_
      refine J_gfa F (ci := 8) 4 rfl inX8 ly_0 (by decide) (by decide) rfl lf_X8_42 rfl dX8_friends_40 ?_
      refine J_iln F 3 dX8_friends_43 rfl rfl ?_
      refine J_iln F 1 dX8_friends_44 rfl rfl ?_
      refine J_callVi F (As := [.int x3, .int x1]) (st := [.int x2]) (C_X7_besideIn l G x3 x1  h) (ci := 7) ly_176 (by decide) rfl rfl lm_X8_203 li_X7_besideIn ls_X7_besideIn ini_X7 lc_X7_besideIn hd_X7_besideIn (by decide) (Nat.le_of_ble_eq_true rfl) (by decide) rfl dX8_friends_45 (fun r_6 σ_7 hh => ?_)
      clear h
      obtain ⟨e9, h⟩ := hh
      subst σ_7
      refine J_iand F dX8_friends_48 ?_
      refine J_top (fun x2_8 ex2_8 => ?_)
      have h := h x2_8 ex2_8
      refine J_isn F (L' := [(2, .int x2_8), (0, .ref (gb G + 0)), (1, .int x1), (3, .int x3)]) dX8_friends_49 rfl (by decide) rfl ?_
      obtain ⟨x3_9, ex3_9⟩ : ∃ z : Int32, z = x3 + (nI 1) := ⟨_, rfl⟩
      have h := h x3_9 ex3_9
      refine J_iinc F (v := x3_9) (L' := [(3, .int x3_9), (2, .int x2_8), (0, .ref (gb G + 0)), (1, .int x1)]) 3 dX8_friends_50 rfl (by rw [ki_1, ex3_9]) (by decide) rfl ?_
      refine J_goto F (tgt := 10) dX8_friends_53 (by decide) ?_
      refine J_sub [2, 3, 1, 0] rfl ?_
      exact i10 _ _ _ h
set_option maxRecDepth 20000 in
set_option maxHeartbeats 4000000 in
theorem C_X8_friends (l : Launch) (hl : l.stackTraces = false) (G : Gp) (x1 : Int32)  {σ : St} {Q : Int32 → St → Prop} {QX : String → St → Prop} (h : wp_X8_friends σ x1 QX Q) : CnX l yX8_friends cX8_friends 4 (some .int) 7 120 1 6 G [.ref (gb G + 0), .int x1] σ (qI Q) QX := by
  refine CnX_of (L := [(0, .ref (gb G + 0)), (1, .int x1)]) RX8 (by decide) rfl (Nat.le_of_ble_eq_true rfl) rfl ?_
  intro p e s m below meth c F hT
  unfold wp_X8_friends at h
  refine J_iln F 1 dX8_friends_0 rfl rfl ?_
  refine J_xcallSv F (As := [.int x1]) (st := []) (C_X8_checkNode l hl G x1  h) lm_X8_146 li_X8_checkNode ini_X8 lc_X8_checkNode hd_X8_checkNode (by decide) (Nat.le_of_ble_eq_true rfl) (by decide) (by decide) hT (fun E σ' h => h) rfl dX8_friends_1 (fun σ_10 hh => ?_)
  clear h
  obtain ⟨e9, h⟩ := hh
  subst σ_10
  refine J_si F dX8_friends_4 ks_1023 ?_
  refine J_isn F (L' := [(2, .int (nI 1023)), (0, .ref (gb G + 0)), (1, .int x1)]) dX8_friends_7 rfl (by decide) rfl ?_
  refine J_ic F dX8_friends_8 ki_0 ?_
  refine J_isn F (L' := [(3, .int (nI 0)), (2, .int (nI 1023)), (0, .ref (gb G + 0)), (1, .int x1)]) dX8_friends_9 rfl (by decide) rfl ?_
  refine J_sub [2, 3, 1, 0] rfl ?_
  obtain ⟨n9, h⟩ := h
  exact wk_X8_friends_10 F hl hT n9 _ _ _ h
theorem dX8_image_0 : decode cX8_image 0 = .ok (.aload_n 0, 1) := by decide +kernel
theorem dX8_image_1 : decode cX8_image 1 = .ok (.getfield 58, 3) := by decide +kernel
theorem dX8_image_4 : decode cX8_image 4 = .ok (.aload_n 0, 1) := by decide +kernel
theorem dX8_image_5 : decode cX8_image 5 = .ok (.getfield 66, 3) := by decide +kernel
theorem dX8_image_8 : decode cX8_image 8 = .ok (.invokevirtual 86, 3) := by decide +kernel
theorem dX8_image_11 : decode cX8_image 11 = .ok (.aload_n 0, 1) := by decide +kernel
theorem dX8_image_12 : decode cX8_image 12 = .ok (.iconst 1, 1) := by decide +kernel
theorem dX8_image_13 : decode cX8_image 13 = .ok (.putfield 62, 3) := by decide +kernel
theorem dX8_image_16 : decode cX8_image 16 = .ok (.return_, 1) := by decide +kernel
set_option maxRecDepth 20000 in
set_option maxHeartbeats 4000000 in
theorem C_X8_image (l : Launch) (G : Gp)   {σ : St} {Q : St → Prop} (h : wp_X8_image σ  Q) : Cn l yX8_image cX8_image 1 none 3 107 G [.ref (gb G + 0)] σ (qV Q) := by
  refine Cn_of (L := [(0, .ref (gb G + 0))]) RX8 (by decide) rfl (Nat.le_of_ble_eq_true rfl) rfl ?_
  intro p e s m below meth c F
  unfold wp_X8_image at h
  refine J_aln F 0 dX8_image_0 rfl rfl ?_
  refine J_gfa F (ci := 8) 6 rfl inX8 ly_0 (by decide) (by decide) rfl lf_X8_58 rfl dX8_image_1 ?_
  refine J_aln F 0 dX8_image_4 rfl rfl ?_
  refine J_gfm F (ci := 8) 8 rfl inX8 ly_0 (by decide) (by decide) rfl lf_X8_66 rfl dX8_image_5 ?_
  obtain ⟨h_1, h⟩ := h
  refine J_callVv F (As := [.ref (gb G + ((σ 0 8).toNatClampNeg))]) (st := []) (C_X1_copyFrom l G 181 ((σ 0 8).toNatClampNeg) ly_181 h_1 h) (ci := 1) ly_181 (by decide) rfl rfl lm_X8_86 li_X1_copyFrom ls_X1_copyFrom ini_X1 lc_X1_copyFrom hd_X1_copyFrom (by decide) (Nat.le_of_ble_eq_true rfl) (by decide) rfl dX8_image_8 (fun σ_2 h => ?_)
  refine J_aln F 0 dX8_image_11 rfl rfl ?_
  refine J_ic F dX8_image_12 ki_1 ?_
  refine J_pfi F (ci := 8) 7 rfl inX8 tyX8 tyX8_ok nmX8 ly_0 (by decide) (by decide) rfl lf_X8_62 rfl rfl (tyX8_ok 7 (by decide)) (nz_b (Or.inr rfl)) (nz_f (Or.inr rfl)) dX8_image_13 ?_
  refine J_st (fun σ_3 eσ_3 => ?_)
  have h := h σ_3 eσ_3
  exact J_retv F ⟨rfl, h⟩ dX8_image_16
theorem dX8_back_0 : decode cX8_back 0 = .ok (.aload_n 0, 1) := by decide +kernel
theorem dX8_back_1 : decode cX8_back 1 = .ok (.getfield 62, 3) := by decide +kernel
theorem dX8_back_4 : decode cX8_back 4 = .ok (.ifCond .ne 5, 3) := by decide +kernel
theorem dX8_back_7 : decode cX8_back 7 = .ok (.iconst 0, 1) := by decide +kernel
theorem dX8_back_8 : decode cX8_back 8 = .ok (.ireturn, 1) := by decide +kernel
theorem dX8_back_9 : decode cX8_back 9 = .ok (.aload_n 0, 1) := by decide +kernel
theorem dX8_back_10 : decode cX8_back 10 = .ok (.getfield 66, 3) := by decide +kernel
theorem dX8_back_13 : decode cX8_back 13 = .ok (.aload_n 0, 1) := by decide +kernel
theorem dX8_back_14 : decode cX8_back 14 = .ok (.getfield 58, 3) := by decide +kernel
theorem dX8_back_17 : decode cX8_back 17 = .ok (.invokevirtual 86, 3) := by decide +kernel
theorem dX8_back_20 : decode cX8_back 20 = .ok (.aload_n 0, 1) := by decide +kernel
theorem dX8_back_21 : decode cX8_back 21 = .ok (.getfield 35, 3) := by decide +kernel
theorem dX8_back_24 : decode cX8_back 24 = .ok (.invokevirtual 125, 3) := by decide +kernel
theorem dX8_back_27 : decode cX8_back 27 = .ok (.iconst 1, 1) := by decide +kernel
theorem dX8_back_28 : decode cX8_back 28 = .ok (.ireturn, 1) := by decide +kernel
set_option maxRecDepth 20000 in
set_option maxHeartbeats 4000000 in
theorem C_X8_back (l : Launch) (G : Gp)   {σ : St} {Q : Int32 → St → Prop} (h : wp_X8_back σ  Q) : Cn l yX8_back cX8_back 1 (some .boolean) 3 107 G [.ref (gb G + 0)] σ (qI Q) := by
  refine Cn_of (L := [(0, .ref (gb G + 0))]) RX8 (by decide) rfl (Nat.le_of_ble_eq_true rfl) rfl ?_
  intro p e s m below meth c F
  unfold wp_X8_back at h
  refine J_aln F 0 dX8_back_0 rfl rfl ?_
  refine J_gfi F (ci := 8) 7 rfl inX8 ly_0 (by decide) (by decide) rfl lf_X8_62 rfl dX8_back_1 ?_
  refine J_zne F (tgt := 9) dX8_back_4 (by decide) (fun c_1 => ?_) (fun c_1 => ?_)
  · have h := h.1 c_1
    refine J_aln F 0 dX8_back_9 rfl rfl ?_
    refine J_gfm F (ci := 8) 8 rfl inX8 ly_0 (by decide) (by decide) rfl lf_X8_66 rfl dX8_back_10 ?_
    obtain ⟨h_2, h⟩ := h
    refine J_aln F 0 dX8_back_13 rfl rfl ?_
    refine J_gfa F (ci := 8) 6 rfl inX8 ly_0 (by decide) (by decide) rfl lf_X8_58 rfl dX8_back_14 ?_
    refine J_callVv F (As := [.ref (gb G + 181)]) (st := []) (C_X1_copyFrom l G ((σ 0 8).toNatClampNeg) 181 h_2 ly_181 h) (ci := 1) h_2 (by decide) rfl rfl lm_X8_86 li_X1_copyFrom ls_X1_copyFrom ini_X1 lc_X1_copyFrom hd_X1_copyFrom (by decide) (Nat.le_of_ble_eq_true rfl) (by decide) rfl dX8_back_17 (fun σ_3 h => ?_)
    refine J_aln F 0 dX8_back_20 rfl rfl ?_
    refine J_gfa F (ci := 8) 3 rfl inX8 ly_0 (by decide) (by decide) rfl lf_X8_35 rfl dX8_back_21 ?_
    refine J_callVv F (As := []) (st := []) (C_X2_forget l G   h) (ci := 2) ly_6 (by decide) rfl rfl lm_X8_125 li_X2_forget ls_X2_forget ini_X2 lc_X2_forget hd_X2_forget (by decide) (Nat.le_of_ble_eq_true rfl) (by decide) rfl dX8_back_24 (fun σ_4 h => ?_)
    refine J_ic F dX8_back_27 ki_1 ?_
    exact J_retz F (Or.inr rfl) ⟨_, rfl, h⟩ dX8_back_28
  · have h := h.2 c_1
    refine J_ic F dX8_back_7 ki_0 ?_
    exact J_retz F (Or.inl rfl) ⟨_, rfl, h⟩ dX8_back_8
theorem dX8_count_0 : decode cX8_count 0 = .ok (.iload_n 1, 1) := by decide +kernel
theorem dX8_count_1 : decode cX8_count 1 = .ok (.tableswitch 113 0 7 #[47, 55, 64, 73, 81, 89, 97, 105], 47) := by decide +kernel
theorem dX8_count_48 : decode cX8_count 48 = .ok (.aload_n 0, 1) := by decide +kernel
theorem dX8_count_49 : decode cX8_count 49 = .ok (.getfield 66, 3) := by decide +kernel
theorem dX8_count_52 : decode cX8_count 52 = .ok (.getfield 279, 3) := by decide +kernel
theorem dX8_count_55 : decode cX8_count 55 = .ok (.ireturn, 1) := by decide +kernel
theorem dX8_count_56 : decode cX8_count 56 = .ok (.aload_n 0, 1) := by decide +kernel
theorem dX8_count_57 : decode cX8_count 57 = .ok (.getfield 66, 3) := by decide +kernel
theorem dX8_count_60 : decode cX8_count 60 = .ok (.iconst 1, 1) := by decide +kernel
theorem dX8_count_61 : decode cX8_count 61 = .ok (.invokevirtual 243, 3) := by decide +kernel
theorem dX8_count_64 : decode cX8_count 64 = .ok (.ireturn, 1) := by decide +kernel
theorem dX8_count_65 : decode cX8_count 65 = .ok (.aload_n 0, 1) := by decide +kernel
theorem dX8_count_66 : decode cX8_count 66 = .ok (.getfield 66, 3) := by decide +kernel
theorem dX8_count_69 : decode cX8_count 69 = .ok (.iconst 2, 1) := by decide +kernel
theorem dX8_count_70 : decode cX8_count 70 = .ok (.invokevirtual 243, 3) := by decide +kernel
theorem dX8_count_73 : decode cX8_count 73 = .ok (.ireturn, 1) := by decide +kernel
theorem dX8_count_74 : decode cX8_count 74 = .ok (.aload_n 0, 1) := by decide +kernel
theorem dX8_count_75 : decode cX8_count 75 = .ok (.getfield 66, 3) := by decide +kernel
theorem dX8_count_78 : decode cX8_count 78 = .ok (.getfield 343, 3) := by decide +kernel
theorem dX8_count_81 : decode cX8_count 81 = .ok (.ireturn, 1) := by decide +kernel
theorem dX8_count_82 : decode cX8_count 82 = .ok (.aload_n 0, 1) := by decide +kernel
theorem dX8_count_83 : decode cX8_count 83 = .ok (.getfield 66, 3) := by decide +kernel
theorem dX8_count_86 : decode cX8_count 86 = .ok (.invokevirtual 346, 3) := by decide +kernel
theorem dX8_count_89 : decode cX8_count 89 = .ok (.ireturn, 1) := by decide +kernel
theorem dX8_count_90 : decode cX8_count 90 = .ok (.aload_n 0, 1) := by decide +kernel
theorem dX8_count_91 : decode cX8_count 91 = .ok (.getfield 66, 3) := by decide +kernel
theorem dX8_count_94 : decode cX8_count 94 = .ok (.invokevirtual 349, 3) := by decide +kernel
theorem dX8_count_97 : decode cX8_count 97 = .ok (.ireturn, 1) := by decide +kernel
theorem dX8_count_98 : decode cX8_count 98 = .ok (.aload_n 0, 1) := by decide +kernel
theorem dX8_count_99 : decode cX8_count 99 = .ok (.getfield 66, 3) := by decide +kernel
theorem dX8_count_102 : decode cX8_count 102 = .ok (.invokevirtual 352, 3) := by decide +kernel
theorem dX8_count_105 : decode cX8_count 105 = .ok (.ireturn, 1) := by decide +kernel
theorem dX8_count_106 : decode cX8_count 106 = .ok (.aload_n 0, 1) := by decide +kernel
theorem dX8_count_107 : decode cX8_count 107 = .ok (.getfield 35, 3) := by decide +kernel
theorem dX8_count_110 : decode cX8_count 110 = .ok (.getfield 166, 3) := by decide +kernel
theorem dX8_count_113 : decode cX8_count 113 = .ok (.ireturn, 1) := by decide +kernel
theorem dX8_count_114 : decode cX8_count 114 = .ok (.iconst (-1), 1) := by decide +kernel
theorem dX8_count_115 : decode cX8_count 115 = .ok (.ireturn, 1) := by decide +kernel
set_option maxRecDepth 20000 in
set_option maxHeartbeats 4000000 in
theorem C_X8_count (l : Launch) (G : Gp) (x1 : Int32)  {σ : St} {Q : Int32 → Prop} (h : wp_X8_count σ x1 Q) : Cn l yX8_count cX8_count 2 (some .int) 2 44 G [.ref (gb G + 0), .int x1] σ (qI (fun r σ' => σ' = σ ∧ Q r)) := by
  refine Cn_of (L := [(0, .ref (gb G + 0)), (1, .int x1)]) RX8 (by decide) rfl (Nat.le_of_ble_eq_true rfl) rfl ?_
  intro p e s m below meth c F
  unfold wp_X8_count at h
  refine J_iln F 1 dX8_count_0 rfl rfl ?_
  refine J_case (v := nI 0) (fun c_2 => ?_) (fun c_2 => ?_)
  · have h := h.1 c_2
    refine J_tabIn F (off := 47) (tgt := 48) dX8_count_1 (by decide) (by decide) (by decide) (by decide) ?_
    refine J_aln F 0 dX8_count_48 rfl rfl ?_
    refine J_gfm F (ci := 8) 8 rfl inX8 ly_0 (by decide) (by decide) rfl lf_X8_66 rfl dX8_count_49 ?_
    obtain ⟨h_3, h⟩ := h
    refine J_gfi F (ci := 1) 9 rfl inX1 h_3 (by decide) (by decide) rfl lf_X8_279 rfl dX8_count_52 ?_
    exact J_reti F ⟨_, rfl, rfl, h⟩ dX8_count_55
  · have h := h.2 c_2
    refine J_case (v := nI 1) (fun c_4 => ?_) (fun c_4 => ?_)
    · have h := h.1 c_4
      refine J_tabIn F (off := 55) (tgt := 56) dX8_count_1 (by decide) (by decide) (by decide) (by decide) ?_
      refine J_aln F 0 dX8_count_56 rfl rfl ?_
      refine J_gfm F (ci := 8) 8 rfl inX8 ly_0 (by decide) (by decide) rfl lf_X8_66 rfl dX8_count_57 ?_
      obtain ⟨h_5, h⟩ := h
      refine J_ic F dX8_count_60 ki_1 ?_
      refine J_callVi F (As := [.int (nI 1)]) (st := []) (C_X1_nodesThatAre l G ((σ 0 8).toNatClampNeg) (nI 1) h_5 h) (ci := 1) h_5 (by decide) rfl rfl lm_X8_243 li_X1_nodesThatAre ls_X1_nodesThatAre ini_X1 lc_X1_nodesThatAre hd_X1_nodesThatAre (by decide) (Nat.le_of_ble_eq_true rfl) (by decide) rfl dX8_count_61 (fun r_6 σ_7 hh => ?_)
      clear h
      obtain ⟨e9, h⟩ := hh
      subst σ_7
      exact J_reti F ⟨_, rfl, rfl, h⟩ dX8_count_64
    · have h := h.2 c_4
      refine J_case (v := nI 2) (fun c_8 => ?_) (fun c_8 => ?_)
      · have h := h.1 c_8
        refine J_tabIn F (off := 64) (tgt := 65) dX8_count_1 (by decide) (by decide) (by decide) (by decide) ?_
        refine J_aln F 0 dX8_count_65 rfl rfl ?_
        refine J_gfm F (ci := 8) 8 rfl inX8 ly_0 (by decide) (by decide) rfl lf_X8_66 rfl dX8_count_66 ?_
        obtain ⟨h_9, h⟩ := h
        refine J_ic F dX8_count_69 ki_2 ?_
        refine J_callVi F (As := [.int (nI 2)]) (st := []) (C_X1_nodesThatAre l G ((σ 0 8).toNatClampNeg) (nI 2) h_9 h) (ci := 1) h_9 (by decide) rfl rfl lm_X8_243 li_X1_nodesThatAre ls_X1_nodesThatAre ini_X1 lc_X1_nodesThatAre hd_X1_nodesThatAre (by decide) (Nat.le_of_ble_eq_true rfl) (by decide) rfl dX8_count_70 (fun r_10 σ_11 hh => ?_)
        clear h
        obtain ⟨e9, h⟩ := hh
        subst σ_11
        exact J_reti F ⟨_, rfl, rfl, h⟩ dX8_count_73
      · have h := h.2 c_8
        refine J_case (v := nI 3) (fun c_12 => ?_) (fun c_12 => ?_)
        · have h := h.1 c_12
          refine J_tabIn F (off := 73) (tgt := 74) dX8_count_1 (by decide) (by decide) (by decide) (by decide) ?_
          refine J_aln F 0 dX8_count_74 rfl rfl ?_
          refine J_gfm F (ci := 8) 8 rfl inX8 ly_0 (by decide) (by decide) rfl lf_X8_66 rfl dX8_count_75 ?_
          obtain ⟨h_13, h⟩ := h
          refine J_gfi F (ci := 1) 8 rfl inX1 h_13 (by decide) (by decide) rfl lf_X8_343 rfl dX8_count_78 ?_
          exact J_reti F ⟨_, rfl, rfl, h⟩ dX8_count_81
        · have h := h.2 c_12
          refine J_case (v := nI 4) (fun c_14 => ?_) (fun c_14 => ?_)
          · have h := h.1 c_14
            refine J_tabIn F (off := 81) (tgt := 82) dX8_count_1 (by decide) (by decide) (by decide) (by decide) ?_
            refine J_aln F 0 dX8_count_82 rfl rfl ?_
            refine J_gfm F (ci := 8) 8 rfl inX8 ly_0 (by decide) (by decide) rfl lf_X8_66 rfl dX8_count_83 ?_
            obtain ⟨h_15, h⟩ := h
            refine J_callVi F (As := []) (st := []) (C_X1_keysStored l G ((σ 0 8).toNatClampNeg) h_15 h) (ci := 1) h_15 (by decide) rfl rfl lm_X8_346 li_X1_keysStored ls_X1_keysStored ini_X1 lc_X1_keysStored hd_X1_keysStored (by decide) (Nat.le_of_ble_eq_true rfl) (by decide) rfl dX8_count_86 (fun r_16 σ_17 hh => ?_)
            clear h
            obtain ⟨e9, h⟩ := hh
            subst σ_17
            exact J_reti F ⟨_, rfl, rfl, h⟩ dX8_count_89
          · have h := h.2 c_14
            refine J_case (v := nI 5) (fun c_18 => ?_) (fun c_18 => ?_)
            · have h := h.1 c_18
              refine J_tabIn F (off := 89) (tgt := 90) dX8_count_1 (by decide) (by decide) (by decide) (by decide) ?_
              refine J_aln F 0 dX8_count_90 rfl rfl ?_
              refine J_gfm F (ci := 8) 8 rfl inX8 ly_0 (by decide) (by decide) rfl lf_X8_66 rfl dX8_count_91 ?_
              obtain ⟨h_19, h⟩ := h
              refine J_callVi F (As := []) (st := []) (C_X1_keysSafe l G ((σ 0 8).toNatClampNeg) h_19 h) (ci := 1) h_19 (by decide) rfl rfl lm_X8_349 li_X1_keysSafe ls_X1_keysSafe ini_X1 lc_X1_keysSafe hd_X1_keysSafe (by decide) (Nat.le_of_ble_eq_true rfl) (by decide) rfl dX8_count_94 (fun r_20 σ_21 hh => ?_)
              clear h
              obtain ⟨e9, h⟩ := hh
              subst σ_21
              exact J_reti F ⟨_, rfl, rfl, h⟩ dX8_count_97
            · have h := h.2 c_18
              refine J_case (v := nI 6) (fun c_22 => ?_) (fun c_22 => ?_)
              · have h := h.1 c_22
                refine J_tabIn F (off := 97) (tgt := 98) dX8_count_1 (by decide) (by decide) (by decide) (by decide) ?_
                refine J_aln F 0 dX8_count_98 rfl rfl ?_
                refine J_gfm F (ci := 8) 8 rfl inX8 ly_0 (by decide) (by decide) rfl lf_X8_66 rfl dX8_count_99 ?_
                obtain ⟨h_23, h⟩ := h
                refine J_callVi F (As := []) (st := []) (C_X1_copiesLost l G ((σ 0 8).toNatClampNeg) h_23 h) (ci := 1) h_23 (by decide) rfl rfl lm_X8_352 li_X1_copiesLost ls_X1_copiesLost ini_X1 lc_X1_copiesLost hd_X1_copiesLost (by decide) (Nat.le_of_ble_eq_true rfl) (by decide) rfl dX8_count_102 (fun r_24 σ_25 hh => ?_)
                clear h
                obtain ⟨e9, h⟩ := hh
                subst σ_25
                exact J_reti F ⟨_, rfl, rfl, h⟩ dX8_count_105
              · have h := h.2 c_22
                refine J_case (v := nI 7) (fun c_26 => ?_) (fun c_26 => ?_)
                · have h := h.1 c_26
                  refine J_tabIn F (off := 105) (tgt := 106) dX8_count_1 (by decide) (by decide) (by decide) (by decide) ?_
                  refine J_aln F 0 dX8_count_106 rfl rfl ?_
                  refine J_gfa F (ci := 8) 3 rfl inX8 ly_0 (by decide) (by decide) rfl lf_X8_35 rfl dX8_count_107 ?_
                  refine J_gfi F (ci := 2) 2 rfl inX2 ly_6 (by decide) (by decide) rfl lf_X8_166 rfl dX8_count_110 ?_
                  exact J_reti F ⟨_, rfl, rfl, h⟩ dX8_count_113
                · have h := h.2 c_26
                  refine J_tabOut F (tgt := 114) dX8_count_1 (tab_out 0 7 (fun k h1 h2 => by rcases (show k = 0 ∨ k = 1 ∨ k = 2 ∨ k = 3 ∨ k = 4 ∨ k = 5 ∨ k = 6 ∨ k = 7 by omega) with rfl | rfl | rfl | rfl | rfl | rfl | rfl | rfl <;> assumption)) (by decide) ?_
                  refine J_ic F dX8_count_114 ki_m1 ?_
                  exact J_reti F ⟨_, rfl, rfl, h⟩ dX8_count_115
