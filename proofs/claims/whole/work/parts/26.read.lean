theorem dX3_begin_0 : decode cX3_begin 0 = .ok (.aload_n 0, 1) := by decide +kernel
theorem dX3_begin_1 : decode cX3_begin 1 = .ok (.iconst 0, 1) := by decide +kernel
theorem dX3_begin_2 : decode cX3_begin 2 = .ok (.putfield 9, 3) := by decide +kernel
theorem dX3_begin_5 : decode cX3_begin 5 = .ok (.aload_n 0, 1) := by decide +kernel
theorem dX3_begin_6 : decode cX3_begin 6 = .ok (.iconst 0, 1) := by decide +kernel
theorem dX3_begin_7 : decode cX3_begin 7 = .ok (.putfield 15, 3) := by decide +kernel
theorem dX3_begin_10 : decode cX3_begin 10 = .ok (.aload_n 0, 1) := by decide +kernel
theorem dX3_begin_11 : decode cX3_begin 11 = .ok (.iconst 0, 1) := by decide +kernel
theorem dX3_begin_12 : decode cX3_begin 12 = .ok (.putfield 18, 3) := by decide +kernel
theorem dX3_begin_15 : decode cX3_begin 15 = .ok (.aload_n 0, 1) := by decide +kernel
theorem dX3_begin_16 : decode cX3_begin 16 = .ok (.iconst 0, 1) := by decide +kernel
theorem dX3_begin_17 : decode cX3_begin 17 = .ok (.putfield 21, 3) := by decide +kernel
theorem dX3_begin_20 : decode cX3_begin 20 = .ok (.return_, 1) := by decide +kernel
set_option maxRecDepth 20000 in
set_option maxHeartbeats 4000000 in
theorem C_X3_begin (l : Launch) (G : Gp)   {σ : St} {Q : St → Prop} (h : wp_X3_begin σ  Q) : Cn l yX3_begin cX3_begin 1 none 0 0 G [.ref (gb G + 3)] σ (qV Q) := by
  refine Cn_of (L := [(0, .ref (gb G + 3))]) RX3 (by decide) rfl (Nat.le_of_ble_eq_true rfl) rfl ?_
  intro p e s m below meth c F
  unfold wp_X3_begin at h
  refine J_aln F 0 dX3_begin_0 rfl rfl ?_
  refine J_ic F dX3_begin_1 ki_0 ?_
  refine J_pfi F (ci := 3) 1 rfl inX3 tyX3 tyX3_ok nmX3 ly_3 (by decide) (by decide) rfl lf_X3_9 rfl rfl (tyX3_ok 1 (by decide)) rfl rfl dX3_begin_2 ?_
  refine J_st (fun σ_1 eσ_1 => ?_)
  have h := h σ_1 eσ_1
  refine J_aln F 0 dX3_begin_5 rfl rfl ?_
  refine J_ic F dX3_begin_6 ki_0 ?_
  refine J_pfi F (ci := 3) 2 rfl inX3 tyX3 tyX3_ok nmX3 ly_3 (by decide) (by decide) rfl lf_X3_15 rfl rfl (tyX3_ok 2 (by decide)) rfl rfl dX3_begin_7 ?_
  refine J_st (fun σ_2 eσ_2 => ?_)
  have h := h σ_2 eσ_2
  refine J_aln F 0 dX3_begin_10 rfl rfl ?_
  refine J_ic F dX3_begin_11 ki_0 ?_
  refine J_pfi F (ci := 3) 3 rfl inX3 tyX3 tyX3_ok nmX3 ly_3 (by decide) (by decide) rfl lf_X3_18 rfl rfl (tyX3_ok 3 (by decide)) rfl rfl dX3_begin_12 ?_
  refine J_st (fun σ_3 eσ_3 => ?_)
  have h := h σ_3 eσ_3
  refine J_aln F 0 dX3_begin_15 rfl rfl ?_
  refine J_ic F dX3_begin_16 ki_0 ?_
  refine J_pfi F (ci := 3) 4 rfl inX3 tyX3 tyX3_ok nmX3 ly_3 (by decide) (by decide) rfl lf_X3_21 rfl rfl (tyX3_ok 4 (by decide)) (nz_b (Or.inl rfl)) (nz_f (Or.inl rfl)) dX3_begin_17 ?_
  refine J_st (fun σ_4 eσ_4 => ?_)
  have h := h σ_4 eσ_4
  exact J_retv F ⟨rfl, h⟩ dX3_begin_20
theorem dX3_isBetween_0 : decode cX3_isBetween 0 = .ok (.iload_n 1, 1) := by decide +kernel
theorem dX3_isBetween_1 : decode cX3_isBetween 1 = .ok (.ifCond .lt 44, 3) := by decide +kernel
theorem dX3_isBetween_4 : decode cX3_isBetween 4 = .ok (.iload_n 1, 1) := by decide +kernel
theorem dX3_isBetween_5 : decode cX3_isBetween 5 = .ok (.aload_n 0, 1) := by decide +kernel
theorem dX3_isBetween_6 : decode cX3_isBetween 6 = .ok (.getfield 25, 3) := by decide +kernel
theorem dX3_isBetween_9 : decode cX3_isBetween 9 = .ok (.getfield 32, 3) := by decide +kernel
theorem dX3_isBetween_12 : decode cX3_isBetween 12 = .ok (.if_icmp .ge 33, 3) := by decide +kernel
theorem dX3_isBetween_15 : decode cX3_isBetween 15 = .ok (.aload_n 0, 1) := by decide +kernel
theorem dX3_isBetween_16 : decode cX3_isBetween 16 = .ok (.getfield 25, 3) := by decide +kernel
theorem dX3_isBetween_19 : decode cX3_isBetween 19 = .ok (.getfield 95, 3) := by decide +kernel
theorem dX3_isBetween_22 : decode cX3_isBetween 22 = .ok (.iload_n 1, 1) := by decide +kernel
theorem dX3_isBetween_23 : decode cX3_isBetween 23 = .ok (.baload, 1) := by decide +kernel
theorem dX3_isBetween_24 : decode cX3_isBetween 24 = .ok (.iload_n 2, 1) := by decide +kernel
theorem dX3_isBetween_25 : decode cX3_isBetween 25 = .ok (.if_icmp .lt 20, 3) := by decide +kernel
theorem dX3_isBetween_28 : decode cX3_isBetween 28 = .ok (.aload_n 0, 1) := by decide +kernel
theorem dX3_isBetween_29 : decode cX3_isBetween 29 = .ok (.getfield 25, 3) := by decide +kernel
theorem dX3_isBetween_32 : decode cX3_isBetween 32 = .ok (.getfield 95, 3) := by decide +kernel
theorem dX3_isBetween_35 : decode cX3_isBetween 35 = .ok (.iload_n 1, 1) := by decide +kernel
theorem dX3_isBetween_36 : decode cX3_isBetween 36 = .ok (.baload, 1) := by decide +kernel
theorem dX3_isBetween_37 : decode cX3_isBetween 37 = .ok (.iload_n 3, 1) := by decide +kernel
theorem dX3_isBetween_38 : decode cX3_isBetween 38 = .ok (.if_icmp .gt 7, 3) := by decide +kernel
theorem dX3_isBetween_41 : decode cX3_isBetween 41 = .ok (.iconst 1, 1) := by decide +kernel
theorem dX3_isBetween_42 : decode cX3_isBetween 42 = .ok (.goto 4, 3) := by decide +kernel
theorem dX3_isBetween_45 : decode cX3_isBetween 45 = .ok (.iconst 0, 1) := by decide +kernel
theorem dX3_isBetween_46 : decode cX3_isBetween 46 = .ok (.ireturn, 1) := by decide +kernel
set_option maxRecDepth 20000 in
set_option maxHeartbeats 4000000 in
theorem C_X3_isBetween (l : Launch) (G : Gp) (x1 : Int32) (x2 : Int32) (x3 : Int32)  {σ : St} {Q : Int32 → Prop} (h : wp_X3_isBetween σ x1 x2 x3 Q) : Cn l yX3_isBetween cX3_isBetween 4 (some .boolean) 0 0 G [.ref (gb G + 3), .int x1, .int x2, .int x3] σ (qI (fun r σ' => σ' = σ ∧ Q r)) := by
  refine Cn_of (L := [(0, .ref (gb G + 3)), (1, .int x1), (2, .int x2), (3, .int x3)]) RX3 (by decide) rfl (Nat.le_of_ble_eq_true rfl) rfl ?_
  intro p e s m below meth c F
  unfold wp_X3_isBetween at h
  refine J_iln F 1 dX3_isBetween_0 rfl rfl ?_
  refine J_zlt F (tgt := 45) dX3_isBetween_1 (by decide) (fun c_1 => ?_) (fun c_1 => ?_)
  · have h := h.1 c_1
    refine J_ic F dX3_isBetween_45 ki_0 ?_
    exact J_retz F (Or.inl rfl) ⟨_, rfl, rfl, h⟩ dX3_isBetween_46
  · have h := h.2 c_1
    refine J_iln F 1 dX3_isBetween_4 rfl rfl ?_
    refine J_aln F 0 dX3_isBetween_5 rfl rfl ?_
    refine J_gfa F (ci := 3) 0 rfl inX3 ly_3 (by decide) (by decide) rfl lf_X3_25 rfl dX3_isBetween_6 ?_
    refine J_gfi F (ci := 6) 1 rfl inX6 ly_1 (by decide) (by decide) rfl lf_X3_32 rfl dX3_isBetween_9 ?_
    refine J_cge F (tgt := 45) dX3_isBetween_12 (by decide) (fun c_2 => ?_) (fun c_2 => ?_)
    · have h := h.1 c_2
      refine J_ic F dX3_isBetween_45 ki_0 ?_
      exact J_retz F (Or.inl rfl) ⟨_, rfl, rfl, h⟩ dX3_isBetween_46
    · have h := h.2 c_2
      refine J_aln F 0 dX3_isBetween_15 rfl rfl ?_
      refine J_gfa F (ci := 3) 0 rfl inX3 ly_3 (by decide) (by decide) rfl lf_X3_25 rfl dX3_isBetween_16 ?_
      refine J_gfa F (ci := 6) 0 rfl inX6 ly_1 (by decide) (by decide) rfl lf_X3_95 rfl dX3_isBetween_19 ?_
      refine J_iln F 1 dX3_isBetween_22 rfl rfl ?_
      obtain ⟨h_3, h⟩ := h
      refine J_bald F ly_2 h_3 dX3_isBetween_23 ?_
      refine J_iln F 2 dX3_isBetween_24 rfl rfl ?_
      refine J_clt F (tgt := 45) dX3_isBetween_25 (by decide) (fun c_4 => ?_) (fun c_4 => ?_)
      · have h := h.1 c_4
        refine J_ic F dX3_isBetween_45 ki_0 ?_
        exact J_retz F (Or.inl rfl) ⟨_, rfl, rfl, h⟩ dX3_isBetween_46
      · have h := h.2 c_4
        refine J_aln F 0 dX3_isBetween_28 rfl rfl ?_
        refine J_gfa F (ci := 3) 0 rfl inX3 ly_3 (by decide) (by decide) rfl lf_X3_25 rfl dX3_isBetween_29 ?_
        refine J_gfa F (ci := 6) 0 rfl inX6 ly_1 (by decide) (by decide) rfl lf_X3_95 rfl dX3_isBetween_32 ?_
        refine J_iln F 1 dX3_isBetween_35 rfl rfl ?_
        obtain ⟨h_5, h⟩ := h
        refine J_bald F ly_2 h_5 dX3_isBetween_36 ?_
        refine J_iln F 3 dX3_isBetween_37 rfl rfl ?_
        refine J_cgt F (tgt := 45) dX3_isBetween_38 (by decide) (fun c_6 => ?_) (fun c_6 => ?_)
        · have h := h.1 c_6
          refine J_ic F dX3_isBetween_45 ki_0 ?_
          exact J_retz F (Or.inl rfl) ⟨_, rfl, rfl, h⟩ dX3_isBetween_46
        · have h := h.2 c_6
          refine J_ic F dX3_isBetween_41 ki_1 ?_
          refine J_goto F (tgt := 46) dX3_isBetween_42 (by decide) ?_
          exact J_retz F (Or.inr rfl) ⟨_, rfl, rfl, h⟩ dX3_isBetween_46
theorem dX3_skipBlanks_0 : decode cX3_skipBlanks 0 = .ok (.aload_n 0, 1) := by decide +kernel
theorem dX3_skipBlanks_1 : decode cX3_skipBlanks 1 = .ok (.getfield 9, 3) := by decide +kernel
theorem dX3_skipBlanks_4 : decode cX3_skipBlanks 4 = .ok (.aload_n 0, 1) := by decide +kernel
theorem dX3_skipBlanks_5 : decode cX3_skipBlanks 5 = .ok (.getfield 25, 3) := by decide +kernel
theorem dX3_skipBlanks_8 : decode cX3_skipBlanks 8 = .ok (.getfield 32, 3) := by decide +kernel
theorem dX3_skipBlanks_11 : decode cX3_skipBlanks 11 = .ok (.if_icmp .ge 31, 3) := by decide +kernel
theorem dX3_skipBlanks_14 : decode cX3_skipBlanks 14 = .ok (.aload_n 0, 1) := by decide +kernel
theorem dX3_skipBlanks_15 : decode cX3_skipBlanks 15 = .ok (.aload_n 0, 1) := by decide +kernel
theorem dX3_skipBlanks_16 : decode cX3_skipBlanks 16 = .ok (.getfield 9, 3) := by decide +kernel
theorem dX3_skipBlanks_19 : decode cX3_skipBlanks 19 = .ok (.bipush 32, 2) := by decide +kernel
theorem dX3_skipBlanks_21 : decode cX3_skipBlanks 21 = .ok (.bipush 32, 2) := by decide +kernel
theorem dX3_skipBlanks_23 : decode cX3_skipBlanks 23 = .ok (.invokevirtual 91, 3) := by decide +kernel
theorem dX3_skipBlanks_26 : decode cX3_skipBlanks 26 = .ok (.ifCond .eq 16, 3) := by decide +kernel
theorem dX3_skipBlanks_29 : decode cX3_skipBlanks 29 = .ok (.aload_n 0, 1) := by decide +kernel
theorem dX3_skipBlanks_30 : decode cX3_skipBlanks 30 = .ok (.dup, 1) := by decide +kernel
theorem dX3_skipBlanks_31 : decode cX3_skipBlanks 31 = .ok (.getfield 9, 3) := by decide +kernel
theorem dX3_skipBlanks_34 : decode cX3_skipBlanks 34 = .ok (.iconst 1, 1) := by decide +kernel
theorem dX3_skipBlanks_35 : decode cX3_skipBlanks 35 = .ok (.iadd, 1) := by decide +kernel
theorem dX3_skipBlanks_36 : decode cX3_skipBlanks 36 = .ok (.putfield 9, 3) := by decide +kernel
theorem dX3_skipBlanks_39 : decode cX3_skipBlanks 39 = .ok (.goto (-39), 3) := by decide +kernel
theorem dX3_skipBlanks_42 : decode cX3_skipBlanks 42 = .ok (.return_, 1) := by decide +kernel
set_option maxRecDepth 20000 in
set_option maxHeartbeats 4000000 in
theorem wk_X3_skipBlanks_0 {p : Program} {l : Launch} {e : Env} {s : State} {m : MethodId} {args : Array Value} {below : List Frame} {meth : Method} {c : Code} {G : Gp}   {Q : St → Prop} (F : FX p s m args meth c cX3_skipBlanks 1 none RX3 G)   : ∀ (n9 : Nat) (σ : St), LP1 (wp_X3_skipBlanks_0 Q) n9 σ → J p l e (rmF 1 23) s m args below meth c 1 G (MQ below (QQ G (qV Q)) args s 0 0 (fr G)) 0 0 0 [(0, .ref (gb G + 3))] [] σ := by
  intro n9
  induction n9 with
  | zero => intro σ h; exact h.elim
  | succ n9 i0 =>
    intro σ h
    have h : wp_X3_skipBlanks_0 Q (LP1 (wp_X3_skipBlanks_0 Q) n9) σ := h
    unfold wp_X3_skipBlanks_0 at h
    refine J_aln F 0 dX3_skipBlanks_0 rfl rfl ?_
    refine J_gfi F (ci := 3) 1 rfl inX3 ly_3 (by decide) (by decide) rfl lf_X3_9 rfl dX3_skipBlanks_1 ?_
    refine J_aln F 0 dX3_skipBlanks_4 rfl rfl ?_
    refine J_gfa F (ci := 3) 0 rfl inX3 ly_3 (by decide) (by decide) rfl lf_X3_25 rfl dX3_skipBlanks_5 ?_
    refine J_gfi F (ci := 6) 1 rfl inX6 ly_1 (by decide) (by decide) rfl lf_X3_32 rfl dX3_skipBlanks_8 ?_
    refine J_cge F (tgt := 42) dX3_skipBlanks_11 (by decide) (fun c_1 => ?_) (fun c_1 => ?_)
    · have h := h.1 c_1
      exact J_retv F ⟨rfl, h⟩ dX3_skipBlanks_42
    · have h := h.2 c_1
      refine J_aln F 0 dX3_skipBlanks_14 rfl rfl ?_
      refine J_aln F 0 dX3_skipBlanks_15 rfl rfl ?_
      refine J_gfi F (ci := 3) 1 rfl inX3 ly_3 (by decide) (by decide) rfl lf_X3_9 rfl dX3_skipBlanks_16 ?_
      refine J_bi F dX3_skipBlanks_19 kb_32 ?_
      refine J_bi F dX3_skipBlanks_21 kb_32 ?_
      refine J_callVi F (As := [.int (σ 3 1), .int (nI 32), .int (nI 32)]) (st := []) (C_X3_isBetween l G (σ 3 1) (nI 32) (nI 32)  h) (ci := 3) ly_3 (by decide) rfl rfl lm_X3_91 li_X3_isBetween ls_X3_isBetween ini_X3 lc_X3_isBetween hd_X3_isBetween (by decide) (Nat.le_of_ble_eq_true rfl) (by decide) rfl dX3_skipBlanks_23 (fun r_2 σ_3 hh => ?_)
      clear h
      obtain ⟨e9, h⟩ := hh
      subst σ_3
      refine J_zeq F (tgt := 42) dX3_skipBlanks_26 (by decide) (fun c_4 => ?_) (fun c_4 => ?_)
      · have h := h.1 c_4
        exact J_retv F ⟨rfl, h⟩ dX3_skipBlanks_42
      · have h := h.2 c_4
        refine J_aln F 0 dX3_skipBlanks_29 rfl rfl ?_
        refine J_dup F dX3_skipBlanks_30 rfl ?_
        refine J_gfi F (ci := 3) 1 rfl inX3 ly_3 (by decide) (by decide) rfl lf_X3_9 rfl dX3_skipBlanks_31 ?_
        refine J_ic F dX3_skipBlanks_34 ki_1 ?_
        refine J_iadd F dX3_skipBlanks_35 ?_
        refine J_pfi F (ci := 3) 1 rfl inX3 tyX3 tyX3_ok nmX3 ly_3 (by decide) (by decide) rfl lf_X3_9 rfl rfl (tyX3_ok 1 (by decide)) rfl rfl dX3_skipBlanks_36 ?_
        refine J_st (fun σ_5 eσ_5 => ?_)
        have h := h σ_5 eσ_5
        refine J_goto F (tgt := 0) dX3_skipBlanks_39 (by decide) ?_
        exact i0 _ h
set_option maxRecDepth 20000 in
set_option maxHeartbeats 4000000 in
theorem C_X3_skipBlanks (l : Launch) (G : Gp)   {σ : St} {Q : St → Prop} (h : wp_X3_skipBlanks σ  Q) : Cn l yX3_skipBlanks cX3_skipBlanks 1 none 1 23 G [.ref (gb G + 3)] σ (qV Q) := by
  refine Cn_of (L := [(0, .ref (gb G + 3))]) RX3 (by decide) rfl (Nat.le_of_ble_eq_true rfl) rfl ?_
  intro p e s m below meth c F
  unfold wp_X3_skipBlanks at h
  obtain ⟨n9, h⟩ := h
  exact wk_X3_skipBlanks_0 F  n9 _ h
theorem dX3_takeSemicolon_0 : decode cX3_takeSemicolon 0 = .ok (.aload_n 0, 1) := by decide +kernel
theorem dX3_takeSemicolon_1 : decode cX3_takeSemicolon 1 = .ok (.aload_n 0, 1) := by decide +kernel
theorem dX3_takeSemicolon_2 : decode cX3_takeSemicolon 2 = .ok (.getfield 9, 3) := by decide +kernel
theorem dX3_takeSemicolon_5 : decode cX3_takeSemicolon 5 = .ok (.bipush 59, 2) := by decide +kernel
theorem dX3_takeSemicolon_7 : decode cX3_takeSemicolon 7 = .ok (.bipush 59, 2) := by decide +kernel
theorem dX3_takeSemicolon_9 : decode cX3_takeSemicolon 9 = .ok (.invokevirtual 91, 3) := by decide +kernel
theorem dX3_takeSemicolon_12 : decode cX3_takeSemicolon 12 = .ok (.ifCond .ne 5, 3) := by decide +kernel
theorem dX3_takeSemicolon_15 : decode cX3_takeSemicolon 15 = .ok (.iconst 0, 1) := by decide +kernel
theorem dX3_takeSemicolon_16 : decode cX3_takeSemicolon 16 = .ok (.ireturn, 1) := by decide +kernel
theorem dX3_takeSemicolon_17 : decode cX3_takeSemicolon 17 = .ok (.aload_n 0, 1) := by decide +kernel
theorem dX3_takeSemicolon_18 : decode cX3_takeSemicolon 18 = .ok (.dup, 1) := by decide +kernel
theorem dX3_takeSemicolon_19 : decode cX3_takeSemicolon 19 = .ok (.getfield 9, 3) := by decide +kernel
theorem dX3_takeSemicolon_22 : decode cX3_takeSemicolon 22 = .ok (.iconst 1, 1) := by decide +kernel
theorem dX3_takeSemicolon_23 : decode cX3_takeSemicolon 23 = .ok (.iadd, 1) := by decide +kernel
theorem dX3_takeSemicolon_24 : decode cX3_takeSemicolon 24 = .ok (.putfield 9, 3) := by decide +kernel
theorem dX3_takeSemicolon_27 : decode cX3_takeSemicolon 27 = .ok (.iconst 1, 1) := by decide +kernel
theorem dX3_takeSemicolon_28 : decode cX3_takeSemicolon 28 = .ok (.ireturn, 1) := by decide +kernel
set_option maxRecDepth 20000 in
set_option maxHeartbeats 4000000 in
theorem C_X3_takeSemicolon (l : Launch) (G : Gp)   {σ : St} {Q : Int32 → St → Prop} (h : wp_X3_takeSemicolon σ  Q) : Cn l yX3_takeSemicolon cX3_takeSemicolon 1 (some .boolean) 1 23 G [.ref (gb G + 3)] σ (qI Q) := by
  refine Cn_of (L := [(0, .ref (gb G + 3))]) RX3 (by decide) rfl (Nat.le_of_ble_eq_true rfl) rfl ?_
  intro p e s m below meth c F
  unfold wp_X3_takeSemicolon at h
  refine J_aln F 0 dX3_takeSemicolon_0 rfl rfl ?_
  refine J_aln F 0 dX3_takeSemicolon_1 rfl rfl ?_
  refine J_gfi F (ci := 3) 1 rfl inX3 ly_3 (by decide) (by decide) rfl lf_X3_9 rfl dX3_takeSemicolon_2 ?_
  refine J_bi F dX3_takeSemicolon_5 kb_59 ?_
  refine J_bi F dX3_takeSemicolon_7 kb_59 ?_
  refine J_callVi F (As := [.int (σ 3 1), .int (nI 59), .int (nI 59)]) (st := []) (C_X3_isBetween l G (σ 3 1) (nI 59) (nI 59)  h) (ci := 3) ly_3 (by decide) rfl rfl lm_X3_91 li_X3_isBetween ls_X3_isBetween ini_X3 lc_X3_isBetween hd_X3_isBetween (by decide) (Nat.le_of_ble_eq_true rfl) (by decide) rfl dX3_takeSemicolon_9 (fun r_1 σ_2 hh => ?_)
  clear h
  obtain ⟨e9, h⟩ := hh
  subst σ_2
  refine J_zne F (tgt := 17) dX3_takeSemicolon_12 (by decide) (fun c_3 => ?_) (fun c_3 => ?_)
  · have h := h.1 c_3
    refine J_aln F 0 dX3_takeSemicolon_17 rfl rfl ?_
    refine J_dup F dX3_takeSemicolon_18 rfl ?_
    refine J_gfi F (ci := 3) 1 rfl inX3 ly_3 (by decide) (by decide) rfl lf_X3_9 rfl dX3_takeSemicolon_19 ?_
    refine J_ic F dX3_takeSemicolon_22 ki_1 ?_
    refine J_iadd F dX3_takeSemicolon_23 ?_
    refine J_pfi F (ci := 3) 1 rfl inX3 tyX3 tyX3_ok nmX3 ly_3 (by decide) (by decide) rfl lf_X3_9 rfl rfl (tyX3_ok 1 (by decide)) rfl rfl dX3_takeSemicolon_24 ?_
    refine J_st (fun σ_4 eσ_4 => ?_)
    have h := h σ_4 eσ_4
    refine J_ic F dX3_takeSemicolon_27 ki_1 ?_
    exact J_retz F (Or.inr rfl) ⟨_, rfl, h⟩ dX3_takeSemicolon_28
  · have h := h.2 c_3
    refine J_ic F dX3_takeSemicolon_15 ki_0 ?_
    exact J_retz F (Or.inl rfl) ⟨_, rfl, h⟩ dX3_takeSemicolon_16
theorem dX3_takeNumber_0 : decode cX3_takeNumber 0 = .ok (.aload_n 0, 1) := by decide +kernel
theorem dX3_takeNumber_1 : decode cX3_takeNumber 1 = .ok (.invokevirtual 29, 3) := by decide +kernel
theorem dX3_takeNumber_4 : decode cX3_takeNumber 4 = .ok (.aload_n 0, 1) := by decide +kernel
theorem dX3_takeNumber_5 : decode cX3_takeNumber 5 = .ok (.getfield 9, 3) := by decide +kernel
theorem dX3_takeNumber_8 : decode cX3_takeNumber 8 = .ok (.istore 5, 2) := by decide +kernel
theorem dX3_takeNumber_10 : decode cX3_takeNumber 10 = .ok (.iconst 0, 1) := by decide +kernel
theorem dX3_takeNumber_11 : decode cX3_takeNumber 11 = .ok (.istore 6, 2) := by decide +kernel
theorem dX3_takeNumber_13 : decode cX3_takeNumber 13 = .ok (.iload 5, 2) := by decide +kernel
theorem dX3_takeNumber_15 : decode cX3_takeNumber 15 = .ok (.aload_n 0, 1) := by decide +kernel
theorem dX3_takeNumber_16 : decode cX3_takeNumber 16 = .ok (.getfield 25, 3) := by decide +kernel
theorem dX3_takeNumber_19 : decode cX3_takeNumber 19 = .ok (.getfield 32, 3) := by decide +kernel
theorem dX3_takeNumber_22 : decode cX3_takeNumber 22 = .ok (.if_icmp .ge 54, 3) := by decide +kernel
theorem dX3_takeNumber_25 : decode cX3_takeNumber 25 = .ok (.aload_n 0, 1) := by decide +kernel
theorem dX3_takeNumber_26 : decode cX3_takeNumber 26 = .ok (.iload 5, 2) := by decide +kernel
theorem dX3_takeNumber_28 : decode cX3_takeNumber 28 = .ok (.bipush 48, 2) := by decide +kernel
theorem dX3_takeNumber_30 : decode cX3_takeNumber 30 = .ok (.bipush 57, 2) := by decide +kernel
theorem dX3_takeNumber_32 : decode cX3_takeNumber 32 = .ok (.invokevirtual 91, 3) := by decide +kernel
theorem dX3_takeNumber_35 : decode cX3_takeNumber 35 = .ok (.ifCond .eq 41, 3) := by decide +kernel
theorem dX3_takeNumber_38 : decode cX3_takeNumber 38 = .ok (.iload 5, 2) := by decide +kernel
theorem dX3_takeNumber_40 : decode cX3_takeNumber 40 = .ok (.aload_n 0, 1) := by decide +kernel
theorem dX3_takeNumber_41 : decode cX3_takeNumber 41 = .ok (.getfield 9, 3) := by decide +kernel
theorem dX3_takeNumber_44 : decode cX3_takeNumber 44 = .ok (.iconst 3, 1) := by decide +kernel
theorem dX3_takeNumber_45 : decode cX3_takeNumber 45 = .ok (.iadd, 1) := by decide +kernel
theorem dX3_takeNumber_46 : decode cX3_takeNumber 46 = .ok (.if_icmp .ge 24, 3) := by decide +kernel
theorem dX3_takeNumber_49 : decode cX3_takeNumber 49 = .ok (.iload 6, 2) := by decide +kernel
theorem dX3_takeNumber_51 : decode cX3_takeNumber 51 = .ok (.bipush 10, 2) := by decide +kernel
theorem dX3_takeNumber_53 : decode cX3_takeNumber 53 = .ok (.imul, 1) := by decide +kernel
theorem dX3_takeNumber_54 : decode cX3_takeNumber 54 = .ok (.aload_n 0, 1) := by decide +kernel
theorem dX3_takeNumber_55 : decode cX3_takeNumber 55 = .ok (.getfield 25, 3) := by decide +kernel
theorem dX3_takeNumber_58 : decode cX3_takeNumber 58 = .ok (.getfield 95, 3) := by decide +kernel
theorem dX3_takeNumber_61 : decode cX3_takeNumber 61 = .ok (.iload 5, 2) := by decide +kernel
theorem dX3_takeNumber_63 : decode cX3_takeNumber 63 = .ok (.baload, 1) := by decide +kernel
theorem dX3_takeNumber_64 : decode cX3_takeNumber 64 = .ok (.bipush 48, 2) := by decide +kernel
theorem dX3_takeNumber_66 : decode cX3_takeNumber 66 = .ok (.isub, 1) := by decide +kernel
theorem dX3_takeNumber_67 : decode cX3_takeNumber 67 = .ok (.iadd, 1) := by decide +kernel
theorem dX3_takeNumber_68 : decode cX3_takeNumber 68 = .ok (.istore 6, 2) := by decide +kernel
theorem dX3_takeNumber_70 : decode cX3_takeNumber 70 = .ok (.iinc 5 1, 3) := by decide +kernel
theorem dX3_takeNumber_73 : decode cX3_takeNumber 73 = .ok (.goto (-60), 3) := by decide +kernel
theorem dX3_takeNumber_76 : decode cX3_takeNumber 76 = .ok (.iload 5, 2) := by decide +kernel
theorem dX3_takeNumber_78 : decode cX3_takeNumber 78 = .ok (.aload_n 0, 1) := by decide +kernel
theorem dX3_takeNumber_79 : decode cX3_takeNumber 79 = .ok (.getfield 9, 3) := by decide +kernel
theorem dX3_takeNumber_82 : decode cX3_takeNumber 82 = .ok (.isub, 1) := by decide +kernel
theorem dX3_takeNumber_83 : decode cX3_takeNumber 83 = .ok (.istore 7, 2) := by decide +kernel
theorem dX3_takeNumber_85 : decode cX3_takeNumber 85 = .ok (.iload 7, 2) := by decide +kernel
theorem dX3_takeNumber_87 : decode cX3_takeNumber 87 = .ok (.iconst 1, 1) := by decide +kernel
theorem dX3_takeNumber_88 : decode cX3_takeNumber 88 = .ok (.if_icmp .lt 22, 3) := by decide +kernel
theorem dX3_takeNumber_91 : decode cX3_takeNumber 91 = .ok (.iload 7, 2) := by decide +kernel
theorem dX3_takeNumber_93 : decode cX3_takeNumber 93 = .ok (.iconst 3, 1) := by decide +kernel
theorem dX3_takeNumber_94 : decode cX3_takeNumber 94 = .ok (.if_icmp .gt 16, 3) := by decide +kernel
theorem dX3_takeNumber_97 : decode cX3_takeNumber 97 = .ok (.iload 6, 2) := by decide +kernel
theorem dX3_takeNumber_99 : decode cX3_takeNumber 99 = .ok (.iload_n 3, 1) := by decide +kernel
theorem dX3_takeNumber_100 : decode cX3_takeNumber 100 = .ok (.if_icmp .lt 10, 3) := by decide +kernel
theorem dX3_takeNumber_103 : decode cX3_takeNumber 103 = .ok (.iload 6, 2) := by decide +kernel
theorem dX3_takeNumber_105 : decode cX3_takeNumber 105 = .ok (.iload 4, 2) := by decide +kernel
theorem dX3_takeNumber_107 : decode cX3_takeNumber 107 = .ok (.if_icmp .le 5, 3) := by decide +kernel
theorem dX3_takeNumber_110 : decode cX3_takeNumber 110 = .ok (.iconst 0, 1) := by decide +kernel
theorem dX3_takeNumber_111 : decode cX3_takeNumber 111 = .ok (.ireturn, 1) := by decide +kernel
theorem dX3_takeNumber_112 : decode cX3_takeNumber 112 = .ok (.iload_n 2, 1) := by decide +kernel
theorem dX3_takeNumber_113 : decode cX3_takeNumber 113 = .ok (.ifCond .lt 20, 3) := by decide +kernel
theorem dX3_takeNumber_116 : decode cX3_takeNumber 116 = .ok (.iload_n 2, 1) := by decide +kernel
theorem dX3_takeNumber_117 : decode cX3_takeNumber 117 = .ok (.aload_n 1, 1) := by decide +kernel
theorem dX3_takeNumber_118 : decode cX3_takeNumber 118 = .ok (.getfield 99, 3) := by decide +kernel
theorem dX3_takeNumber_121 : decode cX3_takeNumber 121 = .ok (.arraylength, 1) := by decide +kernel
theorem dX3_takeNumber_122 : decode cX3_takeNumber 122 = .ok (.if_icmp .ge 11, 3) := by decide +kernel
theorem dX3_takeNumber_125 : decode cX3_takeNumber 125 = .ok (.aload_n 1, 1) := by decide +kernel
theorem dX3_takeNumber_126 : decode cX3_takeNumber 126 = .ok (.getfield 99, 3) := by decide +kernel
theorem dX3_takeNumber_129 : decode cX3_takeNumber 129 = .ok (.iload_n 2, 1) := by decide +kernel
theorem dX3_takeNumber_130 : decode cX3_takeNumber 130 = .ok (.iload 6, 2) := by decide +kernel
theorem dX3_takeNumber_132 : decode cX3_takeNumber 132 = .ok (.iastore, 1) := by decide +kernel
theorem dX3_takeNumber_133 : decode cX3_takeNumber 133 = .ok (.aload_n 0, 1) := by decide +kernel
theorem dX3_takeNumber_134 : decode cX3_takeNumber 134 = .ok (.iload 5, 2) := by decide +kernel
theorem dX3_takeNumber_136 : decode cX3_takeNumber 136 = .ok (.putfield 9, 3) := by decide +kernel
theorem dX3_takeNumber_139 : decode cX3_takeNumber 139 = .ok (.iconst 1, 1) := by decide +kernel
theorem dX3_takeNumber_140 : decode cX3_takeNumber 140 = .ok (.ireturn, 1) := by decide +kernel
set_option maxRecDepth 20000 in
set_option maxHeartbeats 4000000 in
theorem wk_X3_takeNumber_76 {p : Program} {l : Launch} {e : Env} {s : State} {m : MethodId} {args : Array Value} {below : List Frame} {meth : Method} {c : Code} {G : Gp} {σ : St} {x2 : Int32} {x3 : Int32} {x4 : Int32} {x5 : Int32} {x6 : Int32}  {Q : Int32 → St → Prop} (F : FX p s m args meth c cX3_takeNumber 8 (some .boolean) RX3 G)   (h : wp_X3_takeNumber_76 σ x2 x3 x4 x5 x6 Q) : J p l e (rmF 2 43) s m args below meth c 8 G (MQ below (QQ G (qI Q)) args s 0 0 (fr G)) 0 0 76 [(0, .ref (gb G + 3)), (1, .ref (gb G + 4)), (2, .int x2), (3, .int x3), (4, .int x4), (5, .int x5), (6, .int x6)] [] σ := by
  unfold wp_X3_takeNumber_76 at h
  refine J_il F 5 dX3_takeNumber_76 rfl ?_
  refine J_aln F 0 dX3_takeNumber_78 rfl rfl ?_
  refine J_gfi F (ci := 3) 1 rfl inX3 ly_3 (by decide) (by decide) rfl lf_X3_9 rfl dX3_takeNumber_79 ?_
  refine J_isub F dX3_takeNumber_82 ?_
  refine J_top (fun x7_1 ex7_1 => ?_)
  have h := h x7_1 ex7_1
  refine J_is F (L' := [(7, .int x7_1), (0, .ref (gb G + 3)), (1, .ref (gb G + 4)), (2, .int x2), (3, .int x3), (4, .int x4), (5, .int x5), (6, .int x6)]) dX3_takeNumber_83 (by decide) rfl ?_
  refine J_il F 0 dX3_takeNumber_85 rfl ?_
  refine J_ic F dX3_takeNumber_87 ki_1 ?_
  refine J_clt F (tgt := 110) dX3_takeNumber_88 (by decide) (fun c_2 => ?_) (fun c_2 => ?_)
  · have h := h.1 c_2
    refine J_ic F dX3_takeNumber_110 ki_0 ?_
    exact J_retz F (Or.inl rfl) ⟨_, rfl, h⟩ dX3_takeNumber_111
  · have h := h.2 c_2
    refine J_il F 0 dX3_takeNumber_91 rfl ?_
    refine J_ic F dX3_takeNumber_93 ki_3 ?_
    refine J_cgt F (tgt := 110) dX3_takeNumber_94 (by decide) (fun c_3 => ?_) (fun c_3 => ?_)
    · have h := h.1 c_3
      refine J_ic F dX3_takeNumber_110 ki_0 ?_
      exact J_retz F (Or.inl rfl) ⟨_, rfl, h⟩ dX3_takeNumber_111
    · have h := h.2 c_3
      refine J_il F 7 dX3_takeNumber_97 rfl ?_
      refine J_iln F 4 dX3_takeNumber_99 rfl rfl ?_
      refine J_clt F (tgt := 110) dX3_takeNumber_100 (by decide) (fun c_4 => ?_) (fun c_4 => ?_)
      · have h := h.1 c_4
        refine J_ic F dX3_takeNumber_110 ki_0 ?_
        exact J_retz F (Or.inl rfl) ⟨_, rfl, h⟩ dX3_takeNumber_111
      · have h := h.2 c_4
        refine J_il F 7 dX3_takeNumber_103 rfl ?_
        refine J_il F 5 dX3_takeNumber_105 rfl ?_
        refine J_cle F (tgt := 112) dX3_takeNumber_107 (by decide) (fun c_5 => ?_) (fun c_5 => ?_)
        · have h := h.1 c_5
          refine J_iln F 3 dX3_takeNumber_112 rfl rfl ?_
          refine J_zlt F (tgt := 133) dX3_takeNumber_113 (by decide) (fun c_6 => ?_) (fun c_6 => ?_)
          · have h := h.1 c_6
            refine J_aln F 1 dX3_takeNumber_133 rfl rfl ?_
            refine J_il F 6 dX3_takeNumber_134 rfl ?_
            refine J_pfi F (ci := 3) 1 rfl inX3 tyX3 tyX3_ok nmX3 ly_3 (by decide) (by decide) rfl lf_X3_9 rfl rfl (tyX3_ok 1 (by decide)) rfl rfl dX3_takeNumber_136 ?_
            refine J_st (fun σ_7 eσ_7 => ?_)
            have h := h σ_7 eσ_7
            refine J_ic F dX3_takeNumber_139 ki_1 ?_
            exact J_retz F (Or.inr rfl) ⟨_, rfl, h⟩ dX3_takeNumber_140
          · have h := h.2 c_6
            refine J_iln F 3 dX3_takeNumber_116 rfl rfl ?_
            refine J_aln F 2 dX3_takeNumber_117 rfl rfl ?_
            refine J_gfa F (ci := 0) 0 rfl inX0 ly_4 (by decide) (by decide) rfl lf_X3_99 rfl dX3_takeNumber_118 ?_
            refine J_alenI F (v := nI 4) ly_5 rfl dX3_takeNumber_121 ?_
            refine J_cge F (tgt := 133) dX3_takeNumber_122 (by decide) (fun c_8 => ?_) (fun c_8 => ?_)
            · have h := h.1 c_8
              refine J_aln F 1 dX3_takeNumber_133 rfl rfl ?_
              refine J_il F 6 dX3_takeNumber_134 rfl ?_
              refine J_pfi F (ci := 3) 1 rfl inX3 tyX3 tyX3_ok nmX3 ly_3 (by decide) (by decide) rfl lf_X3_9 rfl rfl (tyX3_ok 1 (by decide)) rfl rfl dX3_takeNumber_136 ?_
              refine J_st (fun σ_9 eσ_9 => ?_)
              have h := h σ_9 eσ_9
              refine J_ic F dX3_takeNumber_139 ki_1 ?_
              exact J_retz F (Or.inr rfl) ⟨_, rfl, h⟩ dX3_takeNumber_140
            · have h := h.2 c_8
              refine J_aln F 2 dX3_takeNumber_125 rfl rfl ?_
              refine J_gfa F (ci := 0) 0 rfl inX0 ly_4 (by decide) (by decide) rfl lf_X3_99 rfl dX3_takeNumber_126 ?_
              refine J_iln F 3 dX3_takeNumber_129 rfl rfl ?_
              refine J_il F 7 dX3_takeNumber_130 rfl ?_
              obtain ⟨h_10, h⟩ := h
              refine J_iast F ly_5 h_10 dX3_takeNumber_132 ?_
              refine J_st (fun σ_11 eσ_11 => ?_)
              have h := h σ_11 eσ_11
              refine J_aln F 1 dX3_takeNumber_133 rfl rfl ?_
              refine J_il F 6 dX3_takeNumber_134 rfl ?_
              refine J_pfi F (ci := 3) 1 rfl inX3 tyX3 tyX3_ok nmX3 ly_3 (by decide) (by decide) rfl lf_X3_9 rfl rfl (tyX3_ok 1 (by decide)) rfl rfl dX3_takeNumber_136 ?_
              refine J_st (fun σ_12 eσ_12 => ?_)
              have h := h σ_12 eσ_12
              refine J_ic F dX3_takeNumber_139 ki_1 ?_
              exact J_retz F (Or.inr rfl) ⟨_, rfl, h⟩ dX3_takeNumber_140
        · have h := h.2 c_5
          refine J_ic F dX3_takeNumber_110 ki_0 ?_
          exact J_retz F (Or.inl rfl) ⟨_, rfl, h⟩ dX3_takeNumber_111
set_option maxRecDepth 20000 in
set_option maxHeartbeats 4000000 in
theorem wk_X3_takeNumber_13 {p : Program} {l : Launch} {e : Env} {s : State} {m : MethodId} {args : Array Value} {below : List Frame} {meth : Method} {c : Code} {G : Gp} {σ : St} {x2 : Int32} {x3 : Int32} {x4 : Int32}  {Q : Int32 → St → Prop} (F : FX p s m args meth c cX3_takeNumber 8 (some .boolean) RX3 G)   : ∀ (n9 : Nat) (x5 : Int32) (x6 : Int32), LP2 (wp_X3_takeNumber_13 σ x2 x3 x4 Q) n9 x5 x6 → J p l e (rmF 2 43) s m args below meth c 8 G (MQ below (QQ G (qI Q)) args s 0 0 (fr G)) 0 0 13 [(0, .ref (gb G + 3)), (1, .ref (gb G + 4)), (2, .int x2), (3, .int x3), (4, .int x4), (5, .int x5), (6, .int x6)] [] σ := by
  intro n9
  induction n9 with
  | zero => intro x5 x6 h; exact h.elim
  | succ n9 i13 =>
    intro x5 x6 h
    have h : wp_X3_takeNumber_13 σ x2 x3 x4 Q (LP2 (wp_X3_takeNumber_13 σ x2 x3 x4 Q) n9) x5 x6 := h
    unfold wp_X3_takeNumber_13 at h
    refine J_il F 5 dX3_takeNumber_13 rfl ?_
    refine J_aln F 0 dX3_takeNumber_15 rfl rfl ?_
    refine J_gfa F (ci := 3) 0 rfl inX3 ly_3 (by decide) (by decide) rfl lf_X3_25 rfl dX3_takeNumber_16 ?_
    refine J_gfi F (ci := 6) 1 rfl inX6 ly_1 (by decide) (by decide) rfl lf_X3_32 rfl dX3_takeNumber_19 ?_
    refine J_cge F (tgt := 76) dX3_takeNumber_22 (by decide) (fun c_13 => ?_) (fun c_13 => ?_)
    · have h := h.1 c_13
      exact wk_X3_takeNumber_76 F  h
    · have h := h.2 c_13
      refine J_aln F 0 dX3_takeNumber_25 rfl rfl ?_
      refine J_il F 5 dX3_takeNumber_26 rfl ?_
      refine J_bi F dX3_takeNumber_28 kb_48 ?_
      refine J_bi F dX3_takeNumber_30 kb_57 ?_
      refine J_callVi F (As := [.int x5, .int (nI 48), .int (nI 57)]) (st := []) (C_X3_isBetween l G x5 (nI 48) (nI 57)  h) (ci := 3) ly_3 (by decide) rfl rfl lm_X3_91 li_X3_isBetween ls_X3_isBetween ini_X3 lc_X3_isBetween hd_X3_isBetween (by decide) (Nat.le_of_ble_eq_true rfl) (by decide) rfl dX3_takeNumber_32 (fun r_14 σ_15 hh => ?_)
      clear h
      obtain ⟨e9, h⟩ := hh
      subst σ_15
      refine J_zeq F (tgt := 76) dX3_takeNumber_35 (by decide) (fun c_16 => ?_) (fun c_16 => ?_)
      · have h := h.1 c_16
        exact wk_X3_takeNumber_76 F  h
      · have h := h.2 c_16
        refine J_il F 5 dX3_takeNumber_38 rfl ?_
        refine J_aln F 0 dX3_takeNumber_40 rfl rfl ?_
        refine J_gfi F (ci := 3) 1 rfl inX3 ly_3 (by decide) (by decide) rfl lf_X3_9 rfl dX3_takeNumber_41 ?_
        refine J_ic F dX3_takeNumber_44 ki_3 ?_
        refine J_iadd F dX3_takeNumber_45 ?_
        refine J_cge F (tgt := 70) dX3_takeNumber_46 (by decide) (fun c_17 => ?_) (fun c_17 => ?_)
        · have h := h.1 c_17
          obtain ⟨x5_18, ex5_18⟩ : ∃ z : Int32, z = x5 + (nI 1) := ⟨_, rfl⟩
          have h := h x5_18 ex5_18
          refine J_iinc F (v := x5_18) (L' := [(5, .int x5_18), (0, .ref (gb G + 3)), (1, .ref (gb G + 4)), (2, .int x2), (3, .int x3), (4, .int x4), (6, .int x6)]) 5 dX3_takeNumber_70 rfl (by rw [ki_1, ex5_18]) (by decide) rfl ?_
          refine J_goto F (tgt := 13) dX3_takeNumber_73 (by decide) ?_
          refine J_sub [1, 2, 3, 4, 5, 0, 6] rfl ?_
          exact i13 _ _ h
        · have h := h.2 c_17
          refine J_il F 6 dX3_takeNumber_49 rfl ?_
          refine J_bi F dX3_takeNumber_51 kb_10 ?_
          refine J_imul F dX3_takeNumber_53 ?_
          refine J_aln F 0 dX3_takeNumber_54 rfl rfl ?_
          refine J_gfa F (ci := 3) 0 rfl inX3 ly_3 (by decide) (by decide) rfl lf_X3_25 rfl dX3_takeNumber_55 ?_
          refine J_gfa F (ci := 6) 0 rfl inX6 ly_1 (by decide) (by decide) rfl lf_X3_95 rfl dX3_takeNumber_58 ?_
          refine J_il F 5 dX3_takeNumber_61 rfl ?_
          obtain ⟨h_19, h⟩ := h
          refine J_bald F ly_2 h_19 dX3_takeNumber_63 ?_
          refine J_bi F dX3_takeNumber_64 kb_48 ?_
          refine J_isub F dX3_takeNumber_66 ?_
          refine J_iadd F dX3_takeNumber_67 ?_
          refine J_top (fun x6_20 ex6_20 => ?_)
          have h := h x6_20 ex6_20
          refine J_is F (L' := [(6, .int x6_20), (0, .ref (gb G + 3)), (1, .ref (gb G + 4)), (2, .int x2), (3, .int x3), (4, .int x4), (5, .int x5)]) dX3_takeNumber_68 (by decide) rfl ?_
          obtain ⟨x5_21, ex5_21⟩ : ∃ z : Int32, z = x5 + (nI 1) := ⟨_, rfl⟩
          have h := h x5_21 ex5_21
          refine J_iinc F (v := x5_21) (L' := [(5, .int x5_21), (6, .int x6_20), (0, .ref (gb G + 3)), (1, .ref (gb G + 4)), (2, .int x2), (3, .int x3), (4, .int x4)]) 6 dX3_takeNumber_70 rfl (by rw [ki_1, ex5_21]) (by decide) rfl ?_
          refine J_goto F (tgt := 13) dX3_takeNumber_73 (by decide) ?_
          refine J_sub [2, 3, 4, 5, 6, 0, 1] rfl ?_
          exact i13 _ _ h
set_option maxRecDepth 20000 in
set_option maxHeartbeats 4000000 in
theorem C_X3_takeNumber (l : Launch) (G : Gp) (x2 : Int32) (x3 : Int32) (x4 : Int32)  {σ : St} {Q : Int32 → St → Prop} (h : wp_X3_takeNumber σ x2 x3 x4 Q) : Cn l yX3_takeNumber cX3_takeNumber 8 (some .boolean) 2 43 G [.ref (gb G + 3), .ref (gb G + 4), .int x2, .int x3, .int x4] σ (qI Q) := by
  refine Cn_of (L := [(0, .ref (gb G + 3)), (1, .ref (gb G + 4)), (2, .int x2), (3, .int x3), (4, .int x4)]) RX3 (by decide) rfl (Nat.le_of_ble_eq_true rfl) rfl ?_
  intro p e s m below meth c F
  unfold wp_X3_takeNumber at h
  refine J_aln F 0 dX3_takeNumber_0 rfl rfl ?_
  refine J_callVv F (As := []) (st := []) (C_X3_skipBlanks l G   h) (ci := 3) ly_3 (by decide) rfl rfl lm_X3_29 li_X3_skipBlanks ls_X3_skipBlanks ini_X3 lc_X3_skipBlanks hd_X3_skipBlanks (by decide) (Nat.le_of_ble_eq_true rfl) (by decide) rfl dX3_takeNumber_1 (fun σ_22 h => ?_)
  refine J_aln F 0 dX3_takeNumber_4 rfl rfl ?_
  refine J_gfi F (ci := 3) 1 rfl inX3 ly_3 (by decide) (by decide) rfl lf_X3_9 rfl dX3_takeNumber_5 ?_
  refine J_top (fun x5_23 ex5_23 => ?_)
  have h := h x5_23 ex5_23
  refine J_is F (L' := [(5, .int x5_23), (0, .ref (gb G + 3)), (1, .ref (gb G + 4)), (2, .int x2), (3, .int x3), (4, .int x4)]) dX3_takeNumber_8 (by decide) rfl ?_
  refine J_ic F dX3_takeNumber_10 ki_0 ?_
  refine J_is F (L' := [(6, .int (nI 0)), (5, .int x5_23), (0, .ref (gb G + 3)), (1, .ref (gb G + 4)), (2, .int x2), (3, .int x3), (4, .int x4)]) dX3_takeNumber_11 (by decide) rfl ?_
  refine J_sub [2, 3, 4, 5, 6, 1, 0] rfl ?_
  obtain ⟨n9, h⟩ := h
  exact wk_X3_takeNumber_13 F  n9 _ _ h
