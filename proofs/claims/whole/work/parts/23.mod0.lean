theorem dX9_thrown_0 : decode cX9_thrown 0 = .ok (.aload_n 0, 1) := by decide +kernel
theorem dX9_thrown_1 : decode cX9_thrown 1 = .ok (.getfield 54, 3) := by decide +kernel
theorem dX9_thrown_4 : decode cX9_thrown 4 = .ok (.ireturn, 1) := by decide +kernel
set_option maxRecDepth 20000 in
set_option maxHeartbeats 4000000 in
theorem C_X9_thrown (l : Launch) (G : Gp)   {σ : St} {Q : Int32 → Prop} (h : wp_X9_thrown σ  Q) : Cn l yX9_thrown cX9_thrown 1 (some .int) 0 0 G [.ref (gb G + 244)] σ (qI (fun r σ' => σ' = σ ∧ Q r)) := by
  refine Cn_of (L := [(0, .ref (gb G + 244))]) RX9 (by decide) rfl (Nat.le_of_ble_eq_true rfl) rfl ?_
  intro p e s m below meth c F
  unfold wp_X9_thrown at h
  refine J_aln F 0 dX9_thrown_0 rfl rfl ?_
  refine J_gfi F (ci := 9) 0 rfl inX9 ly_244 (by decide) (by decide) rfl lf_X9_54 rfl dX9_thrown_1 ?_
  exact J_reti F ⟨_, rfl, rfl, h⟩ dX9_thrown_4
theorem dX9_isIn_0 : decode cX9_isIn 0 = .ok (.iload_n 0, 1) := by decide +kernel
theorem dX9_isIn_1 : decode cX9_isIn 1 = .ok (.iload_n 1, 1) := by decide +kernel
theorem dX9_isIn_2 : decode cX9_isIn 2 = .ok (.if_icmp .lt 12, 3) := by decide +kernel
theorem dX9_isIn_5 : decode cX9_isIn 5 = .ok (.iload_n 0, 1) := by decide +kernel
theorem dX9_isIn_6 : decode cX9_isIn 6 = .ok (.iload_n 2, 1) := by decide +kernel
theorem dX9_isIn_7 : decode cX9_isIn 7 = .ok (.if_icmp .gt 7, 3) := by decide +kernel
theorem dX9_isIn_10 : decode cX9_isIn 10 = .ok (.iconst 1, 1) := by decide +kernel
theorem dX9_isIn_11 : decode cX9_isIn 11 = .ok (.goto 4, 3) := by decide +kernel
theorem dX9_isIn_14 : decode cX9_isIn 14 = .ok (.iconst 0, 1) := by decide +kernel
theorem dX9_isIn_15 : decode cX9_isIn 15 = .ok (.ireturn, 1) := by decide +kernel
set_option maxRecDepth 20000 in
set_option maxHeartbeats 4000000 in
theorem C_X9_isIn (l : Launch) (G : Gp) (x0 : Int32) (x1 : Int32) (x2 : Int32)  {σ : St} {Q : Int32 → Prop} (h : wp_X9_isIn σ x0 x1 x2 Q) : Cn l yX9_isIn cX9_isIn 3 (some .boolean) 0 0 G [.int x0, .int x1, .int x2] σ (qI (fun r σ' => σ' = σ ∧ Q r)) := by
  refine Cn_of (L := [(0, .int x0), (1, .int x1), (2, .int x2)]) RX9 (by decide) rfl (Nat.le_of_ble_eq_true rfl) rfl ?_
  intro p e s m below meth c F
  unfold wp_X9_isIn at h
  refine J_iln F 0 dX9_isIn_0 rfl rfl ?_
  refine J_iln F 1 dX9_isIn_1 rfl rfl ?_
  refine J_clt F (tgt := 14) dX9_isIn_2 (by decide) (fun c_1 => ?_) (fun c_1 => ?_)
  · have h := h.1 c_1
    refine J_ic F dX9_isIn_14 ki_0 ?_
    exact J_retz F (Or.inl rfl) ⟨_, rfl, rfl, h⟩ dX9_isIn_15
  · have h := h.2 c_1
    refine J_iln F 0 dX9_isIn_5 rfl rfl ?_
    refine J_iln F 2 dX9_isIn_6 rfl rfl ?_
    refine J_cgt F (tgt := 14) dX9_isIn_7 (by decide) (fun c_2 => ?_) (fun c_2 => ?_)
    · have h := h.1 c_2
      refine J_ic F dX9_isIn_14 ki_0 ?_
      exact J_retz F (Or.inl rfl) ⟨_, rfl, rfl, h⟩ dX9_isIn_15
    · have h := h.2 c_2
      refine J_ic F dX9_isIn_10 ki_1 ?_
      refine J_goto F (tgt := 15) dX9_isIn_11 (by decide) ?_
      exact J_retz F (Or.inr rfl) ⟨_, rfl, rfl, h⟩ dX9_isIn_15
theorem dX9_apart_0 : decode cX9_apart 0 = .ok (.iload_n 0, 1) := by decide +kernel
theorem dX9_apart_1 : decode cX9_apart 1 = .ok (.iload_n 1, 1) := by decide +kernel
theorem dX9_apart_2 : decode cX9_apart 2 = .ok (.if_icmp .ge 9, 3) := by decide +kernel
theorem dX9_apart_5 : decode cX9_apart 5 = .ok (.iload_n 1, 1) := by decide +kernel
theorem dX9_apart_6 : decode cX9_apart 6 = .ok (.iload_n 0, 1) := by decide +kernel
theorem dX9_apart_7 : decode cX9_apart 7 = .ok (.isub, 1) := by decide +kernel
theorem dX9_apart_8 : decode cX9_apart 8 = .ok (.goto 6, 3) := by decide +kernel
theorem dX9_apart_11 : decode cX9_apart 11 = .ok (.iload_n 0, 1) := by decide +kernel
theorem dX9_apart_12 : decode cX9_apart 12 = .ok (.iload_n 1, 1) := by decide +kernel
theorem dX9_apart_13 : decode cX9_apart 13 = .ok (.isub, 1) := by decide +kernel
theorem dX9_apart_14 : decode cX9_apart 14 = .ok (.ireturn, 1) := by decide +kernel
set_option maxRecDepth 20000 in
set_option maxHeartbeats 4000000 in
theorem C_X9_apart (l : Launch) (G : Gp) (x0 : Int32) (x1 : Int32)  {σ : St} {Q : Int32 → Prop} (h : wp_X9_apart σ x0 x1 Q) : Cn l yX9_apart cX9_apart 2 (some .int) 0 0 G [.int x0, .int x1] σ (qI (fun r σ' => σ' = σ ∧ Q r)) := by
  refine Cn_of (L := [(0, .int x0), (1, .int x1)]) RX9 (by decide) rfl (Nat.le_of_ble_eq_true rfl) rfl ?_
  intro p e s m below meth c F
  unfold wp_X9_apart at h
  refine J_iln F 0 dX9_apart_0 rfl rfl ?_
  refine J_iln F 1 dX9_apart_1 rfl rfl ?_
  refine J_cge F (tgt := 11) dX9_apart_2 (by decide) (fun c_1 => ?_) (fun c_1 => ?_)
  · have h := h.1 c_1
    refine J_iln F 0 dX9_apart_11 rfl rfl ?_
    refine J_iln F 1 dX9_apart_12 rfl rfl ?_
    refine J_isub F dX9_apart_13 ?_
    exact J_reti F ⟨_, rfl, rfl, h⟩ dX9_apart_14
  · have h := h.2 c_1
    refine J_iln F 1 dX9_apart_5 rfl rfl ?_
    refine J_iln F 0 dX9_apart_6 rfl rfl ?_
    refine J_isub F dX9_apart_7 ?_
    refine J_goto F (tgt := 14) dX9_apart_8 (by decide) ?_
    exact J_reti F ⟨_, rfl, rfl, h⟩ dX9_apart_14
theorem dX9_lesser_0 : decode cX9_lesser 0 = .ok (.iload_n 0, 1) := by decide +kernel
theorem dX9_lesser_1 : decode cX9_lesser 1 = .ok (.iload_n 1, 1) := by decide +kernel
theorem dX9_lesser_2 : decode cX9_lesser 2 = .ok (.if_icmp .ge 7, 3) := by decide +kernel
theorem dX9_lesser_5 : decode cX9_lesser 5 = .ok (.iload_n 0, 1) := by decide +kernel
theorem dX9_lesser_6 : decode cX9_lesser 6 = .ok (.goto 4, 3) := by decide +kernel
theorem dX9_lesser_9 : decode cX9_lesser 9 = .ok (.iload_n 1, 1) := by decide +kernel
theorem dX9_lesser_10 : decode cX9_lesser 10 = .ok (.ireturn, 1) := by decide +kernel
set_option maxRecDepth 20000 in
set_option maxHeartbeats 4000000 in
theorem C_X9_lesser (l : Launch) (G : Gp) (x0 : Int32) (x1 : Int32)  {σ : St} {Q : Int32 → Prop} (h : wp_X9_lesser σ x0 x1 Q) : Cn l yX9_lesser cX9_lesser 2 (some .int) 0 0 G [.int x0, .int x1] σ (qI (fun r σ' => σ' = σ ∧ Q r)) := by
  refine Cn_of (L := [(0, .int x0), (1, .int x1)]) RX9 (by decide) rfl (Nat.le_of_ble_eq_true rfl) rfl ?_
  intro p e s m below meth c F
  unfold wp_X9_lesser at h
  refine J_iln F 0 dX9_lesser_0 rfl rfl ?_
  refine J_iln F 1 dX9_lesser_1 rfl rfl ?_
  refine J_cge F (tgt := 9) dX9_lesser_2 (by decide) (fun c_1 => ?_) (fun c_1 => ?_)
  · have h := h.1 c_1
    refine J_iln F 1 dX9_lesser_9 rfl rfl ?_
    exact J_reti F ⟨_, rfl, rfl, h⟩ dX9_lesser_10
  · have h := h.2 c_1
    refine J_iln F 0 dX9_lesser_5 rfl rfl ?_
    refine J_goto F (tgt := 10) dX9_lesser_6 (by decide) ?_
    exact J_reti F ⟨_, rfl, rfl, h⟩ dX9_lesser_10
theorem dX9_isState_0 : decode cX9_isState 0 = .ok (.aload_n 0, 1) := by decide +kernel
theorem dX9_isState_1 : decode cX9_isState 1 = .ok (.getfield 7, 3) := by decide +kernel
theorem dX9_isState_4 : decode cX9_isState 4 = .ok (.iconst 0, 1) := by decide +kernel
theorem dX9_isState_5 : decode cX9_isState 5 = .ok (.iload_n 1, 1) := by decide +kernel
theorem dX9_isState_6 : decode cX9_isState 6 = .ok (.iadd, 1) := by decide +kernel
theorem dX9_isState_7 : decode cX9_isState 7 = .ok (.iaload, 1) := by decide +kernel
theorem dX9_isState_8 : decode cX9_isState 8 = .ok (.iload_n 2, 1) := by decide +kernel
theorem dX9_isState_9 : decode cX9_isState 9 = .ok (.if_icmp .ne 7, 3) := by decide +kernel
theorem dX9_isState_12 : decode cX9_isState 12 = .ok (.iconst 1, 1) := by decide +kernel
theorem dX9_isState_13 : decode cX9_isState 13 = .ok (.goto 4, 3) := by decide +kernel
theorem dX9_isState_16 : decode cX9_isState 16 = .ok (.iconst 0, 1) := by decide +kernel
theorem dX9_isState_17 : decode cX9_isState 17 = .ok (.ireturn, 1) := by decide +kernel
set_option maxRecDepth 20000 in
set_option maxHeartbeats 4000000 in
theorem C_X9_isState (l : Launch) (G : Gp) (x1 : Int32) (x2 : Int32)  {σ : St} {Q : Int32 → Prop} (h : wp_X9_isState σ x1 x2 Q) : Cn l yX9_isState cX9_isState 3 (some .boolean) 0 0 G [.ref (gb G + 244), .int x1, .int x2] σ (qI (fun r σ' => σ' = σ ∧ Q r)) := by
  refine Cn_of (L := [(0, .ref (gb G + 244)), (1, .int x1), (2, .int x2)]) RX9 (by decide) rfl (Nat.le_of_ble_eq_true rfl) rfl ?_
  intro p e s m below meth c F
  unfold wp_X9_isState at h
  refine J_aln F 0 dX9_isState_0 rfl rfl ?_
  refine J_gfa F (ci := 9) 1 rfl inX9 ly_244 (by decide) (by decide) rfl lf_X9_7 rfl dX9_isState_1 ?_
  refine J_ic F dX9_isState_4 ki_0 ?_
  refine J_iln F 1 dX9_isState_5 rfl rfl ?_
  refine J_iadd F dX9_isState_6 ?_
  obtain ⟨h_1, h⟩ := h
  refine J_iald F ly_245 h_1 dX9_isState_7 ?_
  refine J_iln F 2 dX9_isState_8 rfl rfl ?_
  refine J_cne F (tgt := 16) dX9_isState_9 (by decide) (fun c_2 => ?_) (fun c_2 => ?_)
  · have h := h.1 c_2
    refine J_ic F dX9_isState_16 ki_0 ?_
    exact J_retz F (Or.inl rfl) ⟨_, rfl, rfl, h⟩ dX9_isState_17
  · have h := h.2 c_2
    refine J_ic F dX9_isState_12 ki_1 ?_
    refine J_goto F (tgt := 17) dX9_isState_13 (by decide) ?_
    exact J_retz F (Or.inr rfl) ⟨_, rfl, rfl, h⟩ dX9_isState_17
theorem dX9_countOf_0 : decode cX9_countOf 0 = .ok (.iconst 0, 1) := by decide +kernel
theorem dX9_countOf_1 : decode cX9_countOf 1 = .ok (.istore_n 2, 1) := by decide +kernel
theorem dX9_countOf_2 : decode cX9_countOf 2 = .ok (.iconst 0, 1) := by decide +kernel
theorem dX9_countOf_3 : decode cX9_countOf 3 = .ok (.istore_n 3, 1) := by decide +kernel
theorem dX9_countOf_4 : decode cX9_countOf 4 = .ok (.iload_n 3, 1) := by decide +kernel
theorem dX9_countOf_5 : decode cX9_countOf 5 = .ok (.bipush 10, 2) := by decide +kernel
theorem dX9_countOf_7 : decode cX9_countOf 7 = .ok (.if_icmp .ge 26, 3) := by decide +kernel
theorem dX9_countOf_10 : decode cX9_countOf 10 = .ok (.iload_n 2, 1) := by decide +kernel
theorem dX9_countOf_11 : decode cX9_countOf 11 = .ok (.aload_n 0, 1) := by decide +kernel
theorem dX9_countOf_12 : decode cX9_countOf 12 = .ok (.iload_n 3, 1) := by decide +kernel
theorem dX9_countOf_13 : decode cX9_countOf 13 = .ok (.iload_n 1, 1) := by decide +kernel
theorem dX9_countOf_14 : decode cX9_countOf 14 = .ok (.invokevirtual 57, 3) := by decide +kernel
theorem dX9_countOf_17 : decode cX9_countOf 17 = .ok (.ifCond .eq 7, 3) := by decide +kernel
theorem dX9_countOf_20 : decode cX9_countOf 20 = .ok (.iconst 1, 1) := by decide +kernel
theorem dX9_countOf_21 : decode cX9_countOf 21 = .ok (.goto 4, 3) := by decide +kernel
theorem dX9_countOf_24 : decode cX9_countOf 24 = .ok (.iconst 0, 1) := by decide +kernel
theorem dX9_countOf_25 : decode cX9_countOf 25 = .ok (.iadd, 1) := by decide +kernel
theorem dX9_countOf_26 : decode cX9_countOf 26 = .ok (.istore_n 2, 1) := by decide +kernel
theorem dX9_countOf_27 : decode cX9_countOf 27 = .ok (.iinc 3 1, 3) := by decide +kernel
theorem dX9_countOf_30 : decode cX9_countOf 30 = .ok (.goto (-26), 3) := by decide +kernel
theorem dX9_countOf_33 : decode cX9_countOf 33 = .ok (.iload_n 2, 1) := by decide +kernel
theorem dX9_countOf_34 : decode cX9_countOf 34 = .ok (.ireturn, 1) := by decide +kernel
set_option maxRecDepth 20000 in
set_option maxHeartbeats 4000000 in
theorem wk_X9_countOf_4 {p : Program} {l : Launch} {e : Env} {s : State} {m : MethodId} {args : Array Value} {below : List Frame} {meth : Method} {c : Code} {G : Gp} {σ : St} {x1 : Int32}  {Q : Int32 → Prop} (F : FX p s m args meth c cX9_countOf 4 (some .int) RX9 G)   : ∀ (n9 : Nat) (x2 : Int32) (x3 : Int32), LP2 (wp_X9_countOf_4 σ x1 Q) n9 x2 x3 → J p l e (rmF 1 22) s m args below meth c 4 G (MQ below (QQ G (qI (fun r σ' => σ' = σ ∧ Q r))) args s 0 0 (fr G)) 0 0 4 [(0, .ref (gb G + 244)), (1, .int x1), (2, .int x2), (3, .int x3)] [] σ := by
  intro n9
  induction n9 with
  | zero => intro x2 x3 h; exact h.elim
  | succ n9 i4 =>
    intro x2 x3 h
    have h : wp_X9_countOf_4 σ x1 Q (LP2 (wp_X9_countOf_4 σ x1 Q) n9) x2 x3 := h
    unfold wp_X9_countOf_4 at h
    refine J_iln F 3 dX9_countOf_4 rfl rfl ?_
    refine J_bi F dX9_countOf_5 kb_10 ?_
    refine J_cge F (tgt := 33) dX9_countOf_7 (by decide) (fun c_1 => ?_) (fun c_1 => ?_)
    · have h := h.1 c_1
      refine J_iln F 2 dX9_countOf_33 rfl rfl ?_
      exact J_reti F ⟨_, rfl, rfl, h⟩ dX9_countOf_34
    · have h := h.2 c_1
      refine J_iln F 2 dX9_countOf_10 rfl rfl ?_
      refine J_aln F 0 dX9_countOf_11 rfl rfl ?_
      refine J_iln F 3 dX9_countOf_12 rfl rfl ?_
      refine J_iln F 1 dX9_countOf_13 rfl rfl ?_
      refine J_callVi F (As := [.int x3, .int x1]) (st := [.int x2]) (C_X9_isState l G x3 x1  h) (ci := 9) ly_244 (by decide) rfl rfl lm_X9_57 li_X9_isState ls_X9_isState ini_X9 lc_X9_isState hd_X9_isState (by decide) (Nat.le_of_ble_eq_true rfl) (by decide) rfl dX9_countOf_14 (fun r_2 σ_3 hh => ?_)
      clear h
      obtain ⟨e9, h⟩ := hh
      subst σ_3
      refine J_zeq F (tgt := 24) dX9_countOf_17 (by decide) (fun c_4 => ?_) (fun c_4 => ?_)
      · have h := h.1 c_4
        refine J_ic F dX9_countOf_24 ki_0 ?_
        refine J_iadd F dX9_countOf_25 ?_
        refine J_top (fun x2_5 ex2_5 => ?_)
        have h := h x2_5 ex2_5
        refine J_isn F (L' := [(2, .int x2_5), (0, .ref (gb G + 244)), (1, .int x1), (3, .int x3)]) dX9_countOf_26 rfl (by decide) rfl ?_
        obtain ⟨x3_6, ex3_6⟩ : ∃ z : Int32, z = x3 + (nI 1) := ⟨_, rfl⟩
        have h := h x3_6 ex3_6
        refine J_iinc F (v := x3_6) (L' := [(3, .int x3_6), (2, .int x2_5), (0, .ref (gb G + 244)), (1, .int x1)]) 3 dX9_countOf_27 rfl (by rw [ki_1, ex3_6]) (by decide) rfl ?_
        refine J_goto F (tgt := 4) dX9_countOf_30 (by decide) ?_
        refine J_sub [2, 3, 1, 0] rfl ?_
        exact i4 _ _ h
      · have h := h.2 c_4
        refine J_ic F dX9_countOf_20 ki_1 ?_
        refine J_goto F (tgt := 25) dX9_countOf_21 (by decide) ?_
        refine J_iadd F dX9_countOf_25 ?_
        refine J_top (fun x2_7 ex2_7 => ?_)
        have h := h x2_7 ex2_7
        refine J_isn F (L' := [(2, .int x2_7), (0, .ref (gb G + 244)), (1, .int x1), (3, .int x3)]) dX9_countOf_26 rfl (by decide) rfl ?_
        obtain ⟨x3_8, ex3_8⟩ : ∃ z : Int32, z = x3 + (nI 1) := ⟨_, rfl⟩
        have h := h x3_8 ex3_8
        refine J_iinc F (v := x3_8) (L' := [(3, .int x3_8), (2, .int x2_7), (0, .ref (gb G + 244)), (1, .int x1)]) 3 dX9_countOf_27 rfl (by rw [ki_1, ex3_8]) (by decide) rfl ?_
        refine J_goto F (tgt := 4) dX9_countOf_30 (by decide) ?_
        refine J_sub [2, 3, 1, 0] rfl ?_
        exact i4 _ _ h
set_option maxRecDepth 20000 in
set_option maxHeartbeats 4000000 in
theorem C_X9_countOf (l : Launch) (G : Gp) (x1 : Int32)  {σ : St} {Q : Int32 → Prop} (h : wp_X9_countOf σ x1 Q) : Cn l yX9_countOf cX9_countOf 4 (some .int) 1 22 G [.ref (gb G + 244), .int x1] σ (qI (fun r σ' => σ' = σ ∧ Q r)) := by
  refine Cn_of (L := [(0, .ref (gb G + 244)), (1, .int x1)]) RX9 (by decide) rfl (Nat.le_of_ble_eq_true rfl) rfl ?_
  intro p e s m below meth c F
  unfold wp_X9_countOf at h
  refine J_ic F dX9_countOf_0 ki_0 ?_
  refine J_isn F (L' := [(2, .int (nI 0)), (0, .ref (gb G + 244)), (1, .int x1)]) dX9_countOf_1 rfl (by decide) rfl ?_
  refine J_ic F dX9_countOf_2 ki_0 ?_
  refine J_isn F (L' := [(3, .int (nI 0)), (2, .int (nI 0)), (0, .ref (gb G + 244)), (1, .int x1)]) dX9_countOf_3 rfl (by decide) rfl ?_
  refine J_sub [2, 3, 1, 0] rfl ?_
  obtain ⟨n9, h⟩ := h
  exact wk_X9_countOf_4 F  n9 _ _ h
theorem dX9_bitsOf_0 : decode cX9_bitsOf 0 = .ok (.iconst 0, 1) := by decide +kernel
theorem dX9_bitsOf_1 : decode cX9_bitsOf 1 = .ok (.istore_n 2, 1) := by decide +kernel
theorem dX9_bitsOf_2 : decode cX9_bitsOf 2 = .ok (.iconst 0, 1) := by decide +kernel
theorem dX9_bitsOf_3 : decode cX9_bitsOf 3 = .ok (.istore_n 3, 1) := by decide +kernel
theorem dX9_bitsOf_4 : decode cX9_bitsOf 4 = .ok (.iload_n 3, 1) := by decide +kernel
theorem dX9_bitsOf_5 : decode cX9_bitsOf 5 = .ok (.bipush 10, 2) := by decide +kernel
theorem dX9_bitsOf_7 : decode cX9_bitsOf 7 = .ok (.if_icmp .ge 28, 3) := by decide +kernel
theorem dX9_bitsOf_10 : decode cX9_bitsOf 10 = .ok (.iload_n 2, 1) := by decide +kernel
theorem dX9_bitsOf_11 : decode cX9_bitsOf 11 = .ok (.aload_n 0, 1) := by decide +kernel
theorem dX9_bitsOf_12 : decode cX9_bitsOf 12 = .ok (.iload_n 3, 1) := by decide +kernel
theorem dX9_bitsOf_13 : decode cX9_bitsOf 13 = .ok (.iload_n 1, 1) := by decide +kernel
theorem dX9_bitsOf_14 : decode cX9_bitsOf 14 = .ok (.invokevirtual 57, 3) := by decide +kernel
theorem dX9_bitsOf_17 : decode cX9_bitsOf 17 = .ok (.ifCond .eq 9, 3) := by decide +kernel
theorem dX9_bitsOf_20 : decode cX9_bitsOf 20 = .ok (.iconst 1, 1) := by decide +kernel
theorem dX9_bitsOf_21 : decode cX9_bitsOf 21 = .ok (.iload_n 3, 1) := by decide +kernel
theorem dX9_bitsOf_22 : decode cX9_bitsOf 22 = .ok (.ishl, 1) := by decide +kernel
theorem dX9_bitsOf_23 : decode cX9_bitsOf 23 = .ok (.goto 4, 3) := by decide +kernel
theorem dX9_bitsOf_26 : decode cX9_bitsOf 26 = .ok (.iconst 0, 1) := by decide +kernel
theorem dX9_bitsOf_27 : decode cX9_bitsOf 27 = .ok (.ior, 1) := by decide +kernel
theorem dX9_bitsOf_28 : decode cX9_bitsOf 28 = .ok (.istore_n 2, 1) := by decide +kernel
theorem dX9_bitsOf_29 : decode cX9_bitsOf 29 = .ok (.iinc 3 1, 3) := by decide +kernel
theorem dX9_bitsOf_32 : decode cX9_bitsOf 32 = .ok (.goto (-28), 3) := by decide +kernel
theorem dX9_bitsOf_35 : decode cX9_bitsOf 35 = .ok (.iload_n 2, 1) := by decide +kernel
theorem dX9_bitsOf_36 : decode cX9_bitsOf 36 = .ok (.ireturn, 1) := by decide +kernel
set_option maxRecDepth 20000 in
set_option maxHeartbeats 4000000 in
theorem wk_X9_bitsOf_4 {p : Program} {l : Launch} {e : Env} {s : State} {m : MethodId} {args : Array Value} {below : List Frame} {meth : Method} {c : Code} {G : Gp} {σ : St} {x1 : Int32}  {Q : Int32 → Prop} (F : FX p s m args meth c cX9_bitsOf 4 (some .int) RX9 G)   : ∀ (n9 : Nat) (x2 : Int32) (x3 : Int32), LP2 (wp_X9_bitsOf_4 σ x1 Q) n9 x2 x3 → J p l e (rmF 1 22) s m args below meth c 4 G (MQ below (QQ G (qI (fun r σ' => σ' = σ ∧ Q r))) args s 0 0 (fr G)) 0 0 4 [(0, .ref (gb G + 244)), (1, .int x1), (2, .int x2), (3, .int x3)] [] σ := by
  intro n9
  induction n9 with
  | zero => intro x2 x3 h; exact h.elim
  | succ n9 i4 =>
    intro x2 x3 h
    have h : wp_X9_bitsOf_4 σ x1 Q (LP2 (wp_X9_bitsOf_4 σ x1 Q) n9) x2 x3 := h
    unfold wp_X9_bitsOf_4 at h
    refine J_iln F 3 dX9_bitsOf_4 rfl rfl ?_
    refine J_bi F dX9_bitsOf_5 kb_10 ?_
    refine J_cge F (tgt := 35) dX9_bitsOf_7 (by decide) (fun c_1 => ?_) (fun c_1 => ?_)
    · have h := h.1 c_1
      refine J_iln F 2 dX9_bitsOf_35 rfl rfl ?_
      exact J_reti F ⟨_, rfl, rfl, h⟩ dX9_bitsOf_36
    · have h := h.2 c_1
      refine J_iln F 2 dX9_bitsOf_10 rfl rfl ?_
      refine J_aln F 0 dX9_bitsOf_11 rfl rfl ?_
      refine J_iln F 3 dX9_bitsOf_12 rfl rfl ?_
      refine J_iln F 1 dX9_bitsOf_13 rfl rfl ?_
      refine J_callVi F (As := [.int x3, .int x1]) (st := [.int x2]) (C_X9_isState l G x3 x1  h) (ci := 9) ly_244 (by decide) rfl rfl lm_X9_57 li_X9_isState ls_X9_isState ini_X9 lc_X9_isState hd_X9_isState (by decide) (Nat.le_of_ble_eq_true rfl) (by decide) rfl dX9_bitsOf_14 (fun r_2 σ_3 hh => ?_)
      clear h
      obtain ⟨e9, h⟩ := hh
      subst σ_3
      refine J_zeq F (tgt := 26) dX9_bitsOf_17 (by decide) (fun c_4 => ?_) (fun c_4 => ?_)
      · have h := h.1 c_4
        refine J_ic F dX9_bitsOf_26 ki_0 ?_
        refine J_ior F dX9_bitsOf_27 ?_
        refine J_top (fun x2_5 ex2_5 => ?_)
        have h := h x2_5 ex2_5
        refine J_isn F (L' := [(2, .int x2_5), (0, .ref (gb G + 244)), (1, .int x1), (3, .int x3)]) dX9_bitsOf_28 rfl (by decide) rfl ?_
        obtain ⟨x3_6, ex3_6⟩ : ∃ z : Int32, z = x3 + (nI 1) := ⟨_, rfl⟩
        have h := h x3_6 ex3_6
        refine J_iinc F (v := x3_6) (L' := [(3, .int x3_6), (2, .int x2_5), (0, .ref (gb G + 244)), (1, .int x1)]) 3 dX9_bitsOf_29 rfl (by rw [ki_1, ex3_6]) (by decide) rfl ?_
        refine J_goto F (tgt := 4) dX9_bitsOf_32 (by decide) ?_
        refine J_sub [2, 3, 1, 0] rfl ?_
        exact i4 _ _ h
      · have h := h.2 c_4
        refine J_ic F dX9_bitsOf_20 ki_1 ?_
        refine J_iln F 3 dX9_bitsOf_21 rfl rfl ?_
        refine J_ishl F dX9_bitsOf_22 ?_
        refine J_goto F (tgt := 27) dX9_bitsOf_23 (by decide) ?_
        refine J_ior F dX9_bitsOf_27 ?_
        refine J_top (fun x2_7 ex2_7 => ?_)
        have h := h x2_7 ex2_7
        refine J_isn F (L' := [(2, .int x2_7), (0, .ref (gb G + 244)), (1, .int x1), (3, .int x3)]) dX9_bitsOf_28 rfl (by decide) rfl ?_
        obtain ⟨x3_8, ex3_8⟩ : ∃ z : Int32, z = x3 + (nI 1) := ⟨_, rfl⟩
        have h := h x3_8 ex3_8
        refine J_iinc F (v := x3_8) (L' := [(3, .int x3_8), (2, .int x2_7), (0, .ref (gb G + 244)), (1, .int x1)]) 3 dX9_bitsOf_29 rfl (by rw [ki_1, ex3_8]) (by decide) rfl ?_
        refine J_goto F (tgt := 4) dX9_bitsOf_32 (by decide) ?_
        refine J_sub [2, 3, 1, 0] rfl ?_
        exact i4 _ _ h
set_option maxRecDepth 20000 in
set_option maxHeartbeats 4000000 in
theorem C_X9_bitsOf (l : Launch) (G : Gp) (x1 : Int32)  {σ : St} {Q : Int32 → Prop} (h : wp_X9_bitsOf σ x1 Q) : Cn l yX9_bitsOf cX9_bitsOf 4 (some .int) 1 22 G [.ref (gb G + 244), .int x1] σ (qI (fun r σ' => σ' = σ ∧ Q r)) := by
  refine Cn_of (L := [(0, .ref (gb G + 244)), (1, .int x1)]) RX9 (by decide) rfl (Nat.le_of_ble_eq_true rfl) rfl ?_
  intro p e s m below meth c F
  unfold wp_X9_bitsOf at h
  refine J_ic F dX9_bitsOf_0 ki_0 ?_
  refine J_isn F (L' := [(2, .int (nI 0)), (0, .ref (gb G + 244)), (1, .int x1)]) dX9_bitsOf_1 rfl (by decide) rfl ?_
  refine J_ic F dX9_bitsOf_2 ki_0 ?_
  refine J_isn F (L' := [(3, .int (nI 0)), (2, .int (nI 0)), (0, .ref (gb G + 244)), (1, .int x1)]) dX9_bitsOf_3 rfl (by decide) rfl ?_
  refine J_sub [2, 3, 1, 0] rfl ?_
  obtain ⟨n9, h⟩ := h
  exact wk_X9_bitsOf_4 F  n9 _ _ h
theorem dX9_depthOf_0 : decode cX9_depthOf 0 = .ok (.iconst 0, 1) := by decide +kernel
theorem dX9_depthOf_1 : decode cX9_depthOf 1 = .ok (.istore_n 1, 1) := by decide +kernel
theorem dX9_depthOf_2 : decode cX9_depthOf 2 = .ok (.iload_n 0, 1) := by decide +kernel
theorem dX9_depthOf_3 : decode cX9_depthOf 3 = .ok (.iload_n 1, 1) := by decide +kernel
theorem dX9_depthOf_4 : decode cX9_depthOf 4 = .ok (.iconst 1, 1) := by decide +kernel
theorem dX9_depthOf_5 : decode cX9_depthOf 5 = .ok (.iadd, 1) := by decide +kernel
theorem dX9_depthOf_6 : decode cX9_depthOf 6 = .ok (.ishr, 1) := by decide +kernel
theorem dX9_depthOf_7 : decode cX9_depthOf 7 = .ok (.ifCond .le 9, 3) := by decide +kernel
theorem dX9_depthOf_10 : decode cX9_depthOf 10 = .ok (.iinc 1 1, 3) := by decide +kernel
theorem dX9_depthOf_13 : decode cX9_depthOf 13 = .ok (.goto (-11), 3) := by decide +kernel
theorem dX9_depthOf_16 : decode cX9_depthOf 16 = .ok (.iload_n 1, 1) := by decide +kernel
theorem dX9_depthOf_17 : decode cX9_depthOf 17 = .ok (.ireturn, 1) := by decide +kernel
set_option maxRecDepth 20000 in
set_option maxHeartbeats 4000000 in
theorem wk_X9_depthOf_2 {p : Program} {l : Launch} {e : Env} {s : State} {m : MethodId} {args : Array Value} {below : List Frame} {meth : Method} {c : Code} {G : Gp} {σ : St} {x0 : Int32}  {Q : Int32 → Prop} (F : FX p s m args meth c cX9_depthOf 2 (some .int) RX9 G)   : ∀ (n9 : Nat) (x1 : Int32), LP1 (wp_X9_depthOf_2 σ x0 Q) n9 x1 → J p l e (rmF 0 0) s m args below meth c 2 G (MQ below (QQ G (qI (fun r σ' => σ' = σ ∧ Q r))) args s 0 0 (fr G)) 0 0 2 [(0, .int x0), (1, .int x1)] [] σ := by
  intro n9
  induction n9 with
  | zero => intro x1 h; exact h.elim
  | succ n9 i2 =>
    intro x1 h
    have h : wp_X9_depthOf_2 σ x0 Q (LP1 (wp_X9_depthOf_2 σ x0 Q) n9) x1 := h
    unfold wp_X9_depthOf_2 at h
    refine J_iln F 0 dX9_depthOf_2 rfl rfl ?_
    refine J_iln F 1 dX9_depthOf_3 rfl rfl ?_
    refine J_ic F dX9_depthOf_4 ki_1 ?_
    refine J_iadd F dX9_depthOf_5 ?_
    refine J_ishr F dX9_depthOf_6 ?_
    refine J_zle F (tgt := 16) dX9_depthOf_7 (by decide) (fun c_1 => ?_) (fun c_1 => ?_)
    · have h := h.1 c_1
      refine J_iln F 1 dX9_depthOf_16 rfl rfl ?_
      exact J_reti F ⟨_, rfl, rfl, h⟩ dX9_depthOf_17
    · have h := h.2 c_1
      obtain ⟨x1_2, ex1_2⟩ : ∃ z : Int32, z = x1 + (nI 1) := ⟨_, rfl⟩
      have h := h x1_2 ex1_2
      refine J_iinc F (v := x1_2) (L' := [(1, .int x1_2), (0, .int x0)]) 1 dX9_depthOf_10 rfl (by rw [ki_1, ex1_2]) (by decide) rfl ?_
      refine J_goto F (tgt := 2) dX9_depthOf_13 (by decide) ?_
      refine J_sub [1, 0] rfl ?_
      exact i2 _ h
set_option maxRecDepth 20000 in
set_option maxHeartbeats 4000000 in
theorem C_X9_depthOf (l : Launch) (G : Gp) (x0 : Int32)  {σ : St} {Q : Int32 → Prop} (h : wp_X9_depthOf σ x0 Q) : Cn l yX9_depthOf cX9_depthOf 2 (some .int) 0 0 G [.int x0] σ (qI (fun r σ' => σ' = σ ∧ Q r)) := by
  refine Cn_of (L := [(0, .int x0)]) RX9 (by decide) rfl (Nat.le_of_ble_eq_true rfl) rfl ?_
  intro p e s m below meth c F
  unfold wp_X9_depthOf at h
  refine J_ic F dX9_depthOf_0 ki_0 ?_
  refine J_isn F (L' := [(1, .int (nI 0)), (0, .int x0)]) dX9_depthOf_1 rfl (by decide) rfl ?_
  refine J_sub [1, 0] rfl ?_
  obtain ⟨n9, h⟩ := h
  exact wk_X9_depthOf_2 F  n9 _ h
theorem dX9_boxes_0 : decode cX9_boxes 0 = .ok (.aload_n 0, 1) := by decide +kernel
theorem dX9_boxes_1 : decode cX9_boxes 1 = .ok (.iconst 0, 1) := by decide +kernel
theorem dX9_boxes_2 : decode cX9_boxes 2 = .ok (.putfield 61, 3) := by decide +kernel
theorem dX9_boxes_5 : decode cX9_boxes 5 = .ok (.aload_n 0, 1) := by decide +kernel
theorem dX9_boxes_6 : decode cX9_boxes 6 = .ok (.iconst 0, 1) := by decide +kernel
theorem dX9_boxes_7 : decode cX9_boxes 7 = .ok (.putfield 64, 3) := by decide +kernel
theorem dX9_boxes_10 : decode cX9_boxes 10 = .ok (.aload_n 0, 1) := by decide +kernel
theorem dX9_boxes_11 : decode cX9_boxes 11 = .ok (.bipush 32, 2) := by decide +kernel
theorem dX9_boxes_13 : decode cX9_boxes 13 = .ok (.putfield 67, 3) := by decide +kernel
theorem dX9_boxes_16 : decode cX9_boxes 16 = .ok (.aload_n 0, 1) := by decide +kernel
theorem dX9_boxes_17 : decode cX9_boxes 17 = .ok (.bipush 32, 2) := by decide +kernel
theorem dX9_boxes_19 : decode cX9_boxes 19 = .ok (.putfield 70, 3) := by decide +kernel
theorem dX9_boxes_22 : decode cX9_boxes 22 = .ok (.iload_n 1, 1) := by decide +kernel
theorem dX9_boxes_23 : decode cX9_boxes 23 = .ok (.invokestatic 73, 3) := by decide +kernel
theorem dX9_boxes_26 : decode cX9_boxes 26 = .ok (.iconst 1, 1) := by decide +kernel
theorem dX9_boxes_27 : decode cX9_boxes 27 = .ok (.isub, 1) := by decide +kernel
theorem dX9_boxes_28 : decode cX9_boxes 28 = .ok (.istore_n 2, 1) := by decide +kernel
theorem dX9_boxes_29 : decode cX9_boxes 29 = .ok (.iload_n 2, 1) := by decide +kernel
theorem dX9_boxes_30 : decode cX9_boxes 30 = .ok (.ifCond .lt 81, 3) := by decide +kernel
theorem dX9_boxes_33 : decode cX9_boxes 33 = .ok (.iload_n 1, 1) := by decide +kernel
theorem dX9_boxes_34 : decode cX9_boxes 34 = .ok (.iload_n 2, 1) := by decide +kernel
theorem dX9_boxes_35 : decode cX9_boxes 35 = .ok (.ishr, 1) := by decide +kernel
theorem dX9_boxes_36 : decode cX9_boxes 36 = .ok (.iconst 1, 1) := by decide +kernel
theorem dX9_boxes_37 : decode cX9_boxes 37 = .ok (.iand, 1) := by decide +kernel
theorem dX9_boxes_38 : decode cX9_boxes 38 = .ok (.istore_n 3, 1) := by decide +kernel
theorem dX9_boxes_39 : decode cX9_boxes 39 = .ok (.iload_n 1, 1) := by decide +kernel
theorem dX9_boxes_40 : decode cX9_boxes 40 = .ok (.invokestatic 73, 3) := by decide +kernel
theorem dX9_boxes_43 : decode cX9_boxes 43 = .ok (.iconst 1, 1) := by decide +kernel
theorem dX9_boxes_44 : decode cX9_boxes 44 = .ok (.isub, 1) := by decide +kernel
theorem dX9_boxes_45 : decode cX9_boxes 45 = .ok (.iload_n 2, 1) := by decide +kernel
theorem dX9_boxes_46 : decode cX9_boxes 46 = .ok (.isub, 1) := by decide +kernel
theorem dX9_boxes_47 : decode cX9_boxes 47 = .ok (.iconst 2, 1) := by decide +kernel
theorem dX9_boxes_48 : decode cX9_boxes 48 = .ok (.irem, 1) := by decide +kernel
theorem dX9_boxes_49 : decode cX9_boxes 49 = .ok (.ifCond .ne 31, 3) := by decide +kernel
theorem dX9_boxes_52 : decode cX9_boxes 52 = .ok (.aload_n 0, 1) := by decide +kernel
theorem dX9_boxes_53 : decode cX9_boxes 53 = .ok (.dup, 1) := by decide +kernel
theorem dX9_boxes_54 : decode cX9_boxes 54 = .ok (.getfield 67, 3) := by decide +kernel
theorem dX9_boxes_57 : decode cX9_boxes 57 = .ok (.iconst 2, 1) := by decide +kernel
theorem dX9_boxes_58 : decode cX9_boxes 58 = .ok (.idiv, 1) := by decide +kernel
theorem dX9_boxes_59 : decode cX9_boxes 59 = .ok (.putfield 67, 3) := by decide +kernel
theorem dX9_boxes_62 : decode cX9_boxes 62 = .ok (.aload_n 0, 1) := by decide +kernel
theorem dX9_boxes_63 : decode cX9_boxes 63 = .ok (.dup, 1) := by decide +kernel
theorem dX9_boxes_64 : decode cX9_boxes 64 = .ok (.getfield 61, 3) := by decide +kernel
theorem dX9_boxes_67 : decode cX9_boxes 67 = .ok (.iload_n 3, 1) := by decide +kernel
theorem dX9_boxes_68 : decode cX9_boxes 68 = .ok (.aload_n 0, 1) := by decide +kernel
theorem dX9_boxes_69 : decode cX9_boxes 69 = .ok (.getfield 67, 3) := by decide +kernel
theorem dX9_boxes_72 : decode cX9_boxes 72 = .ok (.imul, 1) := by decide +kernel
theorem dX9_boxes_73 : decode cX9_boxes 73 = .ok (.iadd, 1) := by decide +kernel
theorem dX9_boxes_74 : decode cX9_boxes 74 = .ok (.putfield 61, 3) := by decide +kernel
theorem dX9_boxes_77 : decode cX9_boxes 77 = .ok (.goto 28, 3) := by decide +kernel
theorem dX9_boxes_80 : decode cX9_boxes 80 = .ok (.aload_n 0, 1) := by decide +kernel
theorem dX9_boxes_81 : decode cX9_boxes 81 = .ok (.dup, 1) := by decide +kernel
theorem dX9_boxes_82 : decode cX9_boxes 82 = .ok (.getfield 70, 3) := by decide +kernel
theorem dX9_boxes_85 : decode cX9_boxes 85 = .ok (.iconst 2, 1) := by decide +kernel
theorem dX9_boxes_86 : decode cX9_boxes 86 = .ok (.idiv, 1) := by decide +kernel
theorem dX9_boxes_87 : decode cX9_boxes 87 = .ok (.putfield 70, 3) := by decide +kernel
theorem dX9_boxes_90 : decode cX9_boxes 90 = .ok (.aload_n 0, 1) := by decide +kernel
theorem dX9_boxes_91 : decode cX9_boxes 91 = .ok (.dup, 1) := by decide +kernel
theorem dX9_boxes_92 : decode cX9_boxes 92 = .ok (.getfield 64, 3) := by decide +kernel
theorem dX9_boxes_95 : decode cX9_boxes 95 = .ok (.iload_n 3, 1) := by decide +kernel
theorem dX9_boxes_96 : decode cX9_boxes 96 = .ok (.aload_n 0, 1) := by decide +kernel
theorem dX9_boxes_97 : decode cX9_boxes 97 = .ok (.getfield 70, 3) := by decide +kernel
theorem dX9_boxes_100 : decode cX9_boxes 100 = .ok (.imul, 1) := by decide +kernel
theorem dX9_boxes_101 : decode cX9_boxes 101 = .ok (.iadd, 1) := by decide +kernel
theorem dX9_boxes_102 : decode cX9_boxes 102 = .ok (.putfield 64, 3) := by decide +kernel
theorem dX9_boxes_105 : decode cX9_boxes 105 = .ok (.iinc 2 (-1), 3) := by decide +kernel
theorem dX9_boxes_108 : decode cX9_boxes 108 = .ok (.goto (-79), 3) := by decide +kernel
theorem dX9_boxes_111 : decode cX9_boxes 111 = .ok (.return_, 1) := by decide +kernel
set_option maxRecDepth 20000 in
set_option maxHeartbeats 4000000 in
theorem wk_X9_boxes_29 {p : Program} {l : Launch} {e : Env} {s : State} {m : MethodId} {args : Array Value} {below : List Frame} {meth : Method} {c : Code} {G : Gp} {x1 : Int32}  {Q : St → Prop} (F : FX p s m args meth c cX9_boxes 4 none RX9 G)   : ∀ (n9 : Nat) (σ : St) (x2 : Int32), LP2 (wp_X9_boxes_29 x1 Q) n9 σ x2 → J p l e (rmF 1 21) s m args below meth c 4 G (MQ below (QQ G (qV Q)) args s 0 0 (fr G)) 0 0 29 [(0, .ref (gb G + 244)), (1, .int x1), (2, .int x2)] [] σ := by
  intro n9
  induction n9 with
  | zero => intro σ x2 h; exact h.elim
  | succ n9 i29 =>
    intro σ x2 h
    have h : wp_X9_boxes_29 x1 Q (LP2 (wp_X9_boxes_29 x1 Q) n9) σ x2 := h
    unfold wp_X9_boxes_29 at h
    refine J_iln F 2 dX9_boxes_29 rfl rfl ?_
    refine J_zlt F (tgt := 111) dX9_boxes_30 (by decide) (fun c_1 => ?_) (fun c_1 => ?_)
    · have h := h.1 c_1
      exact J_retv F ⟨rfl, h⟩ dX9_boxes_111
    · have h := h.2 c_1
      refine J_iln F 1 dX9_boxes_33 rfl rfl ?_
      refine J_iln F 2 dX9_boxes_34 rfl rfl ?_
      refine J_ishr F dX9_boxes_35 ?_
      refine J_ic F dX9_boxes_36 ki_1 ?_
      refine J_iand F dX9_boxes_37 ?_
      refine J_top (fun x3_2 ex3_2 => ?_)
      have h := h x3_2 ex3_2
      refine J_isn F (L' := [(3, .int x3_2), (0, .ref (gb G + 244)), (1, .int x1), (2, .int x2)]) dX9_boxes_38 rfl (by decide) rfl ?_
      refine J_iln F 2 dX9_boxes_39 rfl rfl ?_
      refine J_callSi F (As := [.int x1]) (st := []) (C_X9_depthOf l G x1  h) lm_X9_73 li_X9_depthOf ini_X9 lc_X9_depthOf hd_X9_depthOf (by decide) (Nat.le_of_ble_eq_true rfl) (by decide) rfl dX9_boxes_40 (fun r_3 σ_4 hh => ?_)
      clear h
      obtain ⟨e9, h⟩ := hh
      subst σ_4
      refine J_ic F dX9_boxes_43 ki_1 ?_
      refine J_isub F dX9_boxes_44 ?_
      refine J_iln F 3 dX9_boxes_45 rfl rfl ?_
      refine J_isub F dX9_boxes_46 ?_
      refine J_ic F dX9_boxes_47 ki_2 ?_
      refine J_irem F dX9_boxes_48 nz_2 ?_
      refine J_zne F (tgt := 80) dX9_boxes_49 (by decide) (fun c_5 => ?_) (fun c_5 => ?_)
      · have h := h.1 c_5
        refine J_aln F 1 dX9_boxes_80 rfl rfl ?_
        refine J_dup F dX9_boxes_81 rfl ?_
        refine J_gfi F (ci := 9) 16 rfl inX9 ly_244 (by decide) (by decide) rfl lf_X9_70 rfl dX9_boxes_82 ?_
        refine J_ic F dX9_boxes_85 ki_2 ?_
        refine J_idiv F dX9_boxes_86 nz_2 ?_
        refine J_pfi F (ci := 9) 16 rfl inX9 tyX9 tyX9_ok nmX9 ly_244 (by decide) (by decide) rfl lf_X9_70 rfl rfl (tyX9_ok 16 (by decide)) rfl rfl dX9_boxes_87 ?_
        refine J_st (fun σ_6 eσ_6 => ?_)
        have h := h σ_6 eσ_6
        refine J_aln F 1 dX9_boxes_90 rfl rfl ?_
        refine J_dup F dX9_boxes_91 rfl ?_
        refine J_gfi F (ci := 9) 14 rfl inX9 ly_244 (by decide) (by decide) rfl lf_X9_64 rfl dX9_boxes_92 ?_
        refine J_iln F 0 dX9_boxes_95 rfl rfl ?_
        refine J_aln F 1 dX9_boxes_96 rfl rfl ?_
        refine J_gfi F (ci := 9) 16 rfl inX9 ly_244 (by decide) (by decide) rfl lf_X9_70 rfl dX9_boxes_97 ?_
        refine J_imul F dX9_boxes_100 ?_
        refine J_iadd F dX9_boxes_101 ?_
        refine J_pfi F (ci := 9) 14 rfl inX9 tyX9 tyX9_ok nmX9 ly_244 (by decide) (by decide) rfl lf_X9_64 rfl rfl (tyX9_ok 14 (by decide)) rfl rfl dX9_boxes_102 ?_
        refine J_st (fun σ_7 eσ_7 => ?_)
        have h := h σ_7 eσ_7
        obtain ⟨x2_8, ex2_8⟩ : ∃ z : Int32, z = x2 + (-1) := ⟨_, rfl⟩
        have h := h x2_8 ex2_8
        refine J_iinc F (v := x2_8) (L' := [(2, .int x2_8), (3, .int x3_2), (0, .ref (gb G + 244)), (1, .int x1)]) 3 dX9_boxes_105 rfl (by rw [ki_m1, ex2_8]) (by decide) rfl ?_
        refine J_goto F (tgt := 29) dX9_boxes_108 (by decide) ?_
        refine J_sub [2, 3, 0] rfl ?_
        exact i29 _ _ h
      · have h := h.2 c_5
        refine J_aln F 1 dX9_boxes_52 rfl rfl ?_
        refine J_dup F dX9_boxes_53 rfl ?_
        refine J_gfi F (ci := 9) 15 rfl inX9 ly_244 (by decide) (by decide) rfl lf_X9_67 rfl dX9_boxes_54 ?_
        refine J_ic F dX9_boxes_57 ki_2 ?_
        refine J_idiv F dX9_boxes_58 nz_2 ?_
        refine J_pfi F (ci := 9) 15 rfl inX9 tyX9 tyX9_ok nmX9 ly_244 (by decide) (by decide) rfl lf_X9_67 rfl rfl (tyX9_ok 15 (by decide)) rfl rfl dX9_boxes_59 ?_
        refine J_st (fun σ_9 eσ_9 => ?_)
        have h := h σ_9 eσ_9
        refine J_aln F 1 dX9_boxes_62 rfl rfl ?_
        refine J_dup F dX9_boxes_63 rfl ?_
        refine J_gfi F (ci := 9) 13 rfl inX9 ly_244 (by decide) (by decide) rfl lf_X9_61 rfl dX9_boxes_64 ?_
        refine J_iln F 0 dX9_boxes_67 rfl rfl ?_
        refine J_aln F 1 dX9_boxes_68 rfl rfl ?_
        refine J_gfi F (ci := 9) 15 rfl inX9 ly_244 (by decide) (by decide) rfl lf_X9_67 rfl dX9_boxes_69 ?_
        refine J_imul F dX9_boxes_72 ?_
        refine J_iadd F dX9_boxes_73 ?_
        refine J_pfi F (ci := 9) 13 rfl inX9 tyX9 tyX9_ok nmX9 ly_244 (by decide) (by decide) rfl lf_X9_61 rfl rfl (tyX9_ok 13 (by decide)) rfl rfl dX9_boxes_74 ?_
        refine J_st (fun σ_10 eσ_10 => ?_)
        have h := h σ_10 eσ_10
        refine J_goto F (tgt := 105) dX9_boxes_77 (by decide) ?_
        obtain ⟨x2_11, ex2_11⟩ : ∃ z : Int32, z = x2 + (-1) := ⟨_, rfl⟩
        have h := h x2_11 ex2_11
        refine J_iinc F (v := x2_11) (L' := [(2, .int x2_11), (3, .int x3_2), (0, .ref (gb G + 244)), (1, .int x1)]) 3 dX9_boxes_105 rfl (by rw [ki_m1, ex2_11]) (by decide) rfl ?_
        refine J_goto F (tgt := 29) dX9_boxes_108 (by decide) ?_
        refine J_sub [2, 3, 0] rfl ?_
        exact i29 _ _ h
set_option maxRecDepth 20000 in
set_option maxHeartbeats 4000000 in
theorem C_X9_boxes (l : Launch) (G : Gp) (x1 : Int32)  {σ : St} {Q : St → Prop} (h : wp_X9_boxes σ x1 Q) : Cn l yX9_boxes cX9_boxes 4 none 1 21 G [.ref (gb G + 244), .int x1] σ (qV Q) := by
  refine Cn_of (L := [(0, .ref (gb G + 244)), (1, .int x1)]) RX9 (by decide) rfl (Nat.le_of_ble_eq_true rfl) rfl ?_
  intro p e s m below meth c F
  unfold wp_X9_boxes at h
  refine J_aln F 0 dX9_boxes_0 rfl rfl ?_
  refine J_ic F dX9_boxes_1 ki_0 ?_
  refine J_pfi F (ci := 9) 13 rfl inX9 tyX9 tyX9_ok nmX9 ly_244 (by decide) (by decide) rfl lf_X9_61 rfl rfl (tyX9_ok 13 (by decide)) rfl rfl dX9_boxes_2 ?_
  refine J_st (fun σ_12 eσ_12 => ?_)
  have h := h σ_12 eσ_12
  refine J_aln F 0 dX9_boxes_5 rfl rfl ?_
  refine J_ic F dX9_boxes_6 ki_0 ?_
  refine J_pfi F (ci := 9) 14 rfl inX9 tyX9 tyX9_ok nmX9 ly_244 (by decide) (by decide) rfl lf_X9_64 rfl rfl (tyX9_ok 14 (by decide)) rfl rfl dX9_boxes_7 ?_
  refine J_st (fun σ_13 eσ_13 => ?_)
  have h := h σ_13 eσ_13
  refine J_aln F 0 dX9_boxes_10 rfl rfl ?_
  refine J_bi F dX9_boxes_11 kb_32 ?_
  refine J_pfi F (ci := 9) 15 rfl inX9 tyX9 tyX9_ok nmX9 ly_244 (by decide) (by decide) rfl lf_X9_67 rfl rfl (tyX9_ok 15 (by decide)) rfl rfl dX9_boxes_13 ?_
  refine J_st (fun σ_14 eσ_14 => ?_)
  have h := h σ_14 eσ_14
  refine J_aln F 0 dX9_boxes_16 rfl rfl ?_
  refine J_bi F dX9_boxes_17 kb_32 ?_
  refine J_pfi F (ci := 9) 16 rfl inX9 tyX9 tyX9_ok nmX9 ly_244 (by decide) (by decide) rfl lf_X9_70 rfl rfl (tyX9_ok 16 (by decide)) rfl rfl dX9_boxes_19 ?_
  refine J_st (fun σ_15 eσ_15 => ?_)
  have h := h σ_15 eσ_15
  refine J_iln F 1 dX9_boxes_22 rfl rfl ?_
  refine J_callSi F (As := [.int x1]) (st := []) (C_X9_depthOf l G x1  h) lm_X9_73 li_X9_depthOf ini_X9 lc_X9_depthOf hd_X9_depthOf (by decide) (Nat.le_of_ble_eq_true rfl) (by decide) rfl dX9_boxes_23 (fun r_16 σ_17 hh => ?_)
  clear h
  obtain ⟨e9, h⟩ := hh
  subst σ_17
  refine J_ic F dX9_boxes_26 ki_1 ?_
  refine J_isub F dX9_boxes_27 ?_
  refine J_top (fun x2_18 ex2_18 => ?_)
  have h := h x2_18 ex2_18
  refine J_isn F (L' := [(2, .int x2_18), (0, .ref (gb G + 244)), (1, .int x1)]) dX9_boxes_28 rfl (by decide) rfl ?_
  refine J_sub [1, 2, 0] rfl ?_
  obtain ⟨n9, h⟩ := h
  exact wk_X9_boxes_29 F  n9 _ _ h
theorem dX9_ownerOf_0 : decode cX9_ownerOf 0 = .ok (.aload_n 0, 1) := by decide +kernel
theorem dX9_ownerOf_1 : decode cX9_ownerOf 1 = .ok (.getfield 7, 3) := by decide +kernel
theorem dX9_ownerOf_4 : decode cX9_ownerOf 4 = .ok (.sipush 538, 3) := by decide +kernel
theorem dX9_ownerOf_7 : decode cX9_ownerOf 7 = .ok (.sipush 2048, 3) := by decide +kernel
theorem dX9_ownerOf_10 : decode cX9_ownerOf 10 = .ok (.iload_n 1, 1) := by decide +kernel
theorem dX9_ownerOf_11 : decode cX9_ownerOf 11 = .ok (.imul, 1) := by decide +kernel
theorem dX9_ownerOf_12 : decode cX9_ownerOf 12 = .ok (.iadd, 1) := by decide +kernel
theorem dX9_ownerOf_13 : decode cX9_ownerOf 13 = .ok (.iload_n 2, 1) := by decide +kernel
theorem dX9_ownerOf_14 : decode cX9_ownerOf 14 = .ok (.iadd, 1) := by decide +kernel
theorem dX9_ownerOf_15 : decode cX9_ownerOf 15 = .ok (.iaload, 1) := by decide +kernel
theorem dX9_ownerOf_16 : decode cX9_ownerOf 16 = .ok (.iconst 1, 1) := by decide +kernel
theorem dX9_ownerOf_17 : decode cX9_ownerOf 17 = .ok (.isub, 1) := by decide +kernel
theorem dX9_ownerOf_18 : decode cX9_ownerOf 18 = .ok (.ireturn, 1) := by decide +kernel
set_option maxRecDepth 20000 in
set_option maxHeartbeats 4000000 in
theorem C_X9_ownerOf (l : Launch) (G : Gp) (x1 : Int32) (x2 : Int32)  {σ : St} {Q : Int32 → Prop} (h : wp_X9_ownerOf σ x1 x2 Q) : Cn l yX9_ownerOf cX9_ownerOf 3 (some .int) 0 0 G [.ref (gb G + 244), .int x1, .int x2] σ (qI (fun r σ' => σ' = σ ∧ Q r)) := by
  refine Cn_of (L := [(0, .ref (gb G + 244)), (1, .int x1), (2, .int x2)]) RX9 (by decide) rfl (Nat.le_of_ble_eq_true rfl) rfl ?_
  intro p e s m below meth c F
  unfold wp_X9_ownerOf at h
  refine J_aln F 0 dX9_ownerOf_0 rfl rfl ?_
  refine J_gfa F (ci := 9) 1 rfl inX9 ly_244 (by decide) (by decide) rfl lf_X9_7 rfl dX9_ownerOf_1 ?_
  refine J_si F dX9_ownerOf_4 ks_538 ?_
  refine J_si F dX9_ownerOf_7 ks_2048 ?_
  refine J_iln F 1 dX9_ownerOf_10 rfl rfl ?_
  refine J_imul F dX9_ownerOf_11 ?_
  refine J_iadd F dX9_ownerOf_12 ?_
  refine J_iln F 2 dX9_ownerOf_13 rfl rfl ?_
  refine J_iadd F dX9_ownerOf_14 ?_
  obtain ⟨h_1, h⟩ := h
  refine J_iald F ly_245 h_1 dX9_ownerOf_15 ?_
  refine J_ic F dX9_ownerOf_16 ki_1 ?_
  refine J_isub F dX9_ownerOf_17 ?_
  exact J_reti F ⟨_, rfl, rfl, h⟩ dX9_ownerOf_18
theorem dX9_owns_0 : decode cX9_owns 0 = .ok (.aload_n 0, 1) := by decide +kernel
theorem dX9_owns_1 : decode cX9_owns 1 = .ok (.getfield 7, 3) := by decide +kernel
theorem dX9_owns_4 : decode cX9_owns 4 = .ok (.sipush 538, 3) := by decide +kernel
theorem dX9_owns_7 : decode cX9_owns 7 = .ok (.sipush 2048, 3) := by decide +kernel
theorem dX9_owns_10 : decode cX9_owns 10 = .ok (.iload_n 1, 1) := by decide +kernel
theorem dX9_owns_11 : decode cX9_owns 11 = .ok (.imul, 1) := by decide +kernel
theorem dX9_owns_12 : decode cX9_owns 12 = .ok (.iadd, 1) := by decide +kernel
theorem dX9_owns_13 : decode cX9_owns 13 = .ok (.iload_n 2, 1) := by decide +kernel
theorem dX9_owns_14 : decode cX9_owns 14 = .ok (.iadd, 1) := by decide +kernel
theorem dX9_owns_15 : decode cX9_owns 15 = .ok (.iload_n 3, 1) := by decide +kernel
theorem dX9_owns_16 : decode cX9_owns 16 = .ok (.iconst 1, 1) := by decide +kernel
theorem dX9_owns_17 : decode cX9_owns 17 = .ok (.iadd, 1) := by decide +kernel
theorem dX9_owns_18 : decode cX9_owns 18 = .ok (.iastore, 1) := by decide +kernel
theorem dX9_owns_19 : decode cX9_owns 19 = .ok (.return_, 1) := by decide +kernel
set_option maxRecDepth 20000 in
set_option maxHeartbeats 4000000 in
theorem C_X9_owns (l : Launch) (G : Gp) (x1 : Int32) (x2 : Int32) (x3 : Int32)  {σ : St} {Q : St → Prop} (h : wp_X9_owns σ x1 x2 x3 Q) : Cn l yX9_owns cX9_owns 4 none 0 0 G [.ref (gb G + 244), .int x1, .int x2, .int x3] σ (qV Q) := by
  refine Cn_of (L := [(0, .ref (gb G + 244)), (1, .int x1), (2, .int x2), (3, .int x3)]) RX9 (by decide) rfl (Nat.le_of_ble_eq_true rfl) rfl ?_
  intro p e s m below meth c F
  unfold wp_X9_owns at h
  refine J_aln F 0 dX9_owns_0 rfl rfl ?_
  refine J_gfa F (ci := 9) 1 rfl inX9 ly_244 (by decide) (by decide) rfl lf_X9_7 rfl dX9_owns_1 ?_
  refine J_si F dX9_owns_4 ks_538 ?_
  refine J_si F dX9_owns_7 ks_2048 ?_
  refine J_iln F 1 dX9_owns_10 rfl rfl ?_
  refine J_imul F dX9_owns_11 ?_
  refine J_iadd F dX9_owns_12 ?_
  refine J_iln F 2 dX9_owns_13 rfl rfl ?_
  refine J_iadd F dX9_owns_14 ?_
  refine J_iln F 3 dX9_owns_15 rfl rfl ?_
  refine J_ic F dX9_owns_16 ki_1 ?_
  refine J_iadd F dX9_owns_17 ?_
  obtain ⟨h_1, h⟩ := h
  refine J_iast F ly_245 h_1 dX9_owns_18 ?_
  refine J_st (fun σ_2 eσ_2 => ?_)
  have h := h σ_2 eσ_2
  exact J_retv F ⟨rfl, h⟩ dX9_owns_19
theorem dX9_isInBox_0 : decode cX9_isInBox 0 = .ok (.iload_n 1, 1) := by decide +kernel
theorem dX9_isInBox_1 : decode cX9_isInBox 1 = .ok (.aload_n 0, 1) := by decide +kernel
theorem dX9_isInBox_2 : decode cX9_isInBox 2 = .ok (.getfield 61, 3) := by decide +kernel
theorem dX9_isInBox_5 : decode cX9_isInBox 5 = .ok (.aload_n 0, 1) := by decide +kernel
theorem dX9_isInBox_6 : decode cX9_isInBox 6 = .ok (.getfield 61, 3) := by decide +kernel
theorem dX9_isInBox_9 : decode cX9_isInBox 9 = .ok (.aload_n 0, 1) := by decide +kernel
theorem dX9_isInBox_10 : decode cX9_isInBox 10 = .ok (.getfield 67, 3) := by decide +kernel
theorem dX9_isInBox_13 : decode cX9_isInBox 13 = .ok (.iadd, 1) := by decide +kernel
theorem dX9_isInBox_14 : decode cX9_isInBox 14 = .ok (.iconst 1, 1) := by decide +kernel
theorem dX9_isInBox_15 : decode cX9_isInBox 15 = .ok (.isub, 1) := by decide +kernel
theorem dX9_isInBox_16 : decode cX9_isInBox 16 = .ok (.invokestatic 77, 3) := by decide +kernel
theorem dX9_isInBox_19 : decode cX9_isInBox 19 = .ok (.ifCond .eq 29, 3) := by decide +kernel
theorem dX9_isInBox_22 : decode cX9_isInBox 22 = .ok (.iload_n 2, 1) := by decide +kernel
theorem dX9_isInBox_23 : decode cX9_isInBox 23 = .ok (.aload_n 0, 1) := by decide +kernel
theorem dX9_isInBox_24 : decode cX9_isInBox 24 = .ok (.getfield 64, 3) := by decide +kernel
theorem dX9_isInBox_27 : decode cX9_isInBox 27 = .ok (.aload_n 0, 1) := by decide +kernel
theorem dX9_isInBox_28 : decode cX9_isInBox 28 = .ok (.getfield 64, 3) := by decide +kernel
theorem dX9_isInBox_31 : decode cX9_isInBox 31 = .ok (.aload_n 0, 1) := by decide +kernel
theorem dX9_isInBox_32 : decode cX9_isInBox 32 = .ok (.getfield 70, 3) := by decide +kernel
theorem dX9_isInBox_35 : decode cX9_isInBox 35 = .ok (.iadd, 1) := by decide +kernel
theorem dX9_isInBox_36 : decode cX9_isInBox 36 = .ok (.iconst 1, 1) := by decide +kernel
theorem dX9_isInBox_37 : decode cX9_isInBox 37 = .ok (.isub, 1) := by decide +kernel
theorem dX9_isInBox_38 : decode cX9_isInBox 38 = .ok (.invokestatic 77, 3) := by decide +kernel
theorem dX9_isInBox_41 : decode cX9_isInBox 41 = .ok (.ifCond .eq 7, 3) := by decide +kernel
theorem dX9_isInBox_44 : decode cX9_isInBox 44 = .ok (.iconst 1, 1) := by decide +kernel
theorem dX9_isInBox_45 : decode cX9_isInBox 45 = .ok (.goto 4, 3) := by decide +kernel
theorem dX9_isInBox_48 : decode cX9_isInBox 48 = .ok (.iconst 0, 1) := by decide +kernel
theorem dX9_isInBox_49 : decode cX9_isInBox 49 = .ok (.ireturn, 1) := by decide +kernel
set_option maxRecDepth 20000 in
set_option maxHeartbeats 4000000 in
theorem C_X9_isInBox (l : Launch) (G : Gp) (x1 : Int32) (x2 : Int32)  {σ : St} {Q : Int32 → Prop} (h : wp_X9_isInBox σ x1 x2 Q) : Cn l yX9_isInBox cX9_isInBox 3 (some .boolean) 1 22 G [.ref (gb G + 244), .int x1, .int x2] σ (qI (fun r σ' => σ' = σ ∧ Q r)) := by
  refine Cn_of (L := [(0, .ref (gb G + 244)), (1, .int x1), (2, .int x2)]) RX9 (by decide) rfl (Nat.le_of_ble_eq_true rfl) rfl ?_
  intro p e s m below meth c F
  unfold wp_X9_isInBox at h
  refine J_iln F 1 dX9_isInBox_0 rfl rfl ?_
  refine J_aln F 0 dX9_isInBox_1 rfl rfl ?_
  refine J_gfi F (ci := 9) 13 rfl inX9 ly_244 (by decide) (by decide) rfl lf_X9_61 rfl dX9_isInBox_2 ?_
  refine J_aln F 0 dX9_isInBox_5 rfl rfl ?_
  refine J_gfi F (ci := 9) 13 rfl inX9 ly_244 (by decide) (by decide) rfl lf_X9_61 rfl dX9_isInBox_6 ?_
  refine J_aln F 0 dX9_isInBox_9 rfl rfl ?_
  refine J_gfi F (ci := 9) 15 rfl inX9 ly_244 (by decide) (by decide) rfl lf_X9_67 rfl dX9_isInBox_10 ?_
  refine J_iadd F dX9_isInBox_13 ?_
  refine J_ic F dX9_isInBox_14 ki_1 ?_
  refine J_isub F dX9_isInBox_15 ?_
  refine J_callSi F (As := [.int x1, .int (σ 244 13), .int (((σ 244 13) + (σ 244 15)) - (nI 1))]) (st := []) (C_X9_isIn l G x1 (σ 244 13) (((σ 244 13) + (σ 244 15)) - (nI 1))  h) lm_X9_77 li_X9_isIn ini_X9 lc_X9_isIn hd_X9_isIn (by decide) (Nat.le_of_ble_eq_true rfl) (by decide) rfl dX9_isInBox_16 (fun r_1 σ_2 hh => ?_)
  clear h
  obtain ⟨e9, h⟩ := hh
  subst σ_2
  refine J_zeq F (tgt := 48) dX9_isInBox_19 (by decide) (fun c_3 => ?_) (fun c_3 => ?_)
  · have h := h.1 c_3
    refine J_ic F dX9_isInBox_48 ki_0 ?_
    exact J_retz F (Or.inl rfl) ⟨_, rfl, rfl, h⟩ dX9_isInBox_49
  · have h := h.2 c_3
    refine J_iln F 2 dX9_isInBox_22 rfl rfl ?_
    refine J_aln F 0 dX9_isInBox_23 rfl rfl ?_
    refine J_gfi F (ci := 9) 14 rfl inX9 ly_244 (by decide) (by decide) rfl lf_X9_64 rfl dX9_isInBox_24 ?_
    refine J_aln F 0 dX9_isInBox_27 rfl rfl ?_
    refine J_gfi F (ci := 9) 14 rfl inX9 ly_244 (by decide) (by decide) rfl lf_X9_64 rfl dX9_isInBox_28 ?_
    refine J_aln F 0 dX9_isInBox_31 rfl rfl ?_
    refine J_gfi F (ci := 9) 16 rfl inX9 ly_244 (by decide) (by decide) rfl lf_X9_70 rfl dX9_isInBox_32 ?_
    refine J_iadd F dX9_isInBox_35 ?_
    refine J_ic F dX9_isInBox_36 ki_1 ?_
    refine J_isub F dX9_isInBox_37 ?_
    refine J_callSi F (As := [.int x2, .int (σ 244 14), .int (((σ 244 14) + (σ 244 16)) - (nI 1))]) (st := []) (C_X9_isIn l G x2 (σ 244 14) (((σ 244 14) + (σ 244 16)) - (nI 1))  h) lm_X9_77 li_X9_isIn ini_X9 lc_X9_isIn hd_X9_isIn (by decide) (Nat.le_of_ble_eq_true rfl) (by decide) rfl dX9_isInBox_38 (fun r_4 σ_5 hh => ?_)
    clear h
    obtain ⟨e9, h⟩ := hh
    subst σ_5
    refine J_zeq F (tgt := 48) dX9_isInBox_41 (by decide) (fun c_6 => ?_) (fun c_6 => ?_)
    · have h := h.1 c_6
      refine J_ic F dX9_isInBox_48 ki_0 ?_
      exact J_retz F (Or.inl rfl) ⟨_, rfl, rfl, h⟩ dX9_isInBox_49
    · have h := h.2 c_6
      refine J_ic F dX9_isInBox_44 ki_1 ?_
      refine J_goto F (tgt := 49) dX9_isInBox_45 (by decide) ?_
      exact J_retz F (Or.inr rfl) ⟨_, rfl, rfl, h⟩ dX9_isInBox_49
theorem dX9_halfAt_0 : decode cX9_halfAt 0 = .ok (.iconst 2, 1) := by decide +kernel
theorem dX9_halfAt_1 : decode cX9_halfAt 1 = .ok (.iload_n 0, 1) := by decide +kernel
theorem dX9_halfAt_2 : decode cX9_halfAt 2 = .ok (.imul, 1) := by decide +kernel
theorem dX9_halfAt_3 : decode cX9_halfAt 3 = .ok (.iload_n 1, 1) := by decide +kernel
theorem dX9_halfAt_4 : decode cX9_halfAt 4 = .ok (.iadd, 1) := by decide +kernel
theorem dX9_halfAt_5 : decode cX9_halfAt 5 = .ok (.ireturn, 1) := by decide +kernel
set_option maxRecDepth 20000 in
set_option maxHeartbeats 4000000 in
theorem C_X9_halfAt (l : Launch) (G : Gp) (x0 : Int32) (x1 : Int32)  {σ : St} {Q : Int32 → Prop} (h : wp_X9_halfAt σ x0 x1 Q) : Cn l yX9_halfAt cX9_halfAt 2 (some .int) 0 0 G [.int x0, .int x1] σ (qI (fun r σ' => σ' = σ ∧ Q r)) := by
  refine Cn_of (L := [(0, .int x0), (1, .int x1)]) RX9 (by decide) rfl (Nat.le_of_ble_eq_true rfl) rfl ?_
  intro p e s m below meth c F
  unfold wp_X9_halfAt at h
  refine J_ic F dX9_halfAt_0 ki_2 ?_
  refine J_iln F 0 dX9_halfAt_1 rfl rfl ?_
  refine J_imul F dX9_halfAt_2 ?_
  refine J_iln F 1 dX9_halfAt_3 rfl rfl ?_
  refine J_iadd F dX9_halfAt_4 ?_
  exact J_reti F ⟨_, rfl, rfl, h⟩ dX9_halfAt_5
theorem dX9_halfWith_0 : decode cX9_halfWith 0 = .ok (.aload_n 0, 1) := by decide +kernel
theorem dX9_halfWith_1 : decode cX9_halfWith 1 = .ok (.iload_n 1, 1) := by decide +kernel
theorem dX9_halfWith_2 : decode cX9_halfWith 2 = .ok (.iconst 0, 1) := by decide +kernel
theorem dX9_halfWith_3 : decode cX9_halfWith 3 = .ok (.invokestatic 81, 3) := by decide +kernel
theorem dX9_halfWith_6 : decode cX9_halfWith 6 = .ok (.invokevirtual 85, 3) := by decide +kernel
theorem dX9_halfWith_9 : decode cX9_halfWith 9 = .ok (.aload_n 0, 1) := by decide +kernel
theorem dX9_halfWith_10 : decode cX9_halfWith 10 = .ok (.iload_n 2, 1) := by decide +kernel
theorem dX9_halfWith_11 : decode cX9_halfWith 11 = .ok (.iload_n 3, 1) := by decide +kernel
theorem dX9_halfWith_12 : decode cX9_halfWith 12 = .ok (.invokevirtual 89, 3) := by decide +kernel
theorem dX9_halfWith_15 : decode cX9_halfWith 15 = .ok (.ifCond .eq 11, 3) := by decide +kernel
theorem dX9_halfWith_18 : decode cX9_halfWith 18 = .ok (.iload_n 1, 1) := by decide +kernel
theorem dX9_halfWith_19 : decode cX9_halfWith 19 = .ok (.iconst 0, 1) := by decide +kernel
theorem dX9_halfWith_20 : decode cX9_halfWith 20 = .ok (.invokestatic 81, 3) := by decide +kernel
theorem dX9_halfWith_23 : decode cX9_halfWith 23 = .ok (.goto 8, 3) := by decide +kernel
theorem dX9_halfWith_26 : decode cX9_halfWith 26 = .ok (.iload_n 1, 1) := by decide +kernel
theorem dX9_halfWith_27 : decode cX9_halfWith 27 = .ok (.iconst 1, 1) := by decide +kernel
theorem dX9_halfWith_28 : decode cX9_halfWith 28 = .ok (.invokestatic 81, 3) := by decide +kernel
theorem dX9_halfWith_31 : decode cX9_halfWith 31 = .ok (.ireturn, 1) := by decide +kernel
set_option maxRecDepth 20000 in
set_option maxHeartbeats 4000000 in
theorem C_X9_halfWith (l : Launch) (G : Gp) (x1 : Int32) (x2 : Int32) (x3 : Int32)  {σ : St} {Q : Int32 → St → Prop} (h : wp_X9_halfWith σ x1 x2 x3 Q) : Cn l yX9_halfWith cX9_halfWith 4 (some .int) 2 44 G [.ref (gb G + 244), .int x1, .int x2, .int x3] σ (qI Q) := by
  refine Cn_of (L := [(0, .ref (gb G + 244)), (1, .int x1), (2, .int x2), (3, .int x3)]) RX9 (by decide) rfl (Nat.le_of_ble_eq_true rfl) rfl ?_
  intro p e s m below meth c F
  unfold wp_X9_halfWith at h
  refine J_aln F 0 dX9_halfWith_0 rfl rfl ?_
  refine J_iln F 1 dX9_halfWith_1 rfl rfl ?_
  refine J_ic F dX9_halfWith_2 ki_0 ?_
  refine J_callSi F (As := [.int x1, .int (nI 0)]) (st := [.ref (gb G + 244)]) (C_X9_halfAt l G x1 (nI 0)  h) lm_X9_81 li_X9_halfAt ini_X9 lc_X9_halfAt hd_X9_halfAt (by decide) (Nat.le_of_ble_eq_true rfl) (by decide) rfl dX9_halfWith_3 (fun r_1 σ_2 hh => ?_)
  clear h
  obtain ⟨e9, h⟩ := hh
  subst σ_2
  refine J_callVv F (As := [.int r_1]) (st := []) (C_X9_boxes l G r_1  h) (ci := 9) ly_244 (by decide) rfl rfl lm_X9_85 li_X9_boxes ls_X9_boxes ini_X9 lc_X9_boxes hd_X9_boxes (by decide) (Nat.le_of_ble_eq_true rfl) (by decide) rfl dX9_halfWith_6 (fun σ_3 h => ?_)
  refine J_aln F 0 dX9_halfWith_9 rfl rfl ?_
  refine J_iln F 2 dX9_halfWith_10 rfl rfl ?_
  refine J_iln F 3 dX9_halfWith_11 rfl rfl ?_
  refine J_callVi F (As := [.int x2, .int x3]) (st := []) (C_X9_isInBox l G x2 x3  h) (ci := 9) ly_244 (by decide) rfl rfl lm_X9_89 li_X9_isInBox ls_X9_isInBox ini_X9 lc_X9_isInBox hd_X9_isInBox (by decide) (Nat.le_of_ble_eq_true rfl) (by decide) rfl dX9_halfWith_12 (fun r_4 σ_5 hh => ?_)
  clear h
  obtain ⟨e9, h⟩ := hh
  subst σ_5
  refine J_zeq F (tgt := 26) dX9_halfWith_15 (by decide) (fun c_6 => ?_) (fun c_6 => ?_)
  · have h := h.1 c_6
    refine J_iln F 1 dX9_halfWith_26 rfl rfl ?_
    refine J_ic F dX9_halfWith_27 ki_1 ?_
    refine J_callSi F (As := [.int x1, .int (nI 1)]) (st := []) (C_X9_halfAt l G x1 (nI 1)  h) lm_X9_81 li_X9_halfAt ini_X9 lc_X9_halfAt hd_X9_halfAt (by decide) (Nat.le_of_ble_eq_true rfl) (by decide) rfl dX9_halfWith_28 (fun r_7 σ_8 hh => ?_)
    clear h
    obtain ⟨e9, h⟩ := hh
    subst σ_8
    exact J_reti F ⟨_, rfl, h⟩ dX9_halfWith_31
  · have h := h.2 c_6
    refine J_iln F 1 dX9_halfWith_18 rfl rfl ?_
    refine J_ic F dX9_halfWith_19 ki_0 ?_
    refine J_callSi F (As := [.int x1, .int (nI 0)]) (st := []) (C_X9_halfAt l G x1 (nI 0)  h) lm_X9_81 li_X9_halfAt ini_X9 lc_X9_halfAt hd_X9_halfAt (by decide) (Nat.le_of_ble_eq_true rfl) (by decide) rfl dX9_halfWith_20 (fun r_9 σ_10 hh => ?_)
    clear h
    obtain ⟨e9, h⟩ := hh
    subst σ_10
    refine J_goto F (tgt := 31) dX9_halfWith_23 (by decide) ?_
    exact J_reti F ⟨_, rfl, h⟩ dX9_halfWith_31
theorem dX9_zoneAt_0 : decode cX9_zoneAt 0 = .ok (.aload_n 0, 1) := by decide +kernel
theorem dX9_zoneAt_1 : decode cX9_zoneAt 1 = .ok (.iconst 0, 1) := by decide +kernel
theorem dX9_zoneAt_2 : decode cX9_zoneAt 2 = .ok (.invokevirtual 92, 3) := by decide +kernel
theorem dX9_zoneAt_5 : decode cX9_zoneAt 5 = .ok (.bipush 10, 2) := by decide +kernel
theorem dX9_zoneAt_7 : decode cX9_zoneAt 7 = .ok (.if_icmp .ne 5, 3) := by decide +kernel
theorem dX9_zoneAt_10 : decode cX9_zoneAt 10 = .ok (.iconst (-1), 1) := by decide +kernel
theorem dX9_zoneAt_11 : decode cX9_zoneAt 11 = .ok (.ireturn, 1) := by decide +kernel
theorem dX9_zoneAt_12 : decode cX9_zoneAt 12 = .ok (.iconst 1, 1) := by decide +kernel
theorem dX9_zoneAt_13 : decode cX9_zoneAt 13 = .ok (.istore 4, 2) := by decide +kernel
theorem dX9_zoneAt_15 : decode cX9_zoneAt 15 = .ok (.aload_n 0, 1) := by decide +kernel
theorem dX9_zoneAt_16 : decode cX9_zoneAt 16 = .ok (.iload_n 1, 1) := by decide +kernel
theorem dX9_zoneAt_17 : decode cX9_zoneAt 17 = .ok (.iload 4, 2) := by decide +kernel
theorem dX9_zoneAt_19 : decode cX9_zoneAt 19 = .ok (.invokevirtual 95, 3) := by decide +kernel
theorem dX9_zoneAt_22 : decode cX9_zoneAt 22 = .ok (.iconst (-1), 1) := by decide +kernel
theorem dX9_zoneAt_23 : decode cX9_zoneAt 23 = .ok (.if_icmp .ne 16, 3) := by decide +kernel
theorem dX9_zoneAt_26 : decode cX9_zoneAt 26 = .ok (.aload_n 0, 1) := by decide +kernel
theorem dX9_zoneAt_27 : decode cX9_zoneAt 27 = .ok (.iload 4, 2) := by decide +kernel
theorem dX9_zoneAt_29 : decode cX9_zoneAt 29 = .ok (.iload_n 2, 1) := by decide +kernel
theorem dX9_zoneAt_30 : decode cX9_zoneAt 30 = .ok (.iload_n 3, 1) := by decide +kernel
theorem dX9_zoneAt_31 : decode cX9_zoneAt 31 = .ok (.invokevirtual 98, 3) := by decide +kernel
theorem dX9_zoneAt_34 : decode cX9_zoneAt 34 = .ok (.istore 4, 2) := by decide +kernel
theorem dX9_zoneAt_36 : decode cX9_zoneAt 36 = .ok (.goto (-21), 3) := by decide +kernel
theorem dX9_zoneAt_39 : decode cX9_zoneAt 39 = .ok (.iload 4, 2) := by decide +kernel
theorem dX9_zoneAt_41 : decode cX9_zoneAt 41 = .ok (.ireturn, 1) := by decide +kernel
set_option maxRecDepth 20000 in
set_option maxHeartbeats 4000000 in
theorem wk_X9_zoneAt_15 {p : Program} {l : Launch} {e : Env} {s : State} {m : MethodId} {args : Array Value} {below : List Frame} {meth : Method} {c : Code} {G : Gp} {x1 : Int32} {x2 : Int32} {x3 : Int32}  {Q : Int32 → St → Prop} (F : FX p s m args meth c cX9_zoneAt 5 (some .int) RX9 G)   : ∀ (n9 : Nat) (σ : St) (x4 : Int32), LP2 (wp_X9_zoneAt_15 x1 x2 x3 Q) n9 σ x4 → J p l e (rmF 3 67) s m args below meth c 5 G (MQ below (QQ G (qI Q)) args s 0 0 (fr G)) 0 0 15 [(0, .ref (gb G + 244)), (1, .int x1), (2, .int x2), (3, .int x3), (4, .int x4)] [] σ := by
  intro n9
  induction n9 with
  | zero => intro σ x4 h; exact h.elim
  | succ n9 i15 =>
    intro σ x4 h
    have h : wp_X9_zoneAt_15 x1 x2 x3 Q (LP2 (wp_X9_zoneAt_15 x1 x2 x3 Q) n9) σ x4 := h
    unfold wp_X9_zoneAt_15 at h
    refine J_aln F 0 dX9_zoneAt_15 rfl rfl ?_
    refine J_iln F 1 dX9_zoneAt_16 rfl rfl ?_
    refine J_il F 4 dX9_zoneAt_17 rfl ?_
    refine J_callVi F (As := [.int x1, .int x4]) (st := []) (C_X9_ownerOf l G x1 x4  h) (ci := 9) ly_244 (by decide) rfl rfl lm_X9_95 li_X9_ownerOf ls_X9_ownerOf ini_X9 lc_X9_ownerOf hd_X9_ownerOf (by decide) (Nat.le_of_ble_eq_true rfl) (by decide) rfl dX9_zoneAt_19 (fun r_1 σ_2 hh => ?_)
    clear h
    obtain ⟨e9, h⟩ := hh
    subst σ_2
    refine J_ic F dX9_zoneAt_22 ki_m1 ?_
    refine J_cne F (tgt := 39) dX9_zoneAt_23 (by decide) (fun c_3 => ?_) (fun c_3 => ?_)
    · have h := h.1 c_3
      refine J_il F 4 dX9_zoneAt_39 rfl ?_
      exact J_reti F ⟨_, rfl, h⟩ dX9_zoneAt_41
    · have h := h.2 c_3
      refine J_aln F 0 dX9_zoneAt_26 rfl rfl ?_
      refine J_il F 4 dX9_zoneAt_27 rfl ?_
      refine J_iln F 2 dX9_zoneAt_29 rfl rfl ?_
      refine J_iln F 3 dX9_zoneAt_30 rfl rfl ?_
      refine J_callVi F (As := [.int x4, .int x2, .int x3]) (st := []) (C_X9_halfWith l G x4 x2 x3  h) (ci := 9) ly_244 (by decide) rfl rfl lm_X9_98 li_X9_halfWith ls_X9_halfWith ini_X9 lc_X9_halfWith hd_X9_halfWith (by decide) (Nat.le_of_ble_eq_true rfl) (by decide) rfl dX9_zoneAt_31 (fun r_4 σ_5 h => ?_)
      refine J_is F (L' := [(4, .int r_4), (0, .ref (gb G + 244)), (1, .int x1), (2, .int x2), (3, .int x3)]) dX9_zoneAt_34 (by decide) rfl ?_
      refine J_goto F (tgt := 15) dX9_zoneAt_36 (by decide) ?_
      refine J_sub [1, 2, 3, 4, 0] rfl ?_
      exact i15 _ _ h
set_option maxRecDepth 20000 in
set_option maxHeartbeats 4000000 in
theorem C_X9_zoneAt (l : Launch) (G : Gp) (x1 : Int32) (x2 : Int32) (x3 : Int32)  {σ : St} {Q : Int32 → St → Prop} (h : wp_X9_zoneAt σ x1 x2 x3 Q) : Cn l yX9_zoneAt cX9_zoneAt 5 (some .int) 3 67 G [.ref (gb G + 244), .int x1, .int x2, .int x3] σ (qI Q) := by
  refine Cn_of (L := [(0, .ref (gb G + 244)), (1, .int x1), (2, .int x2), (3, .int x3)]) RX9 (by decide) rfl (Nat.le_of_ble_eq_true rfl) rfl ?_
  intro p e s m below meth c F
  unfold wp_X9_zoneAt at h
  refine J_aln F 0 dX9_zoneAt_0 rfl rfl ?_
  refine J_ic F dX9_zoneAt_1 ki_0 ?_
  refine J_callVi F (As := [.int (nI 0)]) (st := []) (C_X9_countOf l G (nI 0)  h) (ci := 9) ly_244 (by decide) rfl rfl lm_X9_92 li_X9_countOf ls_X9_countOf ini_X9 lc_X9_countOf hd_X9_countOf (by decide) (Nat.le_of_ble_eq_true rfl) (by decide) rfl dX9_zoneAt_2 (fun r_6 σ_7 hh => ?_)
  clear h
  obtain ⟨e9, h⟩ := hh
  subst σ_7
  refine J_bi F dX9_zoneAt_5 kb_10 ?_
  refine J_cne F (tgt := 12) dX9_zoneAt_7 (by decide) (fun c_8 => ?_) (fun c_8 => ?_)
  · have h := h.1 c_8
    refine J_ic F dX9_zoneAt_12 ki_1 ?_
    refine J_is F (L' := [(4, .int (nI 1)), (0, .ref (gb G + 244)), (1, .int x1), (2, .int x2), (3, .int x3)]) dX9_zoneAt_13 (by decide) rfl ?_
    refine J_sub [1, 2, 3, 4, 0] rfl ?_
    obtain ⟨n9, h⟩ := h
    exact wk_X9_zoneAt_15 F  n9 _ _ h
  · have h := h.2 c_8
    refine J_ic F dX9_zoneAt_10 ki_m1 ?_
    exact J_reti F ⟨_, rfl, h⟩ dX9_zoneAt_11
theorem dX9_nodeAt_0 : decode cX9_nodeAt 0 = .ok (.aload_n 0, 1) := by decide +kernel
theorem dX9_nodeAt_1 : decode cX9_nodeAt 1 = .ok (.iload_n 1, 1) := by decide +kernel
theorem dX9_nodeAt_2 : decode cX9_nodeAt 2 = .ok (.iload_n 2, 1) := by decide +kernel
theorem dX9_nodeAt_3 : decode cX9_nodeAt 3 = .ok (.iload_n 3, 1) := by decide +kernel
theorem dX9_nodeAt_4 : decode cX9_nodeAt 4 = .ok (.invokevirtual 102, 3) := by decide +kernel
theorem dX9_nodeAt_7 : decode cX9_nodeAt 7 = .ok (.istore 4, 2) := by decide +kernel
theorem dX9_nodeAt_9 : decode cX9_nodeAt 9 = .ok (.iload 4, 2) := by decide +kernel
theorem dX9_nodeAt_11 : decode cX9_nodeAt 11 = .ok (.iconst (-1), 1) := by decide +kernel
theorem dX9_nodeAt_12 : decode cX9_nodeAt 12 = .ok (.if_icmp .ne 7, 3) := by decide +kernel
theorem dX9_nodeAt_15 : decode cX9_nodeAt 15 = .ok (.iconst (-1), 1) := by decide +kernel
theorem dX9_nodeAt_16 : decode cX9_nodeAt 16 = .ok (.goto 10, 3) := by decide +kernel
theorem dX9_nodeAt_19 : decode cX9_nodeAt 19 = .ok (.aload_n 0, 1) := by decide +kernel
theorem dX9_nodeAt_20 : decode cX9_nodeAt 20 = .ok (.iload_n 1, 1) := by decide +kernel
theorem dX9_nodeAt_21 : decode cX9_nodeAt 21 = .ok (.iload 4, 2) := by decide +kernel
theorem dX9_nodeAt_23 : decode cX9_nodeAt 23 = .ok (.invokevirtual 95, 3) := by decide +kernel
theorem dX9_nodeAt_26 : decode cX9_nodeAt 26 = .ok (.ireturn, 1) := by decide +kernel
set_option maxRecDepth 20000 in
set_option maxHeartbeats 4000000 in
theorem C_X9_nodeAt (l : Launch) (G : Gp) (x1 : Int32) (x2 : Int32) (x3 : Int32)  {σ : St} {Q : Int32 → St → Prop} (h : wp_X9_nodeAt σ x1 x2 x3 Q) : Cn l yX9_nodeAt cX9_nodeAt 5 (some .int) 4 91 G [.ref (gb G + 244), .int x1, .int x2, .int x3] σ (qI Q) := by
  refine Cn_of (L := [(0, .ref (gb G + 244)), (1, .int x1), (2, .int x2), (3, .int x3)]) RX9 (by decide) rfl (Nat.le_of_ble_eq_true rfl) rfl ?_
  intro p e s m below meth c F
  unfold wp_X9_nodeAt at h
  refine J_aln F 0 dX9_nodeAt_0 rfl rfl ?_
  refine J_iln F 1 dX9_nodeAt_1 rfl rfl ?_
  refine J_iln F 2 dX9_nodeAt_2 rfl rfl ?_
  refine J_iln F 3 dX9_nodeAt_3 rfl rfl ?_
  refine J_callVi F (As := [.int x1, .int x2, .int x3]) (st := []) (C_X9_zoneAt l G x1 x2 x3  h) (ci := 9) ly_244 (by decide) rfl rfl lm_X9_102 li_X9_zoneAt ls_X9_zoneAt ini_X9 lc_X9_zoneAt hd_X9_zoneAt (by decide) (Nat.le_of_ble_eq_true rfl) (by decide) rfl dX9_nodeAt_4 (fun r_1 σ_2 h => ?_)
  refine J_is F (L' := [(4, .int r_1), (0, .ref (gb G + 244)), (1, .int x1), (2, .int x2), (3, .int x3)]) dX9_nodeAt_7 (by decide) rfl ?_
  refine J_il F 0 dX9_nodeAt_9 rfl ?_
  refine J_ic F dX9_nodeAt_11 ki_m1 ?_
  refine J_cne F (tgt := 19) dX9_nodeAt_12 (by decide) (fun c_3 => ?_) (fun c_3 => ?_)
  · have h := h.1 c_3
    refine J_aln F 1 dX9_nodeAt_19 rfl rfl ?_
    refine J_iln F 2 dX9_nodeAt_20 rfl rfl ?_
    refine J_il F 0 dX9_nodeAt_21 rfl ?_
    refine J_callVi F (As := [.int x1, .int r_1]) (st := []) (C_X9_ownerOf l G x1 r_1  h) (ci := 9) ly_244 (by decide) rfl rfl lm_X9_95 li_X9_ownerOf ls_X9_ownerOf ini_X9 lc_X9_ownerOf hd_X9_ownerOf (by decide) (Nat.le_of_ble_eq_true rfl) (by decide) rfl dX9_nodeAt_23 (fun r_4 σ_5 hh => ?_)
    clear h
    obtain ⟨e9, h⟩ := hh
    subst σ_5
    exact J_reti F ⟨_, rfl, h⟩ dX9_nodeAt_26
  · have h := h.2 c_3
    refine J_ic F dX9_nodeAt_15 ki_m1 ?_
    refine J_goto F (tgt := 26) dX9_nodeAt_16 (by decide) ?_
    exact J_reti F ⟨_, rfl, h⟩ dX9_nodeAt_26
theorem dX9_merges_0 : decode cX9_merges 0 = .ok (.iload_n 2, 1) := by decide +kernel
theorem dX9_merges_1 : decode cX9_merges 1 = .ok (.istore_n 3, 1) := by decide +kernel
theorem dX9_merges_2 : decode cX9_merges 2 = .ok (.iload_n 3, 1) := by decide +kernel
theorem dX9_merges_3 : decode cX9_merges 3 = .ok (.iconst 1, 1) := by decide +kernel
theorem dX9_merges_4 : decode cX9_merges 4 = .ok (.if_icmp .le 69, 3) := by decide +kernel
theorem dX9_merges_7 : decode cX9_merges 7 = .ok (.aload_n 0, 1) := by decide +kernel
theorem dX9_merges_8 : decode cX9_merges 8 = .ok (.iload_n 1, 1) := by decide +kernel
theorem dX9_merges_9 : decode cX9_merges 9 = .ok (.iload_n 3, 1) := by decide +kernel
theorem dX9_merges_10 : decode cX9_merges 10 = .ok (.invokevirtual 95, 3) := by decide +kernel
theorem dX9_merges_13 : decode cX9_merges 13 = .ok (.iconst (-1), 1) := by decide +kernel
theorem dX9_merges_14 : decode cX9_merges 14 = .ok (.if_icmp .eq 59, 3) := by decide +kernel
theorem dX9_merges_17 : decode cX9_merges 17 = .ok (.aload_n 0, 1) := by decide +kernel
theorem dX9_merges_18 : decode cX9_merges 18 = .ok (.iload_n 1, 1) := by decide +kernel
theorem dX9_merges_19 : decode cX9_merges 19 = .ok (.iload_n 3, 1) := by decide +kernel
theorem dX9_merges_20 : decode cX9_merges 20 = .ok (.invokevirtual 95, 3) := by decide +kernel
theorem dX9_merges_23 : decode cX9_merges 23 = .ok (.aload_n 0, 1) := by decide +kernel
theorem dX9_merges_24 : decode cX9_merges 24 = .ok (.iload_n 1, 1) := by decide +kernel
theorem dX9_merges_25 : decode cX9_merges 25 = .ok (.iload_n 3, 1) := by decide +kernel
theorem dX9_merges_26 : decode cX9_merges 26 = .ok (.iconst 1, 1) := by decide +kernel
theorem dX9_merges_27 : decode cX9_merges 27 = .ok (.ixor, 1) := by decide +kernel
theorem dX9_merges_28 : decode cX9_merges 28 = .ok (.invokevirtual 95, 3) := by decide +kernel
theorem dX9_merges_31 : decode cX9_merges 31 = .ok (.if_icmp .ne 42, 3) := by decide +kernel
theorem dX9_merges_34 : decode cX9_merges 34 = .ok (.aload_n 0, 1) := by decide +kernel
theorem dX9_merges_35 : decode cX9_merges 35 = .ok (.iload_n 1, 1) := by decide +kernel
theorem dX9_merges_36 : decode cX9_merges 36 = .ok (.iload_n 3, 1) := by decide +kernel
theorem dX9_merges_37 : decode cX9_merges 37 = .ok (.invokevirtual 95, 3) := by decide +kernel
theorem dX9_merges_40 : decode cX9_merges 40 = .ok (.istore 4, 2) := by decide +kernel
theorem dX9_merges_42 : decode cX9_merges 42 = .ok (.aload_n 0, 1) := by decide +kernel
theorem dX9_merges_43 : decode cX9_merges 43 = .ok (.iload_n 1, 1) := by decide +kernel
theorem dX9_merges_44 : decode cX9_merges 44 = .ok (.iload_n 3, 1) := by decide +kernel
theorem dX9_merges_45 : decode cX9_merges 45 = .ok (.iconst (-1), 1) := by decide +kernel
theorem dX9_merges_46 : decode cX9_merges 46 = .ok (.invokevirtual 105, 3) := by decide +kernel
theorem dX9_merges_49 : decode cX9_merges 49 = .ok (.aload_n 0, 1) := by decide +kernel
theorem dX9_merges_50 : decode cX9_merges 50 = .ok (.iload_n 1, 1) := by decide +kernel
theorem dX9_merges_51 : decode cX9_merges 51 = .ok (.iload_n 3, 1) := by decide +kernel
theorem dX9_merges_52 : decode cX9_merges 52 = .ok (.iconst 1, 1) := by decide +kernel
theorem dX9_merges_53 : decode cX9_merges 53 = .ok (.ixor, 1) := by decide +kernel
theorem dX9_merges_54 : decode cX9_merges 54 = .ok (.iconst (-1), 1) := by decide +kernel
theorem dX9_merges_55 : decode cX9_merges 55 = .ok (.invokevirtual 105, 3) := by decide +kernel
theorem dX9_merges_58 : decode cX9_merges 58 = .ok (.iload_n 3, 1) := by decide +kernel
theorem dX9_merges_59 : decode cX9_merges 59 = .ok (.iconst 2, 1) := by decide +kernel
theorem dX9_merges_60 : decode cX9_merges 60 = .ok (.idiv, 1) := by decide +kernel
theorem dX9_merges_61 : decode cX9_merges 61 = .ok (.istore_n 3, 1) := by decide +kernel
theorem dX9_merges_62 : decode cX9_merges 62 = .ok (.aload_n 0, 1) := by decide +kernel
theorem dX9_merges_63 : decode cX9_merges 63 = .ok (.iload_n 1, 1) := by decide +kernel
theorem dX9_merges_64 : decode cX9_merges 64 = .ok (.iload_n 3, 1) := by decide +kernel
theorem dX9_merges_65 : decode cX9_merges 65 = .ok (.iload 4, 2) := by decide +kernel
theorem dX9_merges_67 : decode cX9_merges 67 = .ok (.invokevirtual 105, 3) := by decide +kernel
theorem dX9_merges_70 : decode cX9_merges 70 = .ok (.goto (-68), 3) := by decide +kernel
theorem dX9_merges_73 : decode cX9_merges 73 = .ok (.return_, 1) := by decide +kernel
set_option maxRecDepth 20000 in
set_option maxHeartbeats 4000000 in
theorem wk_X9_merges_2 {p : Program} {l : Launch} {e : Env} {s : State} {m : MethodId} {args : Array Value} {below : List Frame} {meth : Method} {c : Code} {G : Gp} {x1 : Int32}  {Q : St → Prop} (F : FX p s m args meth c cX9_merges 5 none RX9 G)   : ∀ (n9 : Nat) (σ : St) (x3 : Int32), LP2 (wp_X9_merges_2 x1 Q) n9 σ x3 → J p l e (rmF 1 23) s m args below meth c 5 G (MQ below (QQ G (qV Q)) args s 0 0 (fr G)) 0 0 2 [(0, .ref (gb G + 244)), (1, .int x1), (3, .int x3)] [] σ := by
  intro n9
  induction n9 with
  | zero => intro σ x3 h; exact h.elim
  | succ n9 i2 =>
    intro σ x3 h
    have h : wp_X9_merges_2 x1 Q (LP2 (wp_X9_merges_2 x1 Q) n9) σ x3 := h
    unfold wp_X9_merges_2 at h
    refine J_iln F 2 dX9_merges_2 rfl rfl ?_
    refine J_ic F dX9_merges_3 ki_1 ?_
    refine J_cle F (tgt := 73) dX9_merges_4 (by decide) (fun c_1 => ?_) (fun c_1 => ?_)
    · have h := h.1 c_1
      exact J_retv F ⟨rfl, h⟩ dX9_merges_73
    · have h := h.2 c_1
      refine J_aln F 0 dX9_merges_7 rfl rfl ?_
      refine J_iln F 1 dX9_merges_8 rfl rfl ?_
      refine J_iln F 2 dX9_merges_9 rfl rfl ?_
      refine J_callVi F (As := [.int x1, .int x3]) (st := []) (C_X9_ownerOf l G x1 x3  h) (ci := 9) ly_244 (by decide) rfl rfl lm_X9_95 li_X9_ownerOf ls_X9_ownerOf ini_X9 lc_X9_ownerOf hd_X9_ownerOf (by decide) (Nat.le_of_ble_eq_true rfl) (by decide) rfl dX9_merges_10 (fun r_2 σ_3 hh => ?_)
      clear h
      obtain ⟨e9, h⟩ := hh
      subst σ_3
      refine J_ic F dX9_merges_13 ki_m1 ?_
      refine J_ceq F (tgt := 73) dX9_merges_14 (by decide) (fun c_4 => ?_) (fun c_4 => ?_)
      · have h := h.1 c_4
        exact J_retv F ⟨rfl, h⟩ dX9_merges_73
      · have h := h.2 c_4
        refine J_aln F 0 dX9_merges_17 rfl rfl ?_
        refine J_iln F 1 dX9_merges_18 rfl rfl ?_
        refine J_iln F 2 dX9_merges_19 rfl rfl ?_
        refine J_callVi F (As := [.int x1, .int x3]) (st := []) (C_X9_ownerOf l G x1 x3  h) (ci := 9) ly_244 (by decide) rfl rfl lm_X9_95 li_X9_ownerOf ls_X9_ownerOf ini_X9 lc_X9_ownerOf hd_X9_ownerOf (by decide) (Nat.le_of_ble_eq_true rfl) (by decide) rfl dX9_merges_20 (fun r_5 σ_6 hh => ?_)
        clear h
        obtain ⟨e9, h⟩ := hh
        subst σ_6
        refine J_aln F 0 dX9_merges_23 rfl rfl ?_
        refine J_iln F 1 dX9_merges_24 rfl rfl ?_
        refine J_iln F 2 dX9_merges_25 rfl rfl ?_
        refine J_ic F dX9_merges_26 ki_1 ?_
        refine J_ixor F dX9_merges_27 ?_
        refine J_callVi F (As := [.int x1, .int (x3 ^^^ (nI 1))]) (st := [.int r_5]) (C_X9_ownerOf l G x1 (x3 ^^^ (nI 1))  h) (ci := 9) ly_244 (by decide) rfl rfl lm_X9_95 li_X9_ownerOf ls_X9_ownerOf ini_X9 lc_X9_ownerOf hd_X9_ownerOf (by decide) (Nat.le_of_ble_eq_true rfl) (by decide) rfl dX9_merges_28 (fun r_7 σ_8 hh => ?_)
        clear h
        obtain ⟨e9, h⟩ := hh
        subst σ_8
        refine J_cne F (tgt := 73) dX9_merges_31 (by decide) (fun c_9 => ?_) (fun c_9 => ?_)
        · have h := h.1 c_9
          exact J_retv F ⟨rfl, h⟩ dX9_merges_73
        · have h := h.2 c_9
          refine J_aln F 0 dX9_merges_34 rfl rfl ?_
          refine J_iln F 1 dX9_merges_35 rfl rfl ?_
          refine J_iln F 2 dX9_merges_36 rfl rfl ?_
          refine J_callVi F (As := [.int x1, .int x3]) (st := []) (C_X9_ownerOf l G x1 x3  h) (ci := 9) ly_244 (by decide) rfl rfl lm_X9_95 li_X9_ownerOf ls_X9_ownerOf ini_X9 lc_X9_ownerOf hd_X9_ownerOf (by decide) (Nat.le_of_ble_eq_true rfl) (by decide) rfl dX9_merges_37 (fun r_10 σ_11 hh => ?_)
          clear h
          obtain ⟨e9, h⟩ := hh
          subst σ_11
          refine J_is F (L' := [(4, .int r_10), (0, .ref (gb G + 244)), (1, .int x1), (3, .int x3)]) dX9_merges_40 (by decide) rfl ?_
          refine J_aln F 1 dX9_merges_42 rfl rfl ?_
          refine J_iln F 2 dX9_merges_43 rfl rfl ?_
          refine J_iln F 3 dX9_merges_44 rfl rfl ?_
          refine J_ic F dX9_merges_45 ki_m1 ?_
          refine J_callVv F (As := [.int x1, .int x3, .int (-1)]) (st := []) (C_X9_owns l G x1 x3 (-1)  h) (ci := 9) ly_244 (by decide) rfl rfl lm_X9_105 li_X9_owns ls_X9_owns ini_X9 lc_X9_owns hd_X9_owns (by decide) (Nat.le_of_ble_eq_true rfl) (by decide) rfl dX9_merges_46 (fun σ_12 h => ?_)
          refine J_aln F 1 dX9_merges_49 rfl rfl ?_
          refine J_iln F 2 dX9_merges_50 rfl rfl ?_
          refine J_iln F 3 dX9_merges_51 rfl rfl ?_
          refine J_ic F dX9_merges_52 ki_1 ?_
          refine J_ixor F dX9_merges_53 ?_
          refine J_ic F dX9_merges_54 ki_m1 ?_
          refine J_callVv F (As := [.int x1, .int (x3 ^^^ (nI 1)), .int (-1)]) (st := []) (C_X9_owns l G x1 (x3 ^^^ (nI 1)) (-1)  h) (ci := 9) ly_244 (by decide) rfl rfl lm_X9_105 li_X9_owns ls_X9_owns ini_X9 lc_X9_owns hd_X9_owns (by decide) (Nat.le_of_ble_eq_true rfl) (by decide) rfl dX9_merges_55 (fun σ_13 h => ?_)
          refine J_iln F 3 dX9_merges_58 rfl rfl ?_
          refine J_ic F dX9_merges_59 ki_2 ?_
          refine J_idiv F dX9_merges_60 nz_2 ?_
          refine J_top (fun x3_14 ex3_14 => ?_)
          have h := h x3_14 ex3_14
          refine J_isn F (L' := [(3, .int x3_14), (4, .int r_10), (0, .ref (gb G + 244)), (1, .int x1)]) dX9_merges_61 rfl (by decide) rfl ?_
          refine J_aln F 2 dX9_merges_62 rfl rfl ?_
          refine J_iln F 3 dX9_merges_63 rfl rfl ?_
          refine J_iln F 0 dX9_merges_64 rfl rfl ?_
          refine J_il F 1 dX9_merges_65 rfl ?_
          refine J_callVv F (As := [.int x1, .int x3_14, .int r_10]) (st := []) (C_X9_owns l G x1 x3_14 r_10  h) (ci := 9) ly_244 (by decide) rfl rfl lm_X9_105 li_X9_owns ls_X9_owns ini_X9 lc_X9_owns hd_X9_owns (by decide) (Nat.le_of_ble_eq_true rfl) (by decide) rfl dX9_merges_67 (fun σ_15 h => ?_)
          refine J_goto F (tgt := 2) dX9_merges_70 (by decide) ?_
          refine J_sub [2, 3, 0] rfl ?_
          exact i2 _ _ h
set_option maxRecDepth 20000 in
set_option maxHeartbeats 4000000 in
theorem C_X9_merges (l : Launch) (G : Gp) (x1 : Int32) (x2 : Int32)  {σ : St} {Q : St → Prop} (h : wp_X9_merges σ x1 x2 Q) : Cn l yX9_merges cX9_merges 5 none 1 23 G [.ref (gb G + 244), .int x1, .int x2] σ (qV Q) := by
  refine Cn_of (L := [(0, .ref (gb G + 244)), (1, .int x1), (2, .int x2)]) RX9 (by decide) rfl (Nat.le_of_ble_eq_true rfl) rfl ?_
  intro p e s m below meth c F
  unfold wp_X9_merges at h
  refine J_iln F 2 dX9_merges_0 rfl rfl ?_
  refine J_isn F (L' := [(3, .int x2), (0, .ref (gb G + 244)), (1, .int x1), (2, .int x2)]) dX9_merges_1 rfl (by decide) rfl ?_
  refine J_sub [1, 2, 0] rfl ?_
  obtain ⟨n9, h⟩ := h
  exact wk_X9_merges_2 F  n9 _ _ h
theorem dX9_gives_0 : decode cX9_gives 0 = .ok (.aload_n 0, 1) := by decide +kernel
theorem dX9_gives_1 : decode cX9_gives 1 = .ok (.iload_n 1, 1) := by decide +kernel
theorem dX9_gives_2 : decode cX9_gives 2 = .ok (.iload_n 2, 1) := by decide +kernel
theorem dX9_gives_3 : decode cX9_gives 3 = .ok (.iload_n 3, 1) := by decide +kernel
theorem dX9_gives_4 : decode cX9_gives 4 = .ok (.invokevirtual 105, 3) := by decide +kernel
theorem dX9_gives_7 : decode cX9_gives 7 = .ok (.aload_n 0, 1) := by decide +kernel
theorem dX9_gives_8 : decode cX9_gives 8 = .ok (.iload_n 1, 1) := by decide +kernel
theorem dX9_gives_9 : decode cX9_gives 9 = .ok (.iload_n 2, 1) := by decide +kernel
theorem dX9_gives_10 : decode cX9_gives 10 = .ok (.invokevirtual 109, 3) := by decide +kernel
theorem dX9_gives_13 : decode cX9_gives 13 = .ok (.return_, 1) := by decide +kernel
set_option maxRecDepth 20000 in
set_option maxHeartbeats 4000000 in
theorem C_X9_gives (l : Launch) (G : Gp) (x1 : Int32) (x2 : Int32) (x3 : Int32)  {σ : St} {Q : St → Prop} (h : wp_X9_gives σ x1 x2 x3 Q) : Cn l yX9_gives cX9_gives 4 none 2 47 G [.ref (gb G + 244), .int x1, .int x2, .int x3] σ (qV Q) := by
  refine Cn_of (L := [(0, .ref (gb G + 244)), (1, .int x1), (2, .int x2), (3, .int x3)]) RX9 (by decide) rfl (Nat.le_of_ble_eq_true rfl) rfl ?_
  intro p e s m below meth c F
  unfold wp_X9_gives at h
  refine J_aln F 0 dX9_gives_0 rfl rfl ?_
  refine J_iln F 1 dX9_gives_1 rfl rfl ?_
  refine J_iln F 2 dX9_gives_2 rfl rfl ?_
  refine J_iln F 3 dX9_gives_3 rfl rfl ?_
  refine J_callVv F (As := [.int x1, .int x2, .int x3]) (st := []) (C_X9_owns l G x1 x2 x3  h) (ci := 9) ly_244 (by decide) rfl rfl lm_X9_105 li_X9_owns ls_X9_owns ini_X9 lc_X9_owns hd_X9_owns (by decide) (Nat.le_of_ble_eq_true rfl) (by decide) rfl dX9_gives_4 (fun σ_1 h => ?_)
  refine J_aln F 0 dX9_gives_7 rfl rfl ?_
  refine J_iln F 1 dX9_gives_8 rfl rfl ?_
  refine J_iln F 2 dX9_gives_9 rfl rfl ?_
  refine J_callVv F (As := [.int x1, .int x2]) (st := []) (C_X9_merges l G x1 x2  h) (ci := 9) ly_244 (by decide) rfl rfl lm_X9_109 li_X9_merges ls_X9_merges ini_X9 lc_X9_merges hd_X9_merges (by decide) (Nat.le_of_ble_eq_true rfl) (by decide) rfl dX9_gives_10 (fun σ_2 h => ?_)
  exact J_retv F ⟨rfl, h⟩ dX9_gives_13
theorem dX9_laysList_0 : decode cX9_laysList 0 = .ok (.aload_n 0, 1) := by decide +kernel
theorem dX9_laysList_1 : decode cX9_laysList 1 = .ok (.iconst 0, 1) := by decide +kernel
theorem dX9_laysList_2 : decode cX9_laysList 2 = .ok (.putfield 113, 3) := by decide +kernel
theorem dX9_laysList_5 : decode cX9_laysList 5 = .ok (.iconst 1, 1) := by decide +kernel
theorem dX9_laysList_6 : decode cX9_laysList 6 = .ok (.istore_n 2, 1) := by decide +kernel
theorem dX9_laysList_7 : decode cX9_laysList 7 = .ok (.iload_n 2, 1) := by decide +kernel
theorem dX9_laysList_8 : decode cX9_laysList 8 = .ok (.sipush 2048, 3) := by decide +kernel
theorem dX9_laysList_11 : decode cX9_laysList 11 = .ok (.if_icmp .ge 114, 3) := by decide +kernel
theorem dX9_laysList_14 : decode cX9_laysList 14 = .ok (.aload_n 0, 1) := by decide +kernel
theorem dX9_laysList_15 : decode cX9_laysList 15 = .ok (.iload_n 1, 1) := by decide +kernel
theorem dX9_laysList_16 : decode cX9_laysList 16 = .ok (.iload_n 2, 1) := by decide +kernel
theorem dX9_laysList_17 : decode cX9_laysList 17 = .ok (.invokevirtual 95, 3) := by decide +kernel
theorem dX9_laysList_20 : decode cX9_laysList 20 = .ok (.iconst (-1), 1) := by decide +kernel
theorem dX9_laysList_21 : decode cX9_laysList 21 = .ok (.if_icmp .ne 6, 3) := by decide +kernel
theorem dX9_laysList_24 : decode cX9_laysList 24 = .ok (.goto 95, 3) := by decide +kernel
theorem dX9_laysList_27 : decode cX9_laysList 27 = .ok (.aload_n 0, 1) := by decide +kernel
theorem dX9_laysList_28 : decode cX9_laysList 28 = .ok (.iload_n 2, 1) := by decide +kernel
theorem dX9_laysList_29 : decode cX9_laysList 29 = .ok (.invokevirtual 85, 3) := by decide +kernel
theorem dX9_laysList_32 : decode cX9_laysList 32 = .ok (.aload_n 0, 1) := by decide +kernel
theorem dX9_laysList_33 : decode cX9_laysList 33 = .ok (.getfield 30, 3) := by decide +kernel
theorem dX9_laysList_36 : decode cX9_laysList 36 = .ok (.aload_n 0, 1) := by decide +kernel
theorem dX9_laysList_37 : decode cX9_laysList 37 = .ok (.getfield 113, 3) := by decide +kernel
theorem dX9_laysList_40 : decode cX9_laysList 40 = .ok (.iload_n 2, 1) := by decide +kernel
theorem dX9_laysList_41 : decode cX9_laysList 41 = .ok (.iastore, 1) := by decide +kernel
theorem dX9_laysList_42 : decode cX9_laysList 42 = .ok (.aload_n 0, 1) := by decide +kernel
theorem dX9_laysList_43 : decode cX9_laysList 43 = .ok (.getfield 33, 3) := by decide +kernel
theorem dX9_laysList_46 : decode cX9_laysList 46 = .ok (.aload_n 0, 1) := by decide +kernel
theorem dX9_laysList_47 : decode cX9_laysList 47 = .ok (.getfield 113, 3) := by decide +kernel
theorem dX9_laysList_50 : decode cX9_laysList 50 = .ok (.aload_n 0, 1) := by decide +kernel
theorem dX9_laysList_51 : decode cX9_laysList 51 = .ok (.iload_n 1, 1) := by decide +kernel
theorem dX9_laysList_52 : decode cX9_laysList 52 = .ok (.iload_n 2, 1) := by decide +kernel
theorem dX9_laysList_53 : decode cX9_laysList 53 = .ok (.invokevirtual 95, 3) := by decide +kernel
theorem dX9_laysList_56 : decode cX9_laysList 56 = .ok (.iastore, 1) := by decide +kernel
theorem dX9_laysList_57 : decode cX9_laysList 57 = .ok (.aload_n 0, 1) := by decide +kernel
theorem dX9_laysList_58 : decode cX9_laysList 58 = .ok (.getfield 36, 3) := by decide +kernel
theorem dX9_laysList_61 : decode cX9_laysList 61 = .ok (.aload_n 0, 1) := by decide +kernel
theorem dX9_laysList_62 : decode cX9_laysList 62 = .ok (.getfield 113, 3) := by decide +kernel
theorem dX9_laysList_65 : decode cX9_laysList 65 = .ok (.aload_n 0, 1) := by decide +kernel
theorem dX9_laysList_66 : decode cX9_laysList 66 = .ok (.getfield 61, 3) := by decide +kernel
theorem dX9_laysList_69 : decode cX9_laysList 69 = .ok (.iastore, 1) := by decide +kernel
theorem dX9_laysList_70 : decode cX9_laysList 70 = .ok (.aload_n 0, 1) := by decide +kernel
theorem dX9_laysList_71 : decode cX9_laysList 71 = .ok (.getfield 39, 3) := by decide +kernel
theorem dX9_laysList_74 : decode cX9_laysList 74 = .ok (.aload_n 0, 1) := by decide +kernel
theorem dX9_laysList_75 : decode cX9_laysList 75 = .ok (.getfield 113, 3) := by decide +kernel
theorem dX9_laysList_78 : decode cX9_laysList 78 = .ok (.aload_n 0, 1) := by decide +kernel
theorem dX9_laysList_79 : decode cX9_laysList 79 = .ok (.getfield 64, 3) := by decide +kernel
theorem dX9_laysList_82 : decode cX9_laysList 82 = .ok (.iastore, 1) := by decide +kernel
theorem dX9_laysList_83 : decode cX9_laysList 83 = .ok (.aload_n 0, 1) := by decide +kernel
theorem dX9_laysList_84 : decode cX9_laysList 84 = .ok (.getfield 42, 3) := by decide +kernel
theorem dX9_laysList_87 : decode cX9_laysList 87 = .ok (.aload_n 0, 1) := by decide +kernel
theorem dX9_laysList_88 : decode cX9_laysList 88 = .ok (.getfield 113, 3) := by decide +kernel
theorem dX9_laysList_91 : decode cX9_laysList 91 = .ok (.aload_n 0, 1) := by decide +kernel
theorem dX9_laysList_92 : decode cX9_laysList 92 = .ok (.getfield 67, 3) := by decide +kernel
theorem dX9_laysList_95 : decode cX9_laysList 95 = .ok (.iastore, 1) := by decide +kernel
theorem dX9_laysList_96 : decode cX9_laysList 96 = .ok (.aload_n 0, 1) := by decide +kernel
theorem dX9_laysList_97 : decode cX9_laysList 97 = .ok (.getfield 45, 3) := by decide +kernel
theorem dX9_laysList_100 : decode cX9_laysList 100 = .ok (.aload_n 0, 1) := by decide +kernel
theorem dX9_laysList_101 : decode cX9_laysList 101 = .ok (.getfield 113, 3) := by decide +kernel
theorem dX9_laysList_104 : decode cX9_laysList 104 = .ok (.aload_n 0, 1) := by decide +kernel
theorem dX9_laysList_105 : decode cX9_laysList 105 = .ok (.getfield 70, 3) := by decide +kernel
theorem dX9_laysList_108 : decode cX9_laysList 108 = .ok (.iastore, 1) := by decide +kernel
theorem dX9_laysList_109 : decode cX9_laysList 109 = .ok (.aload_n 0, 1) := by decide +kernel
theorem dX9_laysList_110 : decode cX9_laysList 110 = .ok (.dup, 1) := by decide +kernel
theorem dX9_laysList_111 : decode cX9_laysList 111 = .ok (.getfield 113, 3) := by decide +kernel
theorem dX9_laysList_114 : decode cX9_laysList 114 = .ok (.iconst 1, 1) := by decide +kernel
theorem dX9_laysList_115 : decode cX9_laysList 115 = .ok (.iadd, 1) := by decide +kernel
theorem dX9_laysList_116 : decode cX9_laysList 116 = .ok (.putfield 113, 3) := by decide +kernel
theorem dX9_laysList_119 : decode cX9_laysList 119 = .ok (.iinc 2 1, 3) := by decide +kernel
theorem dX9_laysList_122 : decode cX9_laysList 122 = .ok (.goto (-115), 3) := by decide +kernel
theorem dX9_laysList_125 : decode cX9_laysList 125 = .ok (.return_, 1) := by decide +kernel
set_option maxRecDepth 20000 in
set_option maxHeartbeats 4000000 in
theorem wk_X9_laysList_7 {p : Program} {l : Launch} {e : Env} {s : State} {m : MethodId} {args : Array Value} {below : List Frame} {meth : Method} {c : Code} {G : Gp} {x1 : Int32}  {Q : St → Prop} (F : FX p s m args meth c cX9_laysList 3 none RX9 G)   : ∀ (n9 : Nat) (σ : St) (x2 : Int32), LP2 (wp_X9_laysList_7 x1 Q) n9 σ x2 → J p l e (rmF 2 44) s m args below meth c 3 G (MQ below (QQ G (qV Q)) args s 0 0 (fr G)) 0 0 7 [(0, .ref (gb G + 244)), (1, .int x1), (2, .int x2)] [] σ := by
  intro n9
  induction n9 with
  | zero => intro σ x2 h; exact h.elim
  | succ n9 i7 =>
    intro σ x2 h
    have h : wp_X9_laysList_7 x1 Q (LP2 (wp_X9_laysList_7 x1 Q) n9) σ x2 := h
    unfold wp_X9_laysList_7 at h
    refine J_iln F 2 dX9_laysList_7 rfl rfl ?_
    refine J_si F dX9_laysList_8 ks_2048 ?_
    refine J_cge F (tgt := 125) dX9_laysList_11 (by decide) (fun c_1 => ?_) (fun c_1 => ?_)
    · have h := h.1 c_1
      exact J_retv F ⟨rfl, h⟩ dX9_laysList_125
    · have h := h.2 c_1
      refine J_aln F 0 dX9_laysList_14 rfl rfl ?_
      refine J_iln F 1 dX9_laysList_15 rfl rfl ?_
      refine J_iln F 2 dX9_laysList_16 rfl rfl ?_
      refine J_callVi F (As := [.int x1, .int x2]) (st := []) (C_X9_ownerOf l G x1 x2  h) (ci := 9) ly_244 (by decide) rfl rfl lm_X9_95 li_X9_ownerOf ls_X9_ownerOf ini_X9 lc_X9_ownerOf hd_X9_ownerOf (by decide) (Nat.le_of_ble_eq_true rfl) (by decide) rfl dX9_laysList_17 (fun r_2 σ_3 hh => ?_)
      clear h
      obtain ⟨e9, h⟩ := hh
      subst σ_3
      refine J_ic F dX9_laysList_20 ki_m1 ?_
      refine J_cne F (tgt := 27) dX9_laysList_21 (by decide) (fun c_4 => ?_) (fun c_4 => ?_)
      · have h := h.1 c_4
        refine J_aln F 0 dX9_laysList_27 rfl rfl ?_
        refine J_iln F 2 dX9_laysList_28 rfl rfl ?_
        refine J_callVv F (As := [.int x2]) (st := []) (C_X9_boxes l G x2  h) (ci := 9) ly_244 (by decide) rfl rfl lm_X9_85 li_X9_boxes ls_X9_boxes ini_X9 lc_X9_boxes hd_X9_boxes (by decide) (Nat.le_of_ble_eq_true rfl) (by decide) rfl dX9_laysList_29 (fun σ_5 h => ?_)
        refine J_aln F 0 dX9_laysList_32 rfl rfl ?_
        refine J_gfa F (ci := 9) 17 rfl inX9 ly_244 (by decide) (by decide) rfl lf_X9_30 rfl dX9_laysList_33 ?_
        refine J_aln F 0 dX9_laysList_36 rfl rfl ?_
        refine J_gfi F (ci := 9) 23 rfl inX9 ly_244 (by decide) (by decide) rfl lf_X9_113 rfl dX9_laysList_37 ?_
        refine J_iln F 2 dX9_laysList_40 rfl rfl ?_
        obtain ⟨h_6, h⟩ := h
        refine J_iast F ly_250 h_6 dX9_laysList_41 ?_
        refine J_st (fun σ_7 eσ_7 => ?_)
        have h := h σ_7 eσ_7
        refine J_aln F 0 dX9_laysList_42 rfl rfl ?_
        refine J_gfa F (ci := 9) 18 rfl inX9 ly_244 (by decide) (by decide) rfl lf_X9_33 rfl dX9_laysList_43 ?_
        refine J_aln F 0 dX9_laysList_46 rfl rfl ?_
        refine J_gfi F (ci := 9) 23 rfl inX9 ly_244 (by decide) (by decide) rfl lf_X9_113 rfl dX9_laysList_47 ?_
        refine J_aln F 0 dX9_laysList_50 rfl rfl ?_
        refine J_iln F 1 dX9_laysList_51 rfl rfl ?_
        refine J_iln F 2 dX9_laysList_52 rfl rfl ?_
        refine J_callVi F (As := [.int x1, .int x2]) (st := [.int (σ_7 244 23), .ref (gb G + 251)]) (C_X9_ownerOf l G x1 x2  h) (ci := 9) ly_244 (by decide) rfl rfl lm_X9_95 li_X9_ownerOf ls_X9_ownerOf ini_X9 lc_X9_ownerOf hd_X9_ownerOf (by decide) (Nat.le_of_ble_eq_true rfl) (by decide) rfl dX9_laysList_53 (fun r_8 σ_9 hh => ?_)
        clear h
        obtain ⟨e9, h⟩ := hh
        subst σ_9
        obtain ⟨h_10, h⟩ := h
        refine J_iast F ly_251 h_10 dX9_laysList_56 ?_
        refine J_st (fun σ_11 eσ_11 => ?_)
        have h := h σ_11 eσ_11
        refine J_aln F 0 dX9_laysList_57 rfl rfl ?_
        refine J_gfa F (ci := 9) 19 rfl inX9 ly_244 (by decide) (by decide) rfl lf_X9_36 rfl dX9_laysList_58 ?_
        refine J_aln F 0 dX9_laysList_61 rfl rfl ?_
        refine J_gfi F (ci := 9) 23 rfl inX9 ly_244 (by decide) (by decide) rfl lf_X9_113 rfl dX9_laysList_62 ?_
        refine J_aln F 0 dX9_laysList_65 rfl rfl ?_
        refine J_gfi F (ci := 9) 13 rfl inX9 ly_244 (by decide) (by decide) rfl lf_X9_61 rfl dX9_laysList_66 ?_
        obtain ⟨h_12, h⟩ := h
        refine J_iast F ly_252 h_12 dX9_laysList_69 ?_
        refine J_st (fun σ_13 eσ_13 => ?_)
        have h := h σ_13 eσ_13
        refine J_aln F 0 dX9_laysList_70 rfl rfl ?_
        refine J_gfa F (ci := 9) 20 rfl inX9 ly_244 (by decide) (by decide) rfl lf_X9_39 rfl dX9_laysList_71 ?_
        refine J_aln F 0 dX9_laysList_74 rfl rfl ?_
        refine J_gfi F (ci := 9) 23 rfl inX9 ly_244 (by decide) (by decide) rfl lf_X9_113 rfl dX9_laysList_75 ?_
        refine J_aln F 0 dX9_laysList_78 rfl rfl ?_
        refine J_gfi F (ci := 9) 14 rfl inX9 ly_244 (by decide) (by decide) rfl lf_X9_64 rfl dX9_laysList_79 ?_
        obtain ⟨h_14, h⟩ := h
        refine J_iast F ly_253 h_14 dX9_laysList_82 ?_
        refine J_st (fun σ_15 eσ_15 => ?_)
        have h := h σ_15 eσ_15
        refine J_aln F 0 dX9_laysList_83 rfl rfl ?_
        refine J_gfa F (ci := 9) 21 rfl inX9 ly_244 (by decide) (by decide) rfl lf_X9_42 rfl dX9_laysList_84 ?_
        refine J_aln F 0 dX9_laysList_87 rfl rfl ?_
        refine J_gfi F (ci := 9) 23 rfl inX9 ly_244 (by decide) (by decide) rfl lf_X9_113 rfl dX9_laysList_88 ?_
        refine J_aln F 0 dX9_laysList_91 rfl rfl ?_
        refine J_gfi F (ci := 9) 15 rfl inX9 ly_244 (by decide) (by decide) rfl lf_X9_67 rfl dX9_laysList_92 ?_
        obtain ⟨h_16, h⟩ := h
        refine J_iast F ly_254 h_16 dX9_laysList_95 ?_
        refine J_st (fun σ_17 eσ_17 => ?_)
        have h := h σ_17 eσ_17
        refine J_aln F 0 dX9_laysList_96 rfl rfl ?_
        refine J_gfa F (ci := 9) 22 rfl inX9 ly_244 (by decide) (by decide) rfl lf_X9_45 rfl dX9_laysList_97 ?_
        refine J_aln F 0 dX9_laysList_100 rfl rfl ?_
        refine J_gfi F (ci := 9) 23 rfl inX9 ly_244 (by decide) (by decide) rfl lf_X9_113 rfl dX9_laysList_101 ?_
        refine J_aln F 0 dX9_laysList_104 rfl rfl ?_
        refine J_gfi F (ci := 9) 16 rfl inX9 ly_244 (by decide) (by decide) rfl lf_X9_70 rfl dX9_laysList_105 ?_
        obtain ⟨h_18, h⟩ := h
        refine J_iast F ly_255 h_18 dX9_laysList_108 ?_
        refine J_st (fun σ_19 eσ_19 => ?_)
        have h := h σ_19 eσ_19
        refine J_aln F 0 dX9_laysList_109 rfl rfl ?_
        refine J_dup F dX9_laysList_110 rfl ?_
        refine J_gfi F (ci := 9) 23 rfl inX9 ly_244 (by decide) (by decide) rfl lf_X9_113 rfl dX9_laysList_111 ?_
        refine J_ic F dX9_laysList_114 ki_1 ?_
        refine J_iadd F dX9_laysList_115 ?_
        refine J_pfi F (ci := 9) 23 rfl inX9 tyX9 tyX9_ok nmX9 ly_244 (by decide) (by decide) rfl lf_X9_113 rfl rfl (tyX9_ok 23 (by decide)) rfl rfl dX9_laysList_116 ?_
        refine J_st (fun σ_20 eσ_20 => ?_)
        have h := h σ_20 eσ_20
        obtain ⟨x2_21, ex2_21⟩ : ∃ z : Int32, z = x2 + (nI 1) := ⟨_, rfl⟩
        have h := h x2_21 ex2_21
        refine J_iinc F (v := x2_21) (L' := [(2, .int x2_21), (0, .ref (gb G + 244)), (1, .int x1)]) 2 dX9_laysList_119 rfl (by rw [ki_1, ex2_21]) (by decide) rfl ?_
        refine J_goto F (tgt := 7) dX9_laysList_122 (by decide) ?_
        refine J_sub [1, 2, 0] rfl ?_
        exact i7 _ _ h
      · have h := h.2 c_4
        refine J_goto F (tgt := 119) dX9_laysList_24 (by decide) ?_
        obtain ⟨x2_22, ex2_22⟩ : ∃ z : Int32, z = x2 + (nI 1) := ⟨_, rfl⟩
        have h := h x2_22 ex2_22
        refine J_iinc F (v := x2_22) (L' := [(2, .int x2_22), (0, .ref (gb G + 244)), (1, .int x1)]) 2 dX9_laysList_119 rfl (by rw [ki_1, ex2_22]) (by decide) rfl ?_
        refine J_goto F (tgt := 7) dX9_laysList_122 (by decide) ?_
        refine J_sub [1, 2, 0] rfl ?_
        exact i7 _ _ h
set_option maxRecDepth 20000 in
set_option maxHeartbeats 4000000 in
theorem C_X9_laysList (l : Launch) (G : Gp) (x1 : Int32)  {σ : St} {Q : St → Prop} (h : wp_X9_laysList σ x1 Q) : Cn l yX9_laysList cX9_laysList 3 none 2 44 G [.ref (gb G + 244), .int x1] σ (qV Q) := by
  refine Cn_of (L := [(0, .ref (gb G + 244)), (1, .int x1)]) RX9 (by decide) rfl (Nat.le_of_ble_eq_true rfl) rfl ?_
  intro p e s m below meth c F
  unfold wp_X9_laysList at h
  refine J_aln F 0 dX9_laysList_0 rfl rfl ?_
  refine J_ic F dX9_laysList_1 ki_0 ?_
  refine J_pfi F (ci := 9) 23 rfl inX9 tyX9 tyX9_ok nmX9 ly_244 (by decide) (by decide) rfl lf_X9_113 rfl rfl (tyX9_ok 23 (by decide)) rfl rfl dX9_laysList_2 ?_
  refine J_st (fun σ_23 eσ_23 => ?_)
  have h := h σ_23 eσ_23
  refine J_ic F dX9_laysList_5 ki_1 ?_
  refine J_isn F (L' := [(2, .int (nI 1)), (0, .ref (gb G + 244)), (1, .int x1)]) dX9_laysList_6 rfl (by decide) rfl ?_
  refine J_sub [1, 2, 0] rfl ?_
  obtain ⟨n9, h⟩ := h
  exact wk_X9_laysList_7 F  n9 _ _ h
theorem dX9_meet_0 : decode cX9_meet 0 = .ok (.iload_n 0, 1) := by decide +kernel
theorem dX9_meet_1 : decode cX9_meet 1 = .ok (.iload_n 2, 1) := by decide +kernel
theorem dX9_meet_2 : decode cX9_meet 2 = .ok (.iload_n 3, 1) := by decide +kernel
theorem dX9_meet_3 : decode cX9_meet 3 = .ok (.iadd, 1) := by decide +kernel
theorem dX9_meet_4 : decode cX9_meet 4 = .ok (.if_icmp .ge 14, 3) := by decide +kernel
theorem dX9_meet_7 : decode cX9_meet 7 = .ok (.iload_n 2, 1) := by decide +kernel
theorem dX9_meet_8 : decode cX9_meet 8 = .ok (.iload_n 0, 1) := by decide +kernel
theorem dX9_meet_9 : decode cX9_meet 9 = .ok (.iload_n 1, 1) := by decide +kernel
theorem dX9_meet_10 : decode cX9_meet 10 = .ok (.iadd, 1) := by decide +kernel
theorem dX9_meet_11 : decode cX9_meet 11 = .ok (.if_icmp .ge 7, 3) := by decide +kernel
theorem dX9_meet_14 : decode cX9_meet 14 = .ok (.iconst 1, 1) := by decide +kernel
theorem dX9_meet_15 : decode cX9_meet 15 = .ok (.goto 4, 3) := by decide +kernel
theorem dX9_meet_18 : decode cX9_meet 18 = .ok (.iconst 0, 1) := by decide +kernel
theorem dX9_meet_19 : decode cX9_meet 19 = .ok (.ireturn, 1) := by decide +kernel
set_option maxRecDepth 20000 in
set_option maxHeartbeats 4000000 in
theorem C_X9_meet (l : Launch) (G : Gp) (x0 : Int32) (x1 : Int32) (x2 : Int32) (x3 : Int32)  {σ : St} {Q : Int32 → Prop} (h : wp_X9_meet σ x0 x1 x2 x3 Q) : Cn l yX9_meet cX9_meet 4 (some .boolean) 0 0 G [.int x0, .int x1, .int x2, .int x3] σ (qI (fun r σ' => σ' = σ ∧ Q r)) := by
  refine Cn_of (L := [(0, .int x0), (1, .int x1), (2, .int x2), (3, .int x3)]) RX9 (by decide) rfl (Nat.le_of_ble_eq_true rfl) rfl ?_
  intro p e s m below meth c F
  unfold wp_X9_meet at h
  refine J_iln F 0 dX9_meet_0 rfl rfl ?_
  refine J_iln F 2 dX9_meet_1 rfl rfl ?_
  refine J_iln F 3 dX9_meet_2 rfl rfl ?_
  refine J_iadd F dX9_meet_3 ?_
  refine J_cge F (tgt := 18) dX9_meet_4 (by decide) (fun c_1 => ?_) (fun c_1 => ?_)
  · have h := h.1 c_1
    refine J_ic F dX9_meet_18 ki_0 ?_
    exact J_retz F (Or.inl rfl) ⟨_, rfl, rfl, h⟩ dX9_meet_19
  · have h := h.2 c_1
    refine J_iln F 2 dX9_meet_7 rfl rfl ?_
    refine J_iln F 0 dX9_meet_8 rfl rfl ?_
    refine J_iln F 1 dX9_meet_9 rfl rfl ?_
    refine J_iadd F dX9_meet_10 ?_
    refine J_cge F (tgt := 18) dX9_meet_11 (by decide) (fun c_2 => ?_) (fun c_2 => ?_)
    · have h := h.1 c_2
      refine J_ic F dX9_meet_18 ki_0 ?_
      exact J_retz F (Or.inl rfl) ⟨_, rfl, rfl, h⟩ dX9_meet_19
    · have h := h.2 c_2
      refine J_ic F dX9_meet_14 ki_1 ?_
      refine J_goto F (tgt := 19) dX9_meet_15 (by decide) ?_
      exact J_retz F (Or.inr rfl) ⟨_, rfl, rfl, h⟩ dX9_meet_19
theorem dX9_touch_0 : decode cX9_touch 0 = .ok (.iload_n 0, 1) := by decide +kernel
theorem dX9_touch_1 : decode cX9_touch 1 = .ok (.iload_n 1, 1) := by decide +kernel
theorem dX9_touch_2 : decode cX9_touch 2 = .ok (.iadd, 1) := by decide +kernel
theorem dX9_touch_3 : decode cX9_touch 3 = .ok (.bipush 32, 2) := by decide +kernel
theorem dX9_touch_5 : decode cX9_touch 5 = .ok (.irem, 1) := by decide +kernel
theorem dX9_touch_6 : decode cX9_touch 6 = .ok (.iload_n 2, 1) := by decide +kernel
theorem dX9_touch_7 : decode cX9_touch 7 = .ok (.if_icmp .eq 13, 3) := by decide +kernel
theorem dX9_touch_10 : decode cX9_touch 10 = .ok (.iload_n 2, 1) := by decide +kernel
theorem dX9_touch_11 : decode cX9_touch 11 = .ok (.iload_n 3, 1) := by decide +kernel
theorem dX9_touch_12 : decode cX9_touch 12 = .ok (.iadd, 1) := by decide +kernel
theorem dX9_touch_13 : decode cX9_touch 13 = .ok (.bipush 32, 2) := by decide +kernel
theorem dX9_touch_15 : decode cX9_touch 15 = .ok (.irem, 1) := by decide +kernel
theorem dX9_touch_16 : decode cX9_touch 16 = .ok (.iload_n 0, 1) := by decide +kernel
theorem dX9_touch_17 : decode cX9_touch 17 = .ok (.if_icmp .ne 7, 3) := by decide +kernel
theorem dX9_touch_20 : decode cX9_touch 20 = .ok (.iconst 1, 1) := by decide +kernel
theorem dX9_touch_21 : decode cX9_touch 21 = .ok (.goto 4, 3) := by decide +kernel
theorem dX9_touch_24 : decode cX9_touch 24 = .ok (.iconst 0, 1) := by decide +kernel
theorem dX9_touch_25 : decode cX9_touch 25 = .ok (.ireturn, 1) := by decide +kernel
set_option maxRecDepth 20000 in
set_option maxHeartbeats 4000000 in
theorem C_X9_touch (l : Launch) (G : Gp) (x0 : Int32) (x1 : Int32) (x2 : Int32) (x3 : Int32)  {σ : St} {Q : Int32 → Prop} (h : wp_X9_touch σ x0 x1 x2 x3 Q) : Cn l yX9_touch cX9_touch 4 (some .boolean) 0 0 G [.int x0, .int x1, .int x2, .int x3] σ (qI (fun r σ' => σ' = σ ∧ Q r)) := by
  refine Cn_of (L := [(0, .int x0), (1, .int x1), (2, .int x2), (3, .int x3)]) RX9 (by decide) rfl (Nat.le_of_ble_eq_true rfl) rfl ?_
  intro p e s m below meth c F
  unfold wp_X9_touch at h
  refine J_iln F 0 dX9_touch_0 rfl rfl ?_
  refine J_iln F 1 dX9_touch_1 rfl rfl ?_
  refine J_iadd F dX9_touch_2 ?_
  refine J_bi F dX9_touch_3 kb_32 ?_
  refine J_irem F dX9_touch_5 nz_32 ?_
  refine J_iln F 2 dX9_touch_6 rfl rfl ?_
  refine J_ceq F (tgt := 20) dX9_touch_7 (by decide) (fun c_1 => ?_) (fun c_1 => ?_)
  · have h := h.1 c_1
    refine J_ic F dX9_touch_20 ki_1 ?_
    refine J_goto F (tgt := 25) dX9_touch_21 (by decide) ?_
    exact J_retz F (Or.inr rfl) ⟨_, rfl, rfl, h⟩ dX9_touch_25
  · have h := h.2 c_1
    refine J_iln F 2 dX9_touch_10 rfl rfl ?_
    refine J_iln F 3 dX9_touch_11 rfl rfl ?_
    refine J_iadd F dX9_touch_12 ?_
    refine J_bi F dX9_touch_13 kb_32 ?_
    refine J_irem F dX9_touch_15 nz_32 ?_
    refine J_iln F 0 dX9_touch_16 rfl rfl ?_
    refine J_cne F (tgt := 24) dX9_touch_17 (by decide) (fun c_2 => ?_) (fun c_2 => ?_)
    · have h := h.1 c_2
      refine J_ic F dX9_touch_24 ki_0 ?_
      exact J_retz F (Or.inl rfl) ⟨_, rfl, rfl, h⟩ dX9_touch_25
    · have h := h.2 c_2
      refine J_ic F dX9_touch_20 ki_1 ?_
      refine J_goto F (tgt := 25) dX9_touch_21 (by decide) ?_
      exact J_retz F (Or.inr rfl) ⟨_, rfl, rfl, h⟩ dX9_touch_25
theorem dX9_areBeside_0 : decode cX9_areBeside 0 = .ok (.aload_n 0, 1) := by decide +kernel
theorem dX9_areBeside_1 : decode cX9_areBeside 1 = .ok (.getfield 36, 3) := by decide +kernel
theorem dX9_areBeside_4 : decode cX9_areBeside 4 = .ok (.iload_n 1, 1) := by decide +kernel
theorem dX9_areBeside_5 : decode cX9_areBeside 5 = .ok (.iaload, 1) := by decide +kernel
theorem dX9_areBeside_6 : decode cX9_areBeside 6 = .ok (.aload_n 0, 1) := by decide +kernel
theorem dX9_areBeside_7 : decode cX9_areBeside 7 = .ok (.getfield 42, 3) := by decide +kernel
theorem dX9_areBeside_10 : decode cX9_areBeside 10 = .ok (.iload_n 1, 1) := by decide +kernel
theorem dX9_areBeside_11 : decode cX9_areBeside 11 = .ok (.iaload, 1) := by decide +kernel
theorem dX9_areBeside_12 : decode cX9_areBeside 12 = .ok (.aload_n 0, 1) := by decide +kernel
theorem dX9_areBeside_13 : decode cX9_areBeside 13 = .ok (.getfield 36, 3) := by decide +kernel
theorem dX9_areBeside_16 : decode cX9_areBeside 16 = .ok (.iload_n 2, 1) := by decide +kernel
theorem dX9_areBeside_17 : decode cX9_areBeside 17 = .ok (.iaload, 1) := by decide +kernel
theorem dX9_areBeside_18 : decode cX9_areBeside 18 = .ok (.aload_n 0, 1) := by decide +kernel
theorem dX9_areBeside_19 : decode cX9_areBeside 19 = .ok (.getfield 42, 3) := by decide +kernel
theorem dX9_areBeside_22 : decode cX9_areBeside 22 = .ok (.iload_n 2, 1) := by decide +kernel
theorem dX9_areBeside_23 : decode cX9_areBeside 23 = .ok (.iaload, 1) := by decide +kernel
theorem dX9_areBeside_24 : decode cX9_areBeside 24 = .ok (.invokestatic 116, 3) := by decide +kernel
theorem dX9_areBeside_27 : decode cX9_areBeside 27 = .ok (.ifCond .eq 37, 3) := by decide +kernel
theorem dX9_areBeside_30 : decode cX9_areBeside 30 = .ok (.aload_n 0, 1) := by decide +kernel
theorem dX9_areBeside_31 : decode cX9_areBeside 31 = .ok (.getfield 39, 3) := by decide +kernel
theorem dX9_areBeside_34 : decode cX9_areBeside 34 = .ok (.iload_n 1, 1) := by decide +kernel
theorem dX9_areBeside_35 : decode cX9_areBeside 35 = .ok (.iaload, 1) := by decide +kernel
theorem dX9_areBeside_36 : decode cX9_areBeside 36 = .ok (.aload_n 0, 1) := by decide +kernel
theorem dX9_areBeside_37 : decode cX9_areBeside 37 = .ok (.getfield 45, 3) := by decide +kernel
theorem dX9_areBeside_40 : decode cX9_areBeside 40 = .ok (.iload_n 1, 1) := by decide +kernel
theorem dX9_areBeside_41 : decode cX9_areBeside 41 = .ok (.iaload, 1) := by decide +kernel
theorem dX9_areBeside_42 : decode cX9_areBeside 42 = .ok (.aload_n 0, 1) := by decide +kernel
theorem dX9_areBeside_43 : decode cX9_areBeside 43 = .ok (.getfield 39, 3) := by decide +kernel
theorem dX9_areBeside_46 : decode cX9_areBeside 46 = .ok (.iload_n 2, 1) := by decide +kernel
theorem dX9_areBeside_47 : decode cX9_areBeside 47 = .ok (.iaload, 1) := by decide +kernel
theorem dX9_areBeside_48 : decode cX9_areBeside 48 = .ok (.aload_n 0, 1) := by decide +kernel
theorem dX9_areBeside_49 : decode cX9_areBeside 49 = .ok (.getfield 45, 3) := by decide +kernel
theorem dX9_areBeside_52 : decode cX9_areBeside 52 = .ok (.iload_n 2, 1) := by decide +kernel
theorem dX9_areBeside_53 : decode cX9_areBeside 53 = .ok (.iaload, 1) := by decide +kernel
theorem dX9_areBeside_54 : decode cX9_areBeside 54 = .ok (.invokestatic 120, 3) := by decide +kernel
theorem dX9_areBeside_57 : decode cX9_areBeside 57 = .ok (.ifCond .eq 7, 3) := by decide +kernel
theorem dX9_areBeside_60 : decode cX9_areBeside 60 = .ok (.iconst 1, 1) := by decide +kernel
theorem dX9_areBeside_61 : decode cX9_areBeside 61 = .ok (.goto 4, 3) := by decide +kernel
theorem dX9_areBeside_64 : decode cX9_areBeside 64 = .ok (.iconst 0, 1) := by decide +kernel
theorem dX9_areBeside_65 : decode cX9_areBeside 65 = .ok (.istore_n 3, 1) := by decide +kernel
theorem dX9_areBeside_66 : decode cX9_areBeside 66 = .ok (.aload_n 0, 1) := by decide +kernel
theorem dX9_areBeside_67 : decode cX9_areBeside 67 = .ok (.getfield 39, 3) := by decide +kernel
theorem dX9_areBeside_70 : decode cX9_areBeside 70 = .ok (.iload_n 1, 1) := by decide +kernel
theorem dX9_areBeside_71 : decode cX9_areBeside 71 = .ok (.iaload, 1) := by decide +kernel
theorem dX9_areBeside_72 : decode cX9_areBeside 72 = .ok (.aload_n 0, 1) := by decide +kernel
theorem dX9_areBeside_73 : decode cX9_areBeside 73 = .ok (.getfield 45, 3) := by decide +kernel
theorem dX9_areBeside_76 : decode cX9_areBeside 76 = .ok (.iload_n 1, 1) := by decide +kernel
theorem dX9_areBeside_77 : decode cX9_areBeside 77 = .ok (.iaload, 1) := by decide +kernel
theorem dX9_areBeside_78 : decode cX9_areBeside 78 = .ok (.aload_n 0, 1) := by decide +kernel
theorem dX9_areBeside_79 : decode cX9_areBeside 79 = .ok (.getfield 39, 3) := by decide +kernel
theorem dX9_areBeside_82 : decode cX9_areBeside 82 = .ok (.iload_n 2, 1) := by decide +kernel
theorem dX9_areBeside_83 : decode cX9_areBeside 83 = .ok (.iaload, 1) := by decide +kernel
theorem dX9_areBeside_84 : decode cX9_areBeside 84 = .ok (.aload_n 0, 1) := by decide +kernel
theorem dX9_areBeside_85 : decode cX9_areBeside 85 = .ok (.getfield 45, 3) := by decide +kernel
theorem dX9_areBeside_88 : decode cX9_areBeside 88 = .ok (.iload_n 2, 1) := by decide +kernel
theorem dX9_areBeside_89 : decode cX9_areBeside 89 = .ok (.iaload, 1) := by decide +kernel
theorem dX9_areBeside_90 : decode cX9_areBeside 90 = .ok (.invokestatic 116, 3) := by decide +kernel
theorem dX9_areBeside_93 : decode cX9_areBeside 93 = .ok (.ifCond .eq 37, 3) := by decide +kernel
theorem dX9_areBeside_96 : decode cX9_areBeside 96 = .ok (.aload_n 0, 1) := by decide +kernel
theorem dX9_areBeside_97 : decode cX9_areBeside 97 = .ok (.getfield 36, 3) := by decide +kernel
theorem dX9_areBeside_100 : decode cX9_areBeside 100 = .ok (.iload_n 1, 1) := by decide +kernel
theorem dX9_areBeside_101 : decode cX9_areBeside 101 = .ok (.iaload, 1) := by decide +kernel
theorem dX9_areBeside_102 : decode cX9_areBeside 102 = .ok (.aload_n 0, 1) := by decide +kernel
theorem dX9_areBeside_103 : decode cX9_areBeside 103 = .ok (.getfield 42, 3) := by decide +kernel
theorem dX9_areBeside_106 : decode cX9_areBeside 106 = .ok (.iload_n 1, 1) := by decide +kernel
theorem dX9_areBeside_107 : decode cX9_areBeside 107 = .ok (.iaload, 1) := by decide +kernel
theorem dX9_areBeside_108 : decode cX9_areBeside 108 = .ok (.aload_n 0, 1) := by decide +kernel
theorem dX9_areBeside_109 : decode cX9_areBeside 109 = .ok (.getfield 36, 3) := by decide +kernel
theorem dX9_areBeside_112 : decode cX9_areBeside 112 = .ok (.iload_n 2, 1) := by decide +kernel
theorem dX9_areBeside_113 : decode cX9_areBeside 113 = .ok (.iaload, 1) := by decide +kernel
theorem dX9_areBeside_114 : decode cX9_areBeside 114 = .ok (.aload_n 0, 1) := by decide +kernel
theorem dX9_areBeside_115 : decode cX9_areBeside 115 = .ok (.getfield 42, 3) := by decide +kernel
theorem dX9_areBeside_118 : decode cX9_areBeside 118 = .ok (.iload_n 2, 1) := by decide +kernel
theorem dX9_areBeside_119 : decode cX9_areBeside 119 = .ok (.iaload, 1) := by decide +kernel
theorem dX9_areBeside_120 : decode cX9_areBeside 120 = .ok (.invokestatic 120, 3) := by decide +kernel
theorem dX9_areBeside_123 : decode cX9_areBeside 123 = .ok (.ifCond .eq 7, 3) := by decide +kernel
theorem dX9_areBeside_126 : decode cX9_areBeside 126 = .ok (.iconst 1, 1) := by decide +kernel
theorem dX9_areBeside_127 : decode cX9_areBeside 127 = .ok (.goto 4, 3) := by decide +kernel
theorem dX9_areBeside_130 : decode cX9_areBeside 130 = .ok (.iconst 0, 1) := by decide +kernel
theorem dX9_areBeside_131 : decode cX9_areBeside 131 = .ok (.istore 4, 2) := by decide +kernel
theorem dX9_areBeside_133 : decode cX9_areBeside 133 = .ok (.iload_n 1, 1) := by decide +kernel
theorem dX9_areBeside_134 : decode cX9_areBeside 134 = .ok (.iload_n 2, 1) := by decide +kernel
theorem dX9_areBeside_135 : decode cX9_areBeside 135 = .ok (.if_icmp .eq 16, 3) := by decide +kernel
theorem dX9_areBeside_138 : decode cX9_areBeside 138 = .ok (.iload_n 3, 1) := by decide +kernel
theorem dX9_areBeside_139 : decode cX9_areBeside 139 = .ok (.ifCond .ne 8, 3) := by decide +kernel
theorem dX9_areBeside_142 : decode cX9_areBeside 142 = .ok (.iload 4, 2) := by decide +kernel
theorem dX9_areBeside_144 : decode cX9_areBeside 144 = .ok (.ifCond .eq 7, 3) := by decide +kernel
theorem dX9_areBeside_147 : decode cX9_areBeside 147 = .ok (.iconst 1, 1) := by decide +kernel
theorem dX9_areBeside_148 : decode cX9_areBeside 148 = .ok (.goto 4, 3) := by decide +kernel
theorem dX9_areBeside_151 : decode cX9_areBeside 151 = .ok (.iconst 0, 1) := by decide +kernel
theorem dX9_areBeside_152 : decode cX9_areBeside 152 = .ok (.ireturn, 1) := by decide +kernel
set_option maxRecDepth 20000 in
set_option maxHeartbeats 4000000 in
theorem wk_X9_areBeside_131 {p : Program} {l : Launch} {e : Env} {s : State} {m : MethodId} {args : Array Value} {below : List Frame} {meth : Method} {c : Code} {G : Gp} {σ : St} {x1 : Int32} {x2 : Int32} {x3 : Int32} {t0 : Int32}  {Q : Int32 → Prop} (F : FX p s m args meth c cX9_areBeside 5 (some .boolean) RX9 G)   (h : wp_X9_areBeside_131 σ x1 x2 x3 t0 Q) : J p l e (rmF 1 23) s m args below meth c 5 G (MQ below (QQ G (qI (fun r σ' => σ' = σ ∧ Q r))) args s 0 0 (fr G)) 0 0 131 [(1, .int x1), (2, .int x2), (3, .int x3)] [.int t0] σ := by
  unfold wp_X9_areBeside_131 at h
  refine J_is F (L' := [(4, .int t0), (1, .int x1), (2, .int x2), (3, .int x3)]) dX9_areBeside_131 (by decide) rfl ?_
  refine J_iln F 1 dX9_areBeside_133 rfl rfl ?_
  refine J_iln F 2 dX9_areBeside_134 rfl rfl ?_
  refine J_ceq F (tgt := 151) dX9_areBeside_135 (by decide) (fun c_1 => ?_) (fun c_1 => ?_)
  · have h := h.1 c_1
    refine J_ic F dX9_areBeside_151 ki_0 ?_
    exact J_retz F (Or.inl rfl) ⟨_, rfl, rfl, h⟩ dX9_areBeside_152
  · have h := h.2 c_1
    refine J_iln F 3 dX9_areBeside_138 rfl rfl ?_
    refine J_zne F (tgt := 147) dX9_areBeside_139 (by decide) (fun c_2 => ?_) (fun c_2 => ?_)
    · have h := h.1 c_2
      refine J_ic F dX9_areBeside_147 ki_1 ?_
      refine J_goto F (tgt := 152) dX9_areBeside_148 (by decide) ?_
      exact J_retz F (Or.inr rfl) ⟨_, rfl, rfl, h⟩ dX9_areBeside_152
    · have h := h.2 c_2
      refine J_il F 0 dX9_areBeside_142 rfl ?_
      refine J_zeq F (tgt := 151) dX9_areBeside_144 (by decide) (fun c_3 => ?_) (fun c_3 => ?_)
      · have h := h.1 c_3
        refine J_ic F dX9_areBeside_151 ki_0 ?_
        exact J_retz F (Or.inl rfl) ⟨_, rfl, rfl, h⟩ dX9_areBeside_152
      · have h := h.2 c_3
        refine J_ic F dX9_areBeside_147 ki_1 ?_
        refine J_goto F (tgt := 152) dX9_areBeside_148 (by decide) ?_
        exact J_retz F (Or.inr rfl) ⟨_, rfl, rfl, h⟩ dX9_areBeside_152
set_option maxRecDepth 20000 in
set_option maxHeartbeats 4000000 in
theorem wk_X9_areBeside_130 {p : Program} {l : Launch} {e : Env} {s : State} {m : MethodId} {args : Array Value} {below : List Frame} {meth : Method} {c : Code} {G : Gp} {σ : St} {x1 : Int32} {x2 : Int32} {x3 : Int32}  {Q : Int32 → Prop} (F : FX p s m args meth c cX9_areBeside 5 (some .boolean) RX9 G)   (h : wp_X9_areBeside_130 σ x1 x2 x3 Q) : J p l e (rmF 1 23) s m args below meth c 5 G (MQ below (QQ G (qI (fun r σ' => σ' = σ ∧ Q r))) args s 0 0 (fr G)) 0 0 130 [(1, .int x1), (2, .int x2), (3, .int x3)] [] σ := by
  unfold wp_X9_areBeside_130 at h
  refine J_ic F dX9_areBeside_130 ki_0 ?_
  exact wk_X9_areBeside_131 F  h
set_option maxRecDepth 20000 in
set_option maxHeartbeats 4000000 in
theorem wk_X9_areBeside_65 {p : Program} {l : Launch} {e : Env} {s : State} {m : MethodId} {args : Array Value} {below : List Frame} {meth : Method} {c : Code} {G : Gp} {σ : St} {x1 : Int32} {x2 : Int32} {t0 : Int32}  {Q : Int32 → Prop} (F : FX p s m args meth c cX9_areBeside 5 (some .boolean) RX9 G)   (h : wp_X9_areBeside_65 σ x1 x2 t0 Q) : J p l e (rmF 1 23) s m args below meth c 5 G (MQ below (QQ G (qI (fun r σ' => σ' = σ ∧ Q r))) args s 0 0 (fr G)) 0 0 65 [(0, .ref (gb G + 244)), (1, .int x1), (2, .int x2)] [.int t0] σ := by
  unfold wp_X9_areBeside_65 at h
  refine J_isn F (L' := [(3, .int t0), (0, .ref (gb G + 244)), (1, .int x1), (2, .int x2)]) dX9_areBeside_65 rfl (by decide) rfl ?_
  refine J_aln F 1 dX9_areBeside_66 rfl rfl ?_
  refine J_gfa F (ci := 9) 20 rfl inX9 ly_244 (by decide) (by decide) rfl lf_X9_39 rfl dX9_areBeside_67 ?_
  refine J_iln F 2 dX9_areBeside_70 rfl rfl ?_
  obtain ⟨h_4, h⟩ := h
  refine J_iald F ly_253 h_4 dX9_areBeside_71 ?_
  refine J_aln F 1 dX9_areBeside_72 rfl rfl ?_
  refine J_gfa F (ci := 9) 22 rfl inX9 ly_244 (by decide) (by decide) rfl lf_X9_45 rfl dX9_areBeside_73 ?_
  refine J_iln F 2 dX9_areBeside_76 rfl rfl ?_
  obtain ⟨h_5, h⟩ := h
  refine J_iald F ly_255 h_5 dX9_areBeside_77 ?_
  refine J_aln F 1 dX9_areBeside_78 rfl rfl ?_
  refine J_gfa F (ci := 9) 20 rfl inX9 ly_244 (by decide) (by decide) rfl lf_X9_39 rfl dX9_areBeside_79 ?_
  refine J_iln F 3 dX9_areBeside_82 rfl rfl ?_
  obtain ⟨h_6, h⟩ := h
  refine J_iald F ly_253 h_6 dX9_areBeside_83 ?_
  refine J_aln F 1 dX9_areBeside_84 rfl rfl ?_
  refine J_gfa F (ci := 9) 22 rfl inX9 ly_244 (by decide) (by decide) rfl lf_X9_45 rfl dX9_areBeside_85 ?_
  refine J_iln F 3 dX9_areBeside_88 rfl rfl ?_
  obtain ⟨h_7, h⟩ := h
  refine J_iald F ly_255 h_7 dX9_areBeside_89 ?_
  refine J_callSi F (As := [.int (σ 253 (Int32.toNatClampNeg x1)), .int (σ 255 (Int32.toNatClampNeg x1)), .int (σ 253 (Int32.toNatClampNeg x2)), .int (σ 255 (Int32.toNatClampNeg x2))]) (st := []) (C_X9_touch l G (σ 253 (Int32.toNatClampNeg x1)) (σ 255 (Int32.toNatClampNeg x1)) (σ 253 (Int32.toNatClampNeg x2)) (σ 255 (Int32.toNatClampNeg x2))  h) lm_X9_116 li_X9_touch ini_X9 lc_X9_touch hd_X9_touch (by decide) (Nat.le_of_ble_eq_true rfl) (by decide) rfl dX9_areBeside_90 (fun r_8 σ_9 hh => ?_)
  clear h
  obtain ⟨e9, h⟩ := hh
  subst σ_9
  refine J_zeq F (tgt := 130) dX9_areBeside_93 (by decide) (fun c_10 => ?_) (fun c_10 => ?_)
  · have h := h.1 c_10
    refine J_sub [2, 3, 0] rfl ?_
    exact wk_X9_areBeside_130 F  h
  · have h := h.2 c_10
    refine J_aln F 1 dX9_areBeside_96 rfl rfl ?_
    refine J_gfa F (ci := 9) 19 rfl inX9 ly_244 (by decide) (by decide) rfl lf_X9_36 rfl dX9_areBeside_97 ?_
    refine J_iln F 2 dX9_areBeside_100 rfl rfl ?_
    obtain ⟨h_11, h⟩ := h
    refine J_iald F ly_252 h_11 dX9_areBeside_101 ?_
    refine J_aln F 1 dX9_areBeside_102 rfl rfl ?_
    refine J_gfa F (ci := 9) 21 rfl inX9 ly_244 (by decide) (by decide) rfl lf_X9_42 rfl dX9_areBeside_103 ?_
    refine J_iln F 2 dX9_areBeside_106 rfl rfl ?_
    obtain ⟨h_12, h⟩ := h
    refine J_iald F ly_254 h_12 dX9_areBeside_107 ?_
    refine J_aln F 1 dX9_areBeside_108 rfl rfl ?_
    refine J_gfa F (ci := 9) 19 rfl inX9 ly_244 (by decide) (by decide) rfl lf_X9_36 rfl dX9_areBeside_109 ?_
    refine J_iln F 3 dX9_areBeside_112 rfl rfl ?_
    obtain ⟨h_13, h⟩ := h
    refine J_iald F ly_252 h_13 dX9_areBeside_113 ?_
    refine J_aln F 1 dX9_areBeside_114 rfl rfl ?_
    refine J_gfa F (ci := 9) 21 rfl inX9 ly_244 (by decide) (by decide) rfl lf_X9_42 rfl dX9_areBeside_115 ?_
    refine J_iln F 3 dX9_areBeside_118 rfl rfl ?_
    obtain ⟨h_14, h⟩ := h
    refine J_iald F ly_254 h_14 dX9_areBeside_119 ?_
    refine J_callSi F (As := [.int (σ 252 (Int32.toNatClampNeg x1)), .int (σ 254 (Int32.toNatClampNeg x1)), .int (σ 252 (Int32.toNatClampNeg x2)), .int (σ 254 (Int32.toNatClampNeg x2))]) (st := []) (C_X9_meet l G (σ 252 (Int32.toNatClampNeg x1)) (σ 254 (Int32.toNatClampNeg x1)) (σ 252 (Int32.toNatClampNeg x2)) (σ 254 (Int32.toNatClampNeg x2))  h) lm_X9_120 li_X9_meet ini_X9 lc_X9_meet hd_X9_meet (by decide) (Nat.le_of_ble_eq_true rfl) (by decide) rfl dX9_areBeside_120 (fun r_15 σ_16 hh => ?_)
    clear h
    obtain ⟨e9, h⟩ := hh
    subst σ_16
    refine J_zeq F (tgt := 130) dX9_areBeside_123 (by decide) (fun c_17 => ?_) (fun c_17 => ?_)
    · have h := h.1 c_17
      refine J_sub [2, 3, 0] rfl ?_
      exact wk_X9_areBeside_130 F  h
    · have h := h.2 c_17
      refine J_ic F dX9_areBeside_126 ki_1 ?_
      refine J_goto F (tgt := 131) dX9_areBeside_127 (by decide) ?_
      refine J_sub [2, 3, 0] rfl ?_
      exact wk_X9_areBeside_131 F  h
set_option maxRecDepth 20000 in
set_option maxHeartbeats 4000000 in
theorem wk_X9_areBeside_64 {p : Program} {l : Launch} {e : Env} {s : State} {m : MethodId} {args : Array Value} {below : List Frame} {meth : Method} {c : Code} {G : Gp} {σ : St} {x1 : Int32} {x2 : Int32}  {Q : Int32 → Prop} (F : FX p s m args meth c cX9_areBeside 5 (some .boolean) RX9 G)   (h : wp_X9_areBeside_64 σ x1 x2 Q) : J p l e (rmF 1 23) s m args below meth c 5 G (MQ below (QQ G (qI (fun r σ' => σ' = σ ∧ Q r))) args s 0 0 (fr G)) 0 0 64 [(0, .ref (gb G + 244)), (1, .int x1), (2, .int x2)] [] σ := by
  unfold wp_X9_areBeside_64 at h
  refine J_ic F dX9_areBeside_64 ki_0 ?_
  exact wk_X9_areBeside_65 F  h
set_option maxRecDepth 20000 in
set_option maxHeartbeats 4000000 in
theorem C_X9_areBeside (l : Launch) (G : Gp) (x1 : Int32) (x2 : Int32)  {σ : St} {Q : Int32 → Prop} (h : wp_X9_areBeside σ x1 x2 Q) : Cn l yX9_areBeside cX9_areBeside 5 (some .boolean) 1 23 G [.ref (gb G + 244), .int x1, .int x2] σ (qI (fun r σ' => σ' = σ ∧ Q r)) := by
  refine Cn_of (L := [(0, .ref (gb G + 244)), (1, .int x1), (2, .int x2)]) RX9 (by decide) rfl (Nat.le_of_ble_eq_true rfl) rfl ?_
  intro p e s m below meth c F
  unfold wp_X9_areBeside at h
  refine J_aln F 0 dX9_areBeside_0 rfl rfl ?_
  refine J_gfa F (ci := 9) 19 rfl inX9 ly_244 (by decide) (by decide) rfl lf_X9_36 rfl dX9_areBeside_1 ?_
  refine J_iln F 1 dX9_areBeside_4 rfl rfl ?_
  obtain ⟨h_18, h⟩ := h
  refine J_iald F ly_252 h_18 dX9_areBeside_5 ?_
  refine J_aln F 0 dX9_areBeside_6 rfl rfl ?_
  refine J_gfa F (ci := 9) 21 rfl inX9 ly_244 (by decide) (by decide) rfl lf_X9_42 rfl dX9_areBeside_7 ?_
  refine J_iln F 1 dX9_areBeside_10 rfl rfl ?_
  obtain ⟨h_19, h⟩ := h
  refine J_iald F ly_254 h_19 dX9_areBeside_11 ?_
  refine J_aln F 0 dX9_areBeside_12 rfl rfl ?_
  refine J_gfa F (ci := 9) 19 rfl inX9 ly_244 (by decide) (by decide) rfl lf_X9_36 rfl dX9_areBeside_13 ?_
  refine J_iln F 2 dX9_areBeside_16 rfl rfl ?_
  obtain ⟨h_20, h⟩ := h
  refine J_iald F ly_252 h_20 dX9_areBeside_17 ?_
  refine J_aln F 0 dX9_areBeside_18 rfl rfl ?_
  refine J_gfa F (ci := 9) 21 rfl inX9 ly_244 (by decide) (by decide) rfl lf_X9_42 rfl dX9_areBeside_19 ?_
  refine J_iln F 2 dX9_areBeside_22 rfl rfl ?_
  obtain ⟨h_21, h⟩ := h
  refine J_iald F ly_254 h_21 dX9_areBeside_23 ?_
  refine J_callSi F (As := [.int (σ 252 (Int32.toNatClampNeg x1)), .int (σ 254 (Int32.toNatClampNeg x1)), .int (σ 252 (Int32.toNatClampNeg x2)), .int (σ 254 (Int32.toNatClampNeg x2))]) (st := []) (C_X9_touch l G (σ 252 (Int32.toNatClampNeg x1)) (σ 254 (Int32.toNatClampNeg x1)) (σ 252 (Int32.toNatClampNeg x2)) (σ 254 (Int32.toNatClampNeg x2))  h) lm_X9_116 li_X9_touch ini_X9 lc_X9_touch hd_X9_touch (by decide) (Nat.le_of_ble_eq_true rfl) (by decide) rfl dX9_areBeside_24 (fun r_22 σ_23 hh => ?_)
  clear h
  obtain ⟨e9, h⟩ := hh
  subst σ_23
  refine J_zeq F (tgt := 64) dX9_areBeside_27 (by decide) (fun c_24 => ?_) (fun c_24 => ?_)
  · have h := h.1 c_24
    exact wk_X9_areBeside_64 F  h
  · have h := h.2 c_24
    refine J_aln F 0 dX9_areBeside_30 rfl rfl ?_
    refine J_gfa F (ci := 9) 20 rfl inX9 ly_244 (by decide) (by decide) rfl lf_X9_39 rfl dX9_areBeside_31 ?_
    refine J_iln F 1 dX9_areBeside_34 rfl rfl ?_
    obtain ⟨h_25, h⟩ := h
    refine J_iald F ly_253 h_25 dX9_areBeside_35 ?_
    refine J_aln F 0 dX9_areBeside_36 rfl rfl ?_
    refine J_gfa F (ci := 9) 22 rfl inX9 ly_244 (by decide) (by decide) rfl lf_X9_45 rfl dX9_areBeside_37 ?_
    refine J_iln F 1 dX9_areBeside_40 rfl rfl ?_
    obtain ⟨h_26, h⟩ := h
    refine J_iald F ly_255 h_26 dX9_areBeside_41 ?_
    refine J_aln F 0 dX9_areBeside_42 rfl rfl ?_
    refine J_gfa F (ci := 9) 20 rfl inX9 ly_244 (by decide) (by decide) rfl lf_X9_39 rfl dX9_areBeside_43 ?_
    refine J_iln F 2 dX9_areBeside_46 rfl rfl ?_
    obtain ⟨h_27, h⟩ := h
    refine J_iald F ly_253 h_27 dX9_areBeside_47 ?_
    refine J_aln F 0 dX9_areBeside_48 rfl rfl ?_
    refine J_gfa F (ci := 9) 22 rfl inX9 ly_244 (by decide) (by decide) rfl lf_X9_45 rfl dX9_areBeside_49 ?_
    refine J_iln F 2 dX9_areBeside_52 rfl rfl ?_
    obtain ⟨h_28, h⟩ := h
    refine J_iald F ly_255 h_28 dX9_areBeside_53 ?_
    refine J_callSi F (As := [.int (σ 253 (Int32.toNatClampNeg x1)), .int (σ 255 (Int32.toNatClampNeg x1)), .int (σ 253 (Int32.toNatClampNeg x2)), .int (σ 255 (Int32.toNatClampNeg x2))]) (st := []) (C_X9_meet l G (σ 253 (Int32.toNatClampNeg x1)) (σ 255 (Int32.toNatClampNeg x1)) (σ 253 (Int32.toNatClampNeg x2)) (σ 255 (Int32.toNatClampNeg x2))  h) lm_X9_120 li_X9_meet ini_X9 lc_X9_meet hd_X9_meet (by decide) (Nat.le_of_ble_eq_true rfl) (by decide) rfl dX9_areBeside_54 (fun r_29 σ_30 hh => ?_)
    clear h
    obtain ⟨e9, h⟩ := hh
    subst σ_30
    refine J_zeq F (tgt := 64) dX9_areBeside_57 (by decide) (fun c_31 => ?_) (fun c_31 => ?_)
    · have h := h.1 c_31
      exact wk_X9_areBeside_64 F  h
    · have h := h.2 c_31
      refine J_ic F dX9_areBeside_60 ki_1 ?_
      refine J_goto F (tgt := 65) dX9_areBeside_61 (by decide) ?_
      exact wk_X9_areBeside_65 F  h
theorem dX9_besideZone_0 : decode cX9_besideZone 0 = .ok (.iconst 0, 1) := by decide +kernel
theorem dX9_besideZone_1 : decode cX9_besideZone 1 = .ok (.istore_n 2, 1) := by decide +kernel
theorem dX9_besideZone_2 : decode cX9_besideZone 2 = .ok (.iconst 0, 1) := by decide +kernel
theorem dX9_besideZone_3 : decode cX9_besideZone 3 = .ok (.istore_n 3, 1) := by decide +kernel
theorem dX9_besideZone_4 : decode cX9_besideZone 4 = .ok (.iload_n 3, 1) := by decide +kernel
theorem dX9_besideZone_5 : decode cX9_besideZone 5 = .ok (.aload_n 0, 1) := by decide +kernel
theorem dX9_besideZone_6 : decode cX9_besideZone 6 = .ok (.getfield 113, 3) := by decide +kernel
theorem dX9_besideZone_9 : decode cX9_besideZone 9 = .ok (.if_icmp .ge 33, 3) := by decide +kernel
theorem dX9_besideZone_12 : decode cX9_besideZone 12 = .ok (.iload_n 2, 1) := by decide +kernel
theorem dX9_besideZone_13 : decode cX9_besideZone 13 = .ok (.aload_n 0, 1) := by decide +kernel
theorem dX9_besideZone_14 : decode cX9_besideZone 14 = .ok (.iload_n 1, 1) := by decide +kernel
theorem dX9_besideZone_15 : decode cX9_besideZone 15 = .ok (.iload_n 3, 1) := by decide +kernel
theorem dX9_besideZone_16 : decode cX9_besideZone 16 = .ok (.invokevirtual 123, 3) := by decide +kernel
theorem dX9_besideZone_19 : decode cX9_besideZone 19 = .ok (.ifCond .eq 14, 3) := by decide +kernel
theorem dX9_besideZone_22 : decode cX9_besideZone 22 = .ok (.iconst 1, 1) := by decide +kernel
theorem dX9_besideZone_23 : decode cX9_besideZone 23 = .ok (.aload_n 0, 1) := by decide +kernel
theorem dX9_besideZone_24 : decode cX9_besideZone 24 = .ok (.getfield 33, 3) := by decide +kernel
theorem dX9_besideZone_27 : decode cX9_besideZone 27 = .ok (.iload_n 3, 1) := by decide +kernel
theorem dX9_besideZone_28 : decode cX9_besideZone 28 = .ok (.iaload, 1) := by decide +kernel
theorem dX9_besideZone_29 : decode cX9_besideZone 29 = .ok (.ishl, 1) := by decide +kernel
theorem dX9_besideZone_30 : decode cX9_besideZone 30 = .ok (.goto 4, 3) := by decide +kernel
theorem dX9_besideZone_33 : decode cX9_besideZone 33 = .ok (.iconst 0, 1) := by decide +kernel
theorem dX9_besideZone_34 : decode cX9_besideZone 34 = .ok (.ior, 1) := by decide +kernel
theorem dX9_besideZone_35 : decode cX9_besideZone 35 = .ok (.istore_n 2, 1) := by decide +kernel
theorem dX9_besideZone_36 : decode cX9_besideZone 36 = .ok (.iinc 3 1, 3) := by decide +kernel
theorem dX9_besideZone_39 : decode cX9_besideZone 39 = .ok (.goto (-35), 3) := by decide +kernel
theorem dX9_besideZone_42 : decode cX9_besideZone 42 = .ok (.iload_n 2, 1) := by decide +kernel
theorem dX9_besideZone_43 : decode cX9_besideZone 43 = .ok (.ireturn, 1) := by decide +kernel
set_option maxRecDepth 20000 in
set_option maxHeartbeats 4000000 in
theorem wk_X9_besideZone_4 {p : Program} {l : Launch} {e : Env} {s : State} {m : MethodId} {args : Array Value} {below : List Frame} {meth : Method} {c : Code} {G : Gp} {σ : St} {x1 : Int32}  {Q : Int32 → Prop} (F : FX p s m args meth c cX9_besideZone 4 (some .int) RX9 G)   : ∀ (n9 : Nat) (x2 : Int32) (x3 : Int32), LP2 (wp_X9_besideZone_4 σ x1 Q) n9 x2 x3 → J p l e (rmF 2 47) s m args below meth c 4 G (MQ below (QQ G (qI (fun r σ' => σ' = σ ∧ Q r))) args s 0 0 (fr G)) 0 0 4 [(0, .ref (gb G + 244)), (1, .int x1), (2, .int x2), (3, .int x3)] [] σ := by
  intro n9
  induction n9 with
  | zero => intro x2 x3 h; exact h.elim
  | succ n9 i4 =>
    intro x2 x3 h
    have h : wp_X9_besideZone_4 σ x1 Q (LP2 (wp_X9_besideZone_4 σ x1 Q) n9) x2 x3 := h
    unfold wp_X9_besideZone_4 at h
    refine J_iln F 3 dX9_besideZone_4 rfl rfl ?_
    refine J_aln F 0 dX9_besideZone_5 rfl rfl ?_
    refine J_gfi F (ci := 9) 23 rfl inX9 ly_244 (by decide) (by decide) rfl lf_X9_113 rfl dX9_besideZone_6 ?_
    refine J_cge F (tgt := 42) dX9_besideZone_9 (by decide) (fun c_1 => ?_) (fun c_1 => ?_)
    · have h := h.1 c_1
      refine J_iln F 2 dX9_besideZone_42 rfl rfl ?_
      exact J_reti F ⟨_, rfl, rfl, h⟩ dX9_besideZone_43
    · have h := h.2 c_1
      refine J_iln F 2 dX9_besideZone_12 rfl rfl ?_
      refine J_aln F 0 dX9_besideZone_13 rfl rfl ?_
      refine J_iln F 1 dX9_besideZone_14 rfl rfl ?_
      refine J_iln F 3 dX9_besideZone_15 rfl rfl ?_
      refine J_callVi F (As := [.int x1, .int x3]) (st := [.int x2]) (C_X9_areBeside l G x1 x3  h) (ci := 9) ly_244 (by decide) rfl rfl lm_X9_123 li_X9_areBeside ls_X9_areBeside ini_X9 lc_X9_areBeside hd_X9_areBeside (by decide) (Nat.le_of_ble_eq_true rfl) (by decide) rfl dX9_besideZone_16 (fun r_2 σ_3 hh => ?_)
      clear h
      obtain ⟨e9, h⟩ := hh
      subst σ_3
      refine J_zeq F (tgt := 33) dX9_besideZone_19 (by decide) (fun c_4 => ?_) (fun c_4 => ?_)
      · have h := h.1 c_4
        refine J_ic F dX9_besideZone_33 ki_0 ?_
        refine J_ior F dX9_besideZone_34 ?_
        refine J_top (fun x2_5 ex2_5 => ?_)
        have h := h x2_5 ex2_5
        refine J_isn F (L' := [(2, .int x2_5), (0, .ref (gb G + 244)), (1, .int x1), (3, .int x3)]) dX9_besideZone_35 rfl (by decide) rfl ?_
        obtain ⟨x3_6, ex3_6⟩ : ∃ z : Int32, z = x3 + (nI 1) := ⟨_, rfl⟩
        have h := h x3_6 ex3_6
        refine J_iinc F (v := x3_6) (L' := [(3, .int x3_6), (2, .int x2_5), (0, .ref (gb G + 244)), (1, .int x1)]) 3 dX9_besideZone_36 rfl (by rw [ki_1, ex3_6]) (by decide) rfl ?_
        refine J_goto F (tgt := 4) dX9_besideZone_39 (by decide) ?_
        refine J_sub [2, 3, 1, 0] rfl ?_
        exact i4 _ _ h
      · have h := h.2 c_4
        refine J_ic F dX9_besideZone_22 ki_1 ?_
        refine J_aln F 0 dX9_besideZone_23 rfl rfl ?_
        refine J_gfa F (ci := 9) 18 rfl inX9 ly_244 (by decide) (by decide) rfl lf_X9_33 rfl dX9_besideZone_24 ?_
        refine J_iln F 3 dX9_besideZone_27 rfl rfl ?_
        obtain ⟨h_7, h⟩ := h
        refine J_iald F ly_251 h_7 dX9_besideZone_28 ?_
        refine J_ishl F dX9_besideZone_29 ?_
        refine J_goto F (tgt := 34) dX9_besideZone_30 (by decide) ?_
        refine J_ior F dX9_besideZone_34 ?_
        refine J_top (fun x2_8 ex2_8 => ?_)
        have h := h x2_8 ex2_8
        refine J_isn F (L' := [(2, .int x2_8), (0, .ref (gb G + 244)), (1, .int x1), (3, .int x3)]) dX9_besideZone_35 rfl (by decide) rfl ?_
        obtain ⟨x3_9, ex3_9⟩ : ∃ z : Int32, z = x3 + (nI 1) := ⟨_, rfl⟩
        have h := h x3_9 ex3_9
        refine J_iinc F (v := x3_9) (L' := [(3, .int x3_9), (2, .int x2_8), (0, .ref (gb G + 244)), (1, .int x1)]) 3 dX9_besideZone_36 rfl (by rw [ki_1, ex3_9]) (by decide) rfl ?_
        refine J_goto F (tgt := 4) dX9_besideZone_39 (by decide) ?_
        refine J_sub [2, 3, 1, 0] rfl ?_
        exact i4 _ _ h
set_option maxRecDepth 20000 in
set_option maxHeartbeats 4000000 in
theorem C_X9_besideZone (l : Launch) (G : Gp) (x1 : Int32)  {σ : St} {Q : Int32 → Prop} (h : wp_X9_besideZone σ x1 Q) : Cn l yX9_besideZone cX9_besideZone 4 (some .int) 2 47 G [.ref (gb G + 244), .int x1] σ (qI (fun r σ' => σ' = σ ∧ Q r)) := by
  refine Cn_of (L := [(0, .ref (gb G + 244)), (1, .int x1)]) RX9 (by decide) rfl (Nat.le_of_ble_eq_true rfl) rfl ?_
  intro p e s m below meth c F
  unfold wp_X9_besideZone at h
  refine J_ic F dX9_besideZone_0 ki_0 ?_
  refine J_isn F (L' := [(2, .int (nI 0)), (0, .ref (gb G + 244)), (1, .int x1)]) dX9_besideZone_1 rfl (by decide) rfl ?_
  refine J_ic F dX9_besideZone_2 ki_0 ?_
  refine J_isn F (L' := [(3, .int (nI 0)), (2, .int (nI 0)), (0, .ref (gb G + 244)), (1, .int x1)]) dX9_besideZone_3 rfl (by decide) rfl ?_
  refine J_sub [2, 3, 1, 0] rfl ?_
  obtain ⟨n9, h⟩ := h
  exact wk_X9_besideZone_4 F  n9 _ _ h
theorem dX9_besideNode_0 : decode cX9_besideNode 0 = .ok (.iconst 0, 1) := by decide +kernel
theorem dX9_besideNode_1 : decode cX9_besideNode 1 = .ok (.istore_n 2, 1) := by decide +kernel
theorem dX9_besideNode_2 : decode cX9_besideNode 2 = .ok (.iconst 0, 1) := by decide +kernel
theorem dX9_besideNode_3 : decode cX9_besideNode 3 = .ok (.istore_n 3, 1) := by decide +kernel
theorem dX9_besideNode_4 : decode cX9_besideNode 4 = .ok (.iload_n 3, 1) := by decide +kernel
theorem dX9_besideNode_5 : decode cX9_besideNode 5 = .ok (.aload_n 0, 1) := by decide +kernel
theorem dX9_besideNode_6 : decode cX9_besideNode 6 = .ok (.getfield 113, 3) := by decide +kernel
theorem dX9_besideNode_9 : decode cX9_besideNode 9 = .ok (.if_icmp .ge 31, 3) := by decide +kernel
theorem dX9_besideNode_12 : decode cX9_besideNode 12 = .ok (.iload_n 2, 1) := by decide +kernel
theorem dX9_besideNode_13 : decode cX9_besideNode 13 = .ok (.aload_n 0, 1) := by decide +kernel
theorem dX9_besideNode_14 : decode cX9_besideNode 14 = .ok (.getfield 33, 3) := by decide +kernel
theorem dX9_besideNode_17 : decode cX9_besideNode 17 = .ok (.iload_n 3, 1) := by decide +kernel
theorem dX9_besideNode_18 : decode cX9_besideNode 18 = .ok (.iaload, 1) := by decide +kernel
theorem dX9_besideNode_19 : decode cX9_besideNode 19 = .ok (.iload_n 1, 1) := by decide +kernel
theorem dX9_besideNode_20 : decode cX9_besideNode 20 = .ok (.if_icmp .ne 11, 3) := by decide +kernel
theorem dX9_besideNode_23 : decode cX9_besideNode 23 = .ok (.aload_n 0, 1) := by decide +kernel
theorem dX9_besideNode_24 : decode cX9_besideNode 24 = .ok (.iload_n 3, 1) := by decide +kernel
theorem dX9_besideNode_25 : decode cX9_besideNode 25 = .ok (.invokevirtual 126, 3) := by decide +kernel
theorem dX9_besideNode_28 : decode cX9_besideNode 28 = .ok (.goto 4, 3) := by decide +kernel
theorem dX9_besideNode_31 : decode cX9_besideNode 31 = .ok (.iconst 0, 1) := by decide +kernel
theorem dX9_besideNode_32 : decode cX9_besideNode 32 = .ok (.ior, 1) := by decide +kernel
theorem dX9_besideNode_33 : decode cX9_besideNode 33 = .ok (.istore_n 2, 1) := by decide +kernel
theorem dX9_besideNode_34 : decode cX9_besideNode 34 = .ok (.iinc 3 1, 3) := by decide +kernel
theorem dX9_besideNode_37 : decode cX9_besideNode 37 = .ok (.goto (-33), 3) := by decide +kernel
theorem dX9_besideNode_40 : decode cX9_besideNode 40 = .ok (.iload_n 2, 1) := by decide +kernel
theorem dX9_besideNode_41 : decode cX9_besideNode 41 = .ok (.iconst 1, 1) := by decide +kernel
theorem dX9_besideNode_42 : decode cX9_besideNode 42 = .ok (.iload_n 1, 1) := by decide +kernel
theorem dX9_besideNode_43 : decode cX9_besideNode 43 = .ok (.ishl, 1) := by decide +kernel
theorem dX9_besideNode_44 : decode cX9_besideNode 44 = .ok (.iconst (-1), 1) := by decide +kernel
theorem dX9_besideNode_45 : decode cX9_besideNode 45 = .ok (.ixor, 1) := by decide +kernel
theorem dX9_besideNode_46 : decode cX9_besideNode 46 = .ok (.iand, 1) := by decide +kernel
theorem dX9_besideNode_47 : decode cX9_besideNode 47 = .ok (.ireturn, 1) := by decide +kernel
set_option maxRecDepth 20000 in
set_option maxHeartbeats 4000000 in
theorem wk_X9_besideNode_40 {p : Program} {l : Launch} {e : Env} {s : State} {m : MethodId} {args : Array Value} {below : List Frame} {meth : Method} {c : Code} {G : Gp} {σ : St} {x1 : Int32} {x2 : Int32}  {Q : Int32 → Prop} (F : FX p s m args meth c cX9_besideNode 4 (some .int) RX9 G)   (h : wp_X9_besideNode_40 σ x1 x2 Q) : J p l e (rmF 3 70) s m args below meth c 4 G (MQ below (QQ G (qI (fun r σ' => σ' = σ ∧ Q r))) args s 0 0 (fr G)) 0 0 40 [(1, .int x1), (2, .int x2)] [] σ := by
  unfold wp_X9_besideNode_40 at h
  refine J_iln F 1 dX9_besideNode_40 rfl rfl ?_
  refine J_ic F dX9_besideNode_41 ki_1 ?_
  refine J_iln F 0 dX9_besideNode_42 rfl rfl ?_
  refine J_ishl F dX9_besideNode_43 ?_
  refine J_ic F dX9_besideNode_44 ki_m1 ?_
  refine J_ixor F dX9_besideNode_45 ?_
  refine J_iand F dX9_besideNode_46 ?_
  exact J_reti F ⟨_, rfl, rfl, h⟩ dX9_besideNode_47
set_option maxRecDepth 20000 in
set_option maxHeartbeats 4000000 in
theorem wk_X9_besideNode_4 {p : Program} {l : Launch} {e : Env} {s : State} {m : MethodId} {args : Array Value} {below : List Frame} {meth : Method} {c : Code} {G : Gp} {σ : St} {x1 : Int32}  {Q : Int32 → Prop} (F : FX p s m args meth c cX9_besideNode 4 (some .int) RX9 G)   : ∀ (n9 : Nat) (x2 : Int32) (x3 : Int32), LP2 (wp_X9_besideNode_4 σ x1 Q) n9 x2 x3 → J p l e (rmF 3 70) s m args below meth c 4 G (MQ below (QQ G (qI (fun r σ' => σ' = σ ∧ Q r))) args s 0 0 (fr G)) 0 0 4 [(0, .ref (gb G + 244)), (1, .int x1), (2, .int x2), (3, .int x3)] [] σ := by
  intro n9
  induction n9 with
  | zero => intro x2 x3 h; exact h.elim
  | succ n9 i4 =>
    intro x2 x3 h
    have h : wp_X9_besideNode_4 σ x1 Q (LP2 (wp_X9_besideNode_4 σ x1 Q) n9) x2 x3 := h
    unfold wp_X9_besideNode_4 at h
    refine J_iln F 3 dX9_besideNode_4 rfl rfl ?_
    refine J_aln F 0 dX9_besideNode_5 rfl rfl ?_
    refine J_gfi F (ci := 9) 23 rfl inX9 ly_244 (by decide) (by decide) rfl lf_X9_113 rfl dX9_besideNode_6 ?_
    refine J_cge F (tgt := 40) dX9_besideNode_9 (by decide) (fun c_1 => ?_) (fun c_1 => ?_)
    · have h := h.1 c_1
      refine J_sub [1, 2] rfl ?_
      exact wk_X9_besideNode_40 F  h
    · have h := h.2 c_1
      refine J_iln F 2 dX9_besideNode_12 rfl rfl ?_
      refine J_aln F 0 dX9_besideNode_13 rfl rfl ?_
      refine J_gfa F (ci := 9) 18 rfl inX9 ly_244 (by decide) (by decide) rfl lf_X9_33 rfl dX9_besideNode_14 ?_
      refine J_iln F 3 dX9_besideNode_17 rfl rfl ?_
      obtain ⟨h_2, h⟩ := h
      refine J_iald F ly_251 h_2 dX9_besideNode_18 ?_
      refine J_iln F 1 dX9_besideNode_19 rfl rfl ?_
      refine J_cne F (tgt := 31) dX9_besideNode_20 (by decide) (fun c_3 => ?_) (fun c_3 => ?_)
      · have h := h.1 c_3
        refine J_ic F dX9_besideNode_31 ki_0 ?_
        refine J_ior F dX9_besideNode_32 ?_
        refine J_top (fun x2_4 ex2_4 => ?_)
        have h := h x2_4 ex2_4
        refine J_isn F (L' := [(2, .int x2_4), (0, .ref (gb G + 244)), (1, .int x1), (3, .int x3)]) dX9_besideNode_33 rfl (by decide) rfl ?_
        obtain ⟨x3_5, ex3_5⟩ : ∃ z : Int32, z = x3 + (nI 1) := ⟨_, rfl⟩
        have h := h x3_5 ex3_5
        refine J_iinc F (v := x3_5) (L' := [(3, .int x3_5), (2, .int x2_4), (0, .ref (gb G + 244)), (1, .int x1)]) 3 dX9_besideNode_34 rfl (by rw [ki_1, ex3_5]) (by decide) rfl ?_
        refine J_goto F (tgt := 4) dX9_besideNode_37 (by decide) ?_
        refine J_sub [2, 3, 1, 0] rfl ?_
        exact i4 _ _ h
      · have h := h.2 c_3
        refine J_aln F 0 dX9_besideNode_23 rfl rfl ?_
        refine J_iln F 3 dX9_besideNode_24 rfl rfl ?_
        refine J_callVi F (As := [.int x3]) (st := [.int x2]) (C_X9_besideZone l G x3  h) (ci := 9) ly_244 (by decide) rfl rfl lm_X9_126 li_X9_besideZone ls_X9_besideZone ini_X9 lc_X9_besideZone hd_X9_besideZone (by decide) (Nat.le_of_ble_eq_true rfl) (by decide) rfl dX9_besideNode_25 (fun r_6 σ_7 hh => ?_)
        clear h
        obtain ⟨e9, h⟩ := hh
        subst σ_7
        refine J_goto F (tgt := 32) dX9_besideNode_28 (by decide) ?_
        refine J_ior F dX9_besideNode_32 ?_
        refine J_top (fun x2_8 ex2_8 => ?_)
        have h := h x2_8 ex2_8
        refine J_isn F (L' := [(2, .int x2_8), (0, .ref (gb G + 244)), (1, .int x1), (3, .int x3)]) dX9_besideNode_33 rfl (by decide) rfl ?_
        obtain ⟨x3_9, ex3_9⟩ : ∃ z : Int32, z = x3 + (nI 1) := ⟨_, rfl⟩
        have h := h x3_9 ex3_9
        refine J_iinc F (v := x3_9) (L' := [(3, .int x3_9), (2, .int x2_8), (0, .ref (gb G + 244)), (1, .int x1)]) 3 dX9_besideNode_34 rfl (by rw [ki_1, ex3_9]) (by decide) rfl ?_
        refine J_goto F (tgt := 4) dX9_besideNode_37 (by decide) ?_
        refine J_sub [2, 3, 1, 0] rfl ?_
        exact i4 _ _ h
set_option maxRecDepth 20000 in
set_option maxHeartbeats 4000000 in
theorem C_X9_besideNode (l : Launch) (G : Gp) (x1 : Int32)  {σ : St} {Q : Int32 → Prop} (h : wp_X9_besideNode σ x1 Q) : Cn l yX9_besideNode cX9_besideNode 4 (some .int) 3 70 G [.ref (gb G + 244), .int x1] σ (qI (fun r σ' => σ' = σ ∧ Q r)) := by
  refine Cn_of (L := [(0, .ref (gb G + 244)), (1, .int x1)]) RX9 (by decide) rfl (Nat.le_of_ble_eq_true rfl) rfl ?_
  intro p e s m below meth c F
  unfold wp_X9_besideNode at h
  refine J_ic F dX9_besideNode_0 ki_0 ?_
  refine J_isn F (L' := [(2, .int (nI 0)), (0, .ref (gb G + 244)), (1, .int x1)]) dX9_besideNode_1 rfl (by decide) rfl ?_
  refine J_ic F dX9_besideNode_2 ki_0 ?_
  refine J_isn F (L' := [(3, .int (nI 0)), (2, .int (nI 0)), (0, .ref (gb G + 244)), (1, .int x1)]) dX9_besideNode_3 rfl (by decide) rfl ?_
  refine J_sub [2, 3, 1, 0] rfl ?_
  obtain ⟨n9, h⟩ := h
  exact wk_X9_besideNode_4 F  n9 _ _ h
theorem dX9_volumeOf_0 : decode cX9_volumeOf 0 = .ok (.iconst 0, 1) := by decide +kernel
theorem dX9_volumeOf_1 : decode cX9_volumeOf 1 = .ok (.istore_n 2, 1) := by decide +kernel
theorem dX9_volumeOf_2 : decode cX9_volumeOf 2 = .ok (.iconst 0, 1) := by decide +kernel
theorem dX9_volumeOf_3 : decode cX9_volumeOf 3 = .ok (.istore_n 3, 1) := by decide +kernel
theorem dX9_volumeOf_4 : decode cX9_volumeOf 4 = .ok (.iload_n 3, 1) := by decide +kernel
theorem dX9_volumeOf_5 : decode cX9_volumeOf 5 = .ok (.aload_n 0, 1) := by decide +kernel
theorem dX9_volumeOf_6 : decode cX9_volumeOf 6 = .ok (.getfield 113, 3) := by decide +kernel
theorem dX9_volumeOf_9 : decode cX9_volumeOf 9 = .ok (.if_icmp .ge 39, 3) := by decide +kernel
theorem dX9_volumeOf_12 : decode cX9_volumeOf 12 = .ok (.iload_n 2, 1) := by decide +kernel
theorem dX9_volumeOf_13 : decode cX9_volumeOf 13 = .ok (.aload_n 0, 1) := by decide +kernel
theorem dX9_volumeOf_14 : decode cX9_volumeOf 14 = .ok (.getfield 33, 3) := by decide +kernel
theorem dX9_volumeOf_17 : decode cX9_volumeOf 17 = .ok (.iload_n 3, 1) := by decide +kernel
theorem dX9_volumeOf_18 : decode cX9_volumeOf 18 = .ok (.iaload, 1) := by decide +kernel
theorem dX9_volumeOf_19 : decode cX9_volumeOf 19 = .ok (.iload_n 1, 1) := by decide +kernel
theorem dX9_volumeOf_20 : decode cX9_volumeOf 20 = .ok (.if_icmp .ne 19, 3) := by decide +kernel
theorem dX9_volumeOf_23 : decode cX9_volumeOf 23 = .ok (.aload_n 0, 1) := by decide +kernel
theorem dX9_volumeOf_24 : decode cX9_volumeOf 24 = .ok (.getfield 42, 3) := by decide +kernel
theorem dX9_volumeOf_27 : decode cX9_volumeOf 27 = .ok (.iload_n 3, 1) := by decide +kernel
theorem dX9_volumeOf_28 : decode cX9_volumeOf 28 = .ok (.iaload, 1) := by decide +kernel
theorem dX9_volumeOf_29 : decode cX9_volumeOf 29 = .ok (.aload_n 0, 1) := by decide +kernel
theorem dX9_volumeOf_30 : decode cX9_volumeOf 30 = .ok (.getfield 45, 3) := by decide +kernel
theorem dX9_volumeOf_33 : decode cX9_volumeOf 33 = .ok (.iload_n 3, 1) := by decide +kernel
theorem dX9_volumeOf_34 : decode cX9_volumeOf 34 = .ok (.iaload, 1) := by decide +kernel
theorem dX9_volumeOf_35 : decode cX9_volumeOf 35 = .ok (.imul, 1) := by decide +kernel
theorem dX9_volumeOf_36 : decode cX9_volumeOf 36 = .ok (.goto 4, 3) := by decide +kernel
theorem dX9_volumeOf_39 : decode cX9_volumeOf 39 = .ok (.iconst 0, 1) := by decide +kernel
theorem dX9_volumeOf_40 : decode cX9_volumeOf 40 = .ok (.iadd, 1) := by decide +kernel
theorem dX9_volumeOf_41 : decode cX9_volumeOf 41 = .ok (.istore_n 2, 1) := by decide +kernel
theorem dX9_volumeOf_42 : decode cX9_volumeOf 42 = .ok (.iinc 3 1, 3) := by decide +kernel
theorem dX9_volumeOf_45 : decode cX9_volumeOf 45 = .ok (.goto (-41), 3) := by decide +kernel
theorem dX9_volumeOf_48 : decode cX9_volumeOf 48 = .ok (.iload_n 2, 1) := by decide +kernel
theorem dX9_volumeOf_49 : decode cX9_volumeOf 49 = .ok (.ireturn, 1) := by decide +kernel
set_option maxRecDepth 20000 in
set_option maxHeartbeats 4000000 in
theorem wk_X9_volumeOf_4 {p : Program} {l : Launch} {e : Env} {s : State} {m : MethodId} {args : Array Value} {below : List Frame} {meth : Method} {c : Code} {G : Gp} {σ : St} {x1 : Int32}  {Q : Int32 → Prop} (F : FX p s m args meth c cX9_volumeOf 4 (some .int) RX9 G)   : ∀ (n9 : Nat) (x2 : Int32) (x3 : Int32), LP2 (wp_X9_volumeOf_4 σ x1 Q) n9 x2 x3 → J p l e (rmF 0 0) s m args below meth c 4 G (MQ below (QQ G (qI (fun r σ' => σ' = σ ∧ Q r))) args s 0 0 (fr G)) 0 0 4 [(0, .ref (gb G + 244)), (1, .int x1), (2, .int x2), (3, .int x3)] [] σ := by
  intro n9
  induction n9 with
  | zero => intro x2 x3 h; exact h.elim
  | succ n9 i4 =>
    intro x2 x3 h
    have h : wp_X9_volumeOf_4 σ x1 Q (LP2 (wp_X9_volumeOf_4 σ x1 Q) n9) x2 x3 := h
    unfold wp_X9_volumeOf_4 at h
    refine J_iln F 3 dX9_volumeOf_4 rfl rfl ?_
    refine J_aln F 0 dX9_volumeOf_5 rfl rfl ?_
    refine J_gfi F (ci := 9) 23 rfl inX9 ly_244 (by decide) (by decide) rfl lf_X9_113 rfl dX9_volumeOf_6 ?_
    refine J_cge F (tgt := 48) dX9_volumeOf_9 (by decide) (fun c_1 => ?_) (fun c_1 => ?_)
    · have h := h.1 c_1
      refine J_iln F 2 dX9_volumeOf_48 rfl rfl ?_
      exact J_reti F ⟨_, rfl, rfl, h⟩ dX9_volumeOf_49
    · have h := h.2 c_1
      refine J_iln F 2 dX9_volumeOf_12 rfl rfl ?_
      refine J_aln F 0 dX9_volumeOf_13 rfl rfl ?_
      refine J_gfa F (ci := 9) 18 rfl inX9 ly_244 (by decide) (by decide) rfl lf_X9_33 rfl dX9_volumeOf_14 ?_
      refine J_iln F 3 dX9_volumeOf_17 rfl rfl ?_
      obtain ⟨h_2, h⟩ := h
      refine J_iald F ly_251 h_2 dX9_volumeOf_18 ?_
      refine J_iln F 1 dX9_volumeOf_19 rfl rfl ?_
      refine J_cne F (tgt := 39) dX9_volumeOf_20 (by decide) (fun c_3 => ?_) (fun c_3 => ?_)
      · have h := h.1 c_3
        refine J_ic F dX9_volumeOf_39 ki_0 ?_
        refine J_iadd F dX9_volumeOf_40 ?_
        refine J_top (fun x2_4 ex2_4 => ?_)
        have h := h x2_4 ex2_4
        refine J_isn F (L' := [(2, .int x2_4), (0, .ref (gb G + 244)), (1, .int x1), (3, .int x3)]) dX9_volumeOf_41 rfl (by decide) rfl ?_
        obtain ⟨x3_5, ex3_5⟩ : ∃ z : Int32, z = x3 + (nI 1) := ⟨_, rfl⟩
        have h := h x3_5 ex3_5
        refine J_iinc F (v := x3_5) (L' := [(3, .int x3_5), (2, .int x2_4), (0, .ref (gb G + 244)), (1, .int x1)]) 3 dX9_volumeOf_42 rfl (by rw [ki_1, ex3_5]) (by decide) rfl ?_
        refine J_goto F (tgt := 4) dX9_volumeOf_45 (by decide) ?_
        refine J_sub [2, 3, 1, 0] rfl ?_
        exact i4 _ _ h
      · have h := h.2 c_3
        refine J_aln F 0 dX9_volumeOf_23 rfl rfl ?_
        refine J_gfa F (ci := 9) 21 rfl inX9 ly_244 (by decide) (by decide) rfl lf_X9_42 rfl dX9_volumeOf_24 ?_
        refine J_iln F 3 dX9_volumeOf_27 rfl rfl ?_
        obtain ⟨h_6, h⟩ := h
        refine J_iald F ly_254 h_6 dX9_volumeOf_28 ?_
        refine J_aln F 0 dX9_volumeOf_29 rfl rfl ?_
        refine J_gfa F (ci := 9) 22 rfl inX9 ly_244 (by decide) (by decide) rfl lf_X9_45 rfl dX9_volumeOf_30 ?_
        refine J_iln F 3 dX9_volumeOf_33 rfl rfl ?_
        obtain ⟨h_7, h⟩ := h
        refine J_iald F ly_255 h_7 dX9_volumeOf_34 ?_
        refine J_imul F dX9_volumeOf_35 ?_
        refine J_goto F (tgt := 40) dX9_volumeOf_36 (by decide) ?_
        refine J_iadd F dX9_volumeOf_40 ?_
        refine J_top (fun x2_8 ex2_8 => ?_)
        have h := h x2_8 ex2_8
        refine J_isn F (L' := [(2, .int x2_8), (0, .ref (gb G + 244)), (1, .int x1), (3, .int x3)]) dX9_volumeOf_41 rfl (by decide) rfl ?_
        obtain ⟨x3_9, ex3_9⟩ : ∃ z : Int32, z = x3 + (nI 1) := ⟨_, rfl⟩
        have h := h x3_9 ex3_9
        refine J_iinc F (v := x3_9) (L' := [(3, .int x3_9), (2, .int x2_8), (0, .ref (gb G + 244)), (1, .int x1)]) 3 dX9_volumeOf_42 rfl (by rw [ki_1, ex3_9]) (by decide) rfl ?_
        refine J_goto F (tgt := 4) dX9_volumeOf_45 (by decide) ?_
        refine J_sub [2, 3, 1, 0] rfl ?_
        exact i4 _ _ h
set_option maxRecDepth 20000 in
set_option maxHeartbeats 4000000 in
theorem C_X9_volumeOf (l : Launch) (G : Gp) (x1 : Int32)  {σ : St} {Q : Int32 → Prop} (h : wp_X9_volumeOf σ x1 Q) : Cn l yX9_volumeOf cX9_volumeOf 4 (some .int) 0 0 G [.ref (gb G + 244), .int x1] σ (qI (fun r σ' => σ' = σ ∧ Q r)) := by
  refine Cn_of (L := [(0, .ref (gb G + 244)), (1, .int x1)]) RX9 (by decide) rfl (Nat.le_of_ble_eq_true rfl) rfl ?_
  intro p e s m below meth c F
  unfold wp_X9_volumeOf at h
  refine J_ic F dX9_volumeOf_0 ki_0 ?_
  refine J_isn F (L' := [(2, .int (nI 0)), (0, .ref (gb G + 244)), (1, .int x1)]) dX9_volumeOf_1 rfl (by decide) rfl ?_
  refine J_ic F dX9_volumeOf_2 ki_0 ?_
  refine J_isn F (L' := [(3, .int (nI 0)), (2, .int (nI 0)), (0, .ref (gb G + 244)), (1, .int x1)]) dX9_volumeOf_3 rfl (by decide) rfl ?_
  refine J_sub [2, 3, 1, 0] rfl ?_
  obtain ⟨n9, h⟩ := h
  exact wk_X9_volumeOf_4 F  n9 _ _ h
theorem dX9_zonesOf_0 : decode cX9_zonesOf 0 = .ok (.iconst 0, 1) := by decide +kernel
theorem dX9_zonesOf_1 : decode cX9_zonesOf 1 = .ok (.istore_n 2, 1) := by decide +kernel
theorem dX9_zonesOf_2 : decode cX9_zonesOf 2 = .ok (.iconst 0, 1) := by decide +kernel
theorem dX9_zonesOf_3 : decode cX9_zonesOf 3 = .ok (.istore_n 3, 1) := by decide +kernel
theorem dX9_zonesOf_4 : decode cX9_zonesOf 4 = .ok (.iload_n 3, 1) := by decide +kernel
theorem dX9_zonesOf_5 : decode cX9_zonesOf 5 = .ok (.aload_n 0, 1) := by decide +kernel
theorem dX9_zonesOf_6 : decode cX9_zonesOf 6 = .ok (.getfield 113, 3) := by decide +kernel
theorem dX9_zonesOf_9 : decode cX9_zonesOf 9 = .ok (.if_icmp .ge 27, 3) := by decide +kernel
theorem dX9_zonesOf_12 : decode cX9_zonesOf 12 = .ok (.iload_n 2, 1) := by decide +kernel
theorem dX9_zonesOf_13 : decode cX9_zonesOf 13 = .ok (.aload_n 0, 1) := by decide +kernel
theorem dX9_zonesOf_14 : decode cX9_zonesOf 14 = .ok (.getfield 33, 3) := by decide +kernel
theorem dX9_zonesOf_17 : decode cX9_zonesOf 17 = .ok (.iload_n 3, 1) := by decide +kernel
theorem dX9_zonesOf_18 : decode cX9_zonesOf 18 = .ok (.iaload, 1) := by decide +kernel
theorem dX9_zonesOf_19 : decode cX9_zonesOf 19 = .ok (.iload_n 1, 1) := by decide +kernel
theorem dX9_zonesOf_20 : decode cX9_zonesOf 20 = .ok (.if_icmp .ne 7, 3) := by decide +kernel
theorem dX9_zonesOf_23 : decode cX9_zonesOf 23 = .ok (.iconst 1, 1) := by decide +kernel
theorem dX9_zonesOf_24 : decode cX9_zonesOf 24 = .ok (.goto 4, 3) := by decide +kernel
theorem dX9_zonesOf_27 : decode cX9_zonesOf 27 = .ok (.iconst 0, 1) := by decide +kernel
theorem dX9_zonesOf_28 : decode cX9_zonesOf 28 = .ok (.iadd, 1) := by decide +kernel
theorem dX9_zonesOf_29 : decode cX9_zonesOf 29 = .ok (.istore_n 2, 1) := by decide +kernel
theorem dX9_zonesOf_30 : decode cX9_zonesOf 30 = .ok (.iinc 3 1, 3) := by decide +kernel
theorem dX9_zonesOf_33 : decode cX9_zonesOf 33 = .ok (.goto (-29), 3) := by decide +kernel
theorem dX9_zonesOf_36 : decode cX9_zonesOf 36 = .ok (.iload_n 2, 1) := by decide +kernel
theorem dX9_zonesOf_37 : decode cX9_zonesOf 37 = .ok (.ireturn, 1) := by decide +kernel
set_option maxRecDepth 20000 in
set_option maxHeartbeats 4000000 in
theorem wk_X9_zonesOf_4 {p : Program} {l : Launch} {e : Env} {s : State} {m : MethodId} {args : Array Value} {below : List Frame} {meth : Method} {c : Code} {G : Gp} {σ : St} {x1 : Int32}  {Q : Int32 → Prop} (F : FX p s m args meth c cX9_zonesOf 4 (some .int) RX9 G)   : ∀ (n9 : Nat) (x2 : Int32) (x3 : Int32), LP2 (wp_X9_zonesOf_4 σ x1 Q) n9 x2 x3 → J p l e (rmF 0 0) s m args below meth c 4 G (MQ below (QQ G (qI (fun r σ' => σ' = σ ∧ Q r))) args s 0 0 (fr G)) 0 0 4 [(0, .ref (gb G + 244)), (1, .int x1), (2, .int x2), (3, .int x3)] [] σ := by
  intro n9
  induction n9 with
  | zero => intro x2 x3 h; exact h.elim
  | succ n9 i4 =>
    intro x2 x3 h
    have h : wp_X9_zonesOf_4 σ x1 Q (LP2 (wp_X9_zonesOf_4 σ x1 Q) n9) x2 x3 := h
    unfold wp_X9_zonesOf_4 at h
    refine J_iln F 3 dX9_zonesOf_4 rfl rfl ?_
    refine J_aln F 0 dX9_zonesOf_5 rfl rfl ?_
    refine J_gfi F (ci := 9) 23 rfl inX9 ly_244 (by decide) (by decide) rfl lf_X9_113 rfl dX9_zonesOf_6 ?_
    refine J_cge F (tgt := 36) dX9_zonesOf_9 (by decide) (fun c_1 => ?_) (fun c_1 => ?_)
    · have h := h.1 c_1
      refine J_iln F 2 dX9_zonesOf_36 rfl rfl ?_
      exact J_reti F ⟨_, rfl, rfl, h⟩ dX9_zonesOf_37
    · have h := h.2 c_1
      refine J_iln F 2 dX9_zonesOf_12 rfl rfl ?_
      refine J_aln F 0 dX9_zonesOf_13 rfl rfl ?_
      refine J_gfa F (ci := 9) 18 rfl inX9 ly_244 (by decide) (by decide) rfl lf_X9_33 rfl dX9_zonesOf_14 ?_
      refine J_iln F 3 dX9_zonesOf_17 rfl rfl ?_
      obtain ⟨h_2, h⟩ := h
      refine J_iald F ly_251 h_2 dX9_zonesOf_18 ?_
      refine J_iln F 1 dX9_zonesOf_19 rfl rfl ?_
      refine J_cne F (tgt := 27) dX9_zonesOf_20 (by decide) (fun c_3 => ?_) (fun c_3 => ?_)
      · have h := h.1 c_3
        refine J_ic F dX9_zonesOf_27 ki_0 ?_
        refine J_iadd F dX9_zonesOf_28 ?_
        refine J_top (fun x2_4 ex2_4 => ?_)
        have h := h x2_4 ex2_4
        refine J_isn F (L' := [(2, .int x2_4), (0, .ref (gb G + 244)), (1, .int x1), (3, .int x3)]) dX9_zonesOf_29 rfl (by decide) rfl ?_
        obtain ⟨x3_5, ex3_5⟩ : ∃ z : Int32, z = x3 + (nI 1) := ⟨_, rfl⟩
        have h := h x3_5 ex3_5
        refine J_iinc F (v := x3_5) (L' := [(3, .int x3_5), (2, .int x2_4), (0, .ref (gb G + 244)), (1, .int x1)]) 3 dX9_zonesOf_30 rfl (by rw [ki_1, ex3_5]) (by decide) rfl ?_
        refine J_goto F (tgt := 4) dX9_zonesOf_33 (by decide) ?_
        refine J_sub [2, 3, 1, 0] rfl ?_
        exact i4 _ _ h
      · have h := h.2 c_3
        refine J_ic F dX9_zonesOf_23 ki_1 ?_
        refine J_goto F (tgt := 28) dX9_zonesOf_24 (by decide) ?_
        refine J_iadd F dX9_zonesOf_28 ?_
        refine J_top (fun x2_6 ex2_6 => ?_)
        have h := h x2_6 ex2_6
        refine J_isn F (L' := [(2, .int x2_6), (0, .ref (gb G + 244)), (1, .int x1), (3, .int x3)]) dX9_zonesOf_29 rfl (by decide) rfl ?_
        obtain ⟨x3_7, ex3_7⟩ : ∃ z : Int32, z = x3 + (nI 1) := ⟨_, rfl⟩
        have h := h x3_7 ex3_7
        refine J_iinc F (v := x3_7) (L' := [(3, .int x3_7), (2, .int x2_6), (0, .ref (gb G + 244)), (1, .int x1)]) 3 dX9_zonesOf_30 rfl (by rw [ki_1, ex3_7]) (by decide) rfl ?_
        refine J_goto F (tgt := 4) dX9_zonesOf_33 (by decide) ?_
        refine J_sub [2, 3, 1, 0] rfl ?_
        exact i4 _ _ h
set_option maxRecDepth 20000 in
set_option maxHeartbeats 4000000 in
theorem C_X9_zonesOf (l : Launch) (G : Gp) (x1 : Int32)  {σ : St} {Q : Int32 → Prop} (h : wp_X9_zonesOf σ x1 Q) : Cn l yX9_zonesOf cX9_zonesOf 4 (some .int) 0 0 G [.ref (gb G + 244), .int x1] σ (qI (fun r σ' => σ' = σ ∧ Q r)) := by
  refine Cn_of (L := [(0, .ref (gb G + 244)), (1, .int x1)]) RX9 (by decide) rfl (Nat.le_of_ble_eq_true rfl) rfl ?_
  intro p e s m below meth c F
  unfold wp_X9_zonesOf at h
  refine J_ic F dX9_zonesOf_0 ki_0 ?_
  refine J_isn F (L' := [(2, .int (nI 0)), (0, .ref (gb G + 244)), (1, .int x1)]) dX9_zonesOf_1 rfl (by decide) rfl ?_
  refine J_ic F dX9_zonesOf_2 ki_0 ?_
  refine J_isn F (L' := [(3, .int (nI 0)), (2, .int (nI 0)), (0, .ref (gb G + 244)), (1, .int x1)]) dX9_zonesOf_3 rfl (by decide) rfl ?_
  refine J_sub [2, 3, 1, 0] rfl ?_
  obtain ⟨n9, h⟩ := h
  exact wk_X9_zonesOf_4 F  n9 _ _ h
theorem dX9_placeInList_0 : decode cX9_placeInList 0 = .ok (.iconst 0, 1) := by decide +kernel
theorem dX9_placeInList_1 : decode cX9_placeInList 1 = .ok (.istore_n 2, 1) := by decide +kernel
theorem dX9_placeInList_2 : decode cX9_placeInList 2 = .ok (.iload_n 2, 1) := by decide +kernel
theorem dX9_placeInList_3 : decode cX9_placeInList 3 = .ok (.aload_n 0, 1) := by decide +kernel
theorem dX9_placeInList_4 : decode cX9_placeInList 4 = .ok (.getfield 113, 3) := by decide +kernel
theorem dX9_placeInList_7 : decode cX9_placeInList 7 = .ok (.if_icmp .ge 21, 3) := by decide +kernel
theorem dX9_placeInList_10 : decode cX9_placeInList 10 = .ok (.aload_n 0, 1) := by decide +kernel
theorem dX9_placeInList_11 : decode cX9_placeInList 11 = .ok (.getfield 30, 3) := by decide +kernel
theorem dX9_placeInList_14 : decode cX9_placeInList 14 = .ok (.iload_n 2, 1) := by decide +kernel
theorem dX9_placeInList_15 : decode cX9_placeInList 15 = .ok (.iaload, 1) := by decide +kernel
theorem dX9_placeInList_16 : decode cX9_placeInList 16 = .ok (.iload_n 1, 1) := by decide +kernel
theorem dX9_placeInList_17 : decode cX9_placeInList 17 = .ok (.if_icmp .ne 5, 3) := by decide +kernel
theorem dX9_placeInList_20 : decode cX9_placeInList 20 = .ok (.iload_n 2, 1) := by decide +kernel
theorem dX9_placeInList_21 : decode cX9_placeInList 21 = .ok (.ireturn, 1) := by decide +kernel
theorem dX9_placeInList_22 : decode cX9_placeInList 22 = .ok (.iinc 2 1, 3) := by decide +kernel
theorem dX9_placeInList_25 : decode cX9_placeInList 25 = .ok (.goto (-23), 3) := by decide +kernel
theorem dX9_placeInList_28 : decode cX9_placeInList 28 = .ok (.iconst (-1), 1) := by decide +kernel
theorem dX9_placeInList_29 : decode cX9_placeInList 29 = .ok (.ireturn, 1) := by decide +kernel
set_option maxRecDepth 20000 in
set_option maxHeartbeats 4000000 in
theorem wk_X9_placeInList_2 {p : Program} {l : Launch} {e : Env} {s : State} {m : MethodId} {args : Array Value} {below : List Frame} {meth : Method} {c : Code} {G : Gp} {σ : St} {x1 : Int32}  {Q : Int32 → Prop} (F : FX p s m args meth c cX9_placeInList 3 (some .int) RX9 G)   : ∀ (n9 : Nat) (x2 : Int32), LP1 (wp_X9_placeInList_2 σ x1 Q) n9 x2 → J p l e (rmF 0 0) s m args below meth c 3 G (MQ below (QQ G (qI (fun r σ' => σ' = σ ∧ Q r))) args s 0 0 (fr G)) 0 0 2 [(0, .ref (gb G + 244)), (1, .int x1), (2, .int x2)] [] σ := by
  intro n9
  induction n9 with
  | zero => intro x2 h; exact h.elim
  | succ n9 i2 =>
    intro x2 h
    have h : wp_X9_placeInList_2 σ x1 Q (LP1 (wp_X9_placeInList_2 σ x1 Q) n9) x2 := h
    unfold wp_X9_placeInList_2 at h
    refine J_iln F 2 dX9_placeInList_2 rfl rfl ?_
    refine J_aln F 0 dX9_placeInList_3 rfl rfl ?_
    refine J_gfi F (ci := 9) 23 rfl inX9 ly_244 (by decide) (by decide) rfl lf_X9_113 rfl dX9_placeInList_4 ?_
    refine J_cge F (tgt := 28) dX9_placeInList_7 (by decide) (fun c_1 => ?_) (fun c_1 => ?_)
    · have h := h.1 c_1
      refine J_ic F dX9_placeInList_28 ki_m1 ?_
      exact J_reti F ⟨_, rfl, rfl, h⟩ dX9_placeInList_29
    · have h := h.2 c_1
      refine J_aln F 0 dX9_placeInList_10 rfl rfl ?_
      refine J_gfa F (ci := 9) 17 rfl inX9 ly_244 (by decide) (by decide) rfl lf_X9_30 rfl dX9_placeInList_11 ?_
      refine J_iln F 2 dX9_placeInList_14 rfl rfl ?_
      obtain ⟨h_2, h⟩ := h
      refine J_iald F ly_250 h_2 dX9_placeInList_15 ?_
      refine J_iln F 1 dX9_placeInList_16 rfl rfl ?_
      refine J_cne F (tgt := 22) dX9_placeInList_17 (by decide) (fun c_3 => ?_) (fun c_3 => ?_)
      · have h := h.1 c_3
        obtain ⟨x2_4, ex2_4⟩ : ∃ z : Int32, z = x2 + (nI 1) := ⟨_, rfl⟩
        have h := h x2_4 ex2_4
        refine J_iinc F (v := x2_4) (L' := [(2, .int x2_4), (0, .ref (gb G + 244)), (1, .int x1)]) 2 dX9_placeInList_22 rfl (by rw [ki_1, ex2_4]) (by decide) rfl ?_
        refine J_goto F (tgt := 2) dX9_placeInList_25 (by decide) ?_
        refine J_sub [1, 2, 0] rfl ?_
        exact i2 _ h
      · have h := h.2 c_3
        refine J_iln F 2 dX9_placeInList_20 rfl rfl ?_
        exact J_reti F ⟨_, rfl, rfl, h⟩ dX9_placeInList_21
set_option maxRecDepth 20000 in
set_option maxHeartbeats 4000000 in
theorem C_X9_placeInList (l : Launch) (G : Gp) (x1 : Int32)  {σ : St} {Q : Int32 → Prop} (h : wp_X9_placeInList σ x1 Q) : Cn l yX9_placeInList cX9_placeInList 3 (some .int) 0 0 G [.ref (gb G + 244), .int x1] σ (qI (fun r σ' => σ' = σ ∧ Q r)) := by
  refine Cn_of (L := [(0, .ref (gb G + 244)), (1, .int x1)]) RX9 (by decide) rfl (Nat.le_of_ble_eq_true rfl) rfl ?_
  intro p e s m below meth c F
  unfold wp_X9_placeInList at h
  refine J_ic F dX9_placeInList_0 ki_0 ?_
  refine J_isn F (L' := [(2, .int (nI 0)), (0, .ref (gb G + 244)), (1, .int x1)]) dX9_placeInList_1 rfl (by decide) rfl ?_
  refine J_sub [1, 2, 0] rfl ?_
  obtain ⟨n9, h⟩ := h
  exact wk_X9_placeInList_2 F  n9 _ h
theorem dX9_leastOf_0 : decode cX9_leastOf 0 = .ok (.iconst (-1), 1) := by decide +kernel
theorem dX9_leastOf_1 : decode cX9_leastOf 1 = .ok (.istore_n 2, 1) := by decide +kernel
theorem dX9_leastOf_2 : decode cX9_leastOf 2 = .ok (.iconst 0, 1) := by decide +kernel
theorem dX9_leastOf_3 : decode cX9_leastOf 3 = .ok (.istore_n 3, 1) := by decide +kernel
theorem dX9_leastOf_4 : decode cX9_leastOf 4 = .ok (.iload_n 3, 1) := by decide +kernel
theorem dX9_leastOf_5 : decode cX9_leastOf 5 = .ok (.bipush 10, 2) := by decide +kernel
theorem dX9_leastOf_7 : decode cX9_leastOf 7 = .ok (.if_icmp .ge 40, 3) := by decide +kernel
theorem dX9_leastOf_10 : decode cX9_leastOf 10 = .ok (.iload_n 1, 1) := by decide +kernel
theorem dX9_leastOf_11 : decode cX9_leastOf 11 = .ok (.iload_n 3, 1) := by decide +kernel
theorem dX9_leastOf_12 : decode cX9_leastOf 12 = .ok (.ishr, 1) := by decide +kernel
theorem dX9_leastOf_13 : decode cX9_leastOf 13 = .ok (.iconst 1, 1) := by decide +kernel
theorem dX9_leastOf_14 : decode cX9_leastOf 14 = .ok (.iand, 1) := by decide +kernel
theorem dX9_leastOf_15 : decode cX9_leastOf 15 = .ok (.ifCond .ne 6, 3) := by decide +kernel
theorem dX9_leastOf_18 : decode cX9_leastOf 18 = .ok (.goto 23, 3) := by decide +kernel
theorem dX9_leastOf_21 : decode cX9_leastOf 21 = .ok (.iload_n 2, 1) := by decide +kernel
theorem dX9_leastOf_22 : decode cX9_leastOf 22 = .ok (.iconst (-1), 1) := by decide +kernel
theorem dX9_leastOf_23 : decode cX9_leastOf 23 = .ok (.if_icmp .eq 16, 3) := by decide +kernel
theorem dX9_leastOf_26 : decode cX9_leastOf 26 = .ok (.aload_n 0, 1) := by decide +kernel
theorem dX9_leastOf_27 : decode cX9_leastOf 27 = .ok (.iload_n 3, 1) := by decide +kernel
theorem dX9_leastOf_28 : decode cX9_leastOf 28 = .ok (.invokevirtual 129, 3) := by decide +kernel
theorem dX9_leastOf_31 : decode cX9_leastOf 31 = .ok (.aload_n 0, 1) := by decide +kernel
theorem dX9_leastOf_32 : decode cX9_leastOf 32 = .ok (.iload_n 2, 1) := by decide +kernel
theorem dX9_leastOf_33 : decode cX9_leastOf 33 = .ok (.invokevirtual 129, 3) := by decide +kernel
theorem dX9_leastOf_36 : decode cX9_leastOf 36 = .ok (.if_icmp .ge 5, 3) := by decide +kernel
theorem dX9_leastOf_39 : decode cX9_leastOf 39 = .ok (.iload_n 3, 1) := by decide +kernel
theorem dX9_leastOf_40 : decode cX9_leastOf 40 = .ok (.istore_n 2, 1) := by decide +kernel
theorem dX9_leastOf_41 : decode cX9_leastOf 41 = .ok (.iinc 3 1, 3) := by decide +kernel
theorem dX9_leastOf_44 : decode cX9_leastOf 44 = .ok (.goto (-40), 3) := by decide +kernel
theorem dX9_leastOf_47 : decode cX9_leastOf 47 = .ok (.iload_n 2, 1) := by decide +kernel
theorem dX9_leastOf_48 : decode cX9_leastOf 48 = .ok (.ireturn, 1) := by decide +kernel
set_option maxRecDepth 20000 in
set_option maxHeartbeats 4000000 in
theorem wk_X9_leastOf_4 {p : Program} {l : Launch} {e : Env} {s : State} {m : MethodId} {args : Array Value} {below : List Frame} {meth : Method} {c : Code} {G : Gp} {σ : St} {x1 : Int32}  {Q : Int32 → Prop} (F : FX p s m args meth c cX9_leastOf 4 (some .int) RX9 G)   : ∀ (n9 : Nat) (x2 : Int32) (x3 : Int32), LP2 (wp_X9_leastOf_4 σ x1 Q) n9 x2 x3 → J p l e (rmF 1 23) s m args below meth c 4 G (MQ below (QQ G (qI (fun r σ' => σ' = σ ∧ Q r))) args s 0 0 (fr G)) 0 0 4 [(0, .ref (gb G + 244)), (1, .int x1), (2, .int x2), (3, .int x3)] [] σ := by
  intro n9
  induction n9 with
  | zero => intro x2 x3 h; exact h.elim
  | succ n9 i4 =>
    intro x2 x3 h
    have h : wp_X9_leastOf_4 σ x1 Q (LP2 (wp_X9_leastOf_4 σ x1 Q) n9) x2 x3 := h
    unfold wp_X9_leastOf_4 at h
    refine J_iln F 3 dX9_leastOf_4 rfl rfl ?_
    refine J_bi F dX9_leastOf_5 kb_10 ?_
    refine J_cge F (tgt := 47) dX9_leastOf_7 (by decide) (fun c_1 => ?_) (fun c_1 => ?_)
    · have h := h.1 c_1
      refine J_iln F 2 dX9_leastOf_47 rfl rfl ?_
      exact J_reti F ⟨_, rfl, rfl, h⟩ dX9_leastOf_48
    · have h := h.2 c_1
      refine J_iln F 1 dX9_leastOf_10 rfl rfl ?_
      refine J_iln F 3 dX9_leastOf_11 rfl rfl ?_
      refine J_ishr F dX9_leastOf_12 ?_
      refine J_ic F dX9_leastOf_13 ki_1 ?_
      refine J_iand F dX9_leastOf_14 ?_
      refine J_zne F (tgt := 21) dX9_leastOf_15 (by decide) (fun c_2 => ?_) (fun c_2 => ?_)
      · have h := h.1 c_2
        refine J_iln F 2 dX9_leastOf_21 rfl rfl ?_
        refine J_ic F dX9_leastOf_22 ki_m1 ?_
        refine J_ceq F (tgt := 39) dX9_leastOf_23 (by decide) (fun c_3 => ?_) (fun c_3 => ?_)
        · have h := h.1 c_3
          refine J_iln F 3 dX9_leastOf_39 rfl rfl ?_
          refine J_isn F (L' := [(2, .int x3), (0, .ref (gb G + 244)), (1, .int x1), (3, .int x3)]) dX9_leastOf_40 rfl (by decide) rfl ?_
          obtain ⟨x3_4, ex3_4⟩ : ∃ z : Int32, z = x3 + (nI 1) := ⟨_, rfl⟩
          have h := h x3_4 ex3_4
          refine J_iinc F (v := x3_4) (L' := [(3, .int x3_4), (2, .int x3), (0, .ref (gb G + 244)), (1, .int x1)]) 3 dX9_leastOf_41 rfl (by rw [ki_1, ex3_4]) (by decide) rfl ?_
          refine J_goto F (tgt := 4) dX9_leastOf_44 (by decide) ?_
          refine J_sub [2, 3, 1, 0] rfl ?_
          exact i4 _ _ h
        · have h := h.2 c_3
          refine J_aln F 0 dX9_leastOf_26 rfl rfl ?_
          refine J_iln F 3 dX9_leastOf_27 rfl rfl ?_
          refine J_callVi F (As := [.int x3]) (st := []) (C_X9_volumeOf l G x3  h) (ci := 9) ly_244 (by decide) rfl rfl lm_X9_129 li_X9_volumeOf ls_X9_volumeOf ini_X9 lc_X9_volumeOf hd_X9_volumeOf (by decide) (Nat.le_of_ble_eq_true rfl) (by decide) rfl dX9_leastOf_28 (fun r_5 σ_6 hh => ?_)
          clear h
          obtain ⟨e9, h⟩ := hh
          subst σ_6
          refine J_aln F 0 dX9_leastOf_31 rfl rfl ?_
          refine J_iln F 2 dX9_leastOf_32 rfl rfl ?_
          refine J_callVi F (As := [.int x2]) (st := [.int r_5]) (C_X9_volumeOf l G x2  h) (ci := 9) ly_244 (by decide) rfl rfl lm_X9_129 li_X9_volumeOf ls_X9_volumeOf ini_X9 lc_X9_volumeOf hd_X9_volumeOf (by decide) (Nat.le_of_ble_eq_true rfl) (by decide) rfl dX9_leastOf_33 (fun r_7 σ_8 hh => ?_)
          clear h
          obtain ⟨e9, h⟩ := hh
          subst σ_8
          refine J_cge F (tgt := 41) dX9_leastOf_36 (by decide) (fun c_9 => ?_) (fun c_9 => ?_)
          · have h := h.1 c_9
            obtain ⟨x3_10, ex3_10⟩ : ∃ z : Int32, z = x3 + (nI 1) := ⟨_, rfl⟩
            have h := h x3_10 ex3_10
            refine J_iinc F (v := x3_10) (L' := [(3, .int x3_10), (0, .ref (gb G + 244)), (1, .int x1), (2, .int x2)]) 3 dX9_leastOf_41 rfl (by rw [ki_1, ex3_10]) (by decide) rfl ?_
            refine J_goto F (tgt := 4) dX9_leastOf_44 (by decide) ?_
            refine J_sub [1, 2, 3, 0] rfl ?_
            exact i4 _ _ h
          · have h := h.2 c_9
            refine J_iln F 3 dX9_leastOf_39 rfl rfl ?_
            refine J_isn F (L' := [(2, .int x3), (0, .ref (gb G + 244)), (1, .int x1), (3, .int x3)]) dX9_leastOf_40 rfl (by decide) rfl ?_
            obtain ⟨x3_11, ex3_11⟩ : ∃ z : Int32, z = x3 + (nI 1) := ⟨_, rfl⟩
            have h := h x3_11 ex3_11
            refine J_iinc F (v := x3_11) (L' := [(3, .int x3_11), (2, .int x3), (0, .ref (gb G + 244)), (1, .int x1)]) 3 dX9_leastOf_41 rfl (by rw [ki_1, ex3_11]) (by decide) rfl ?_
            refine J_goto F (tgt := 4) dX9_leastOf_44 (by decide) ?_
            refine J_sub [2, 3, 1, 0] rfl ?_
            exact i4 _ _ h
      · have h := h.2 c_2
        refine J_goto F (tgt := 41) dX9_leastOf_18 (by decide) ?_
        obtain ⟨x3_12, ex3_12⟩ : ∃ z : Int32, z = x3 + (nI 1) := ⟨_, rfl⟩
        have h := h x3_12 ex3_12
        refine J_iinc F (v := x3_12) (L' := [(3, .int x3_12), (0, .ref (gb G + 244)), (1, .int x1), (2, .int x2)]) 3 dX9_leastOf_41 rfl (by rw [ki_1, ex3_12]) (by decide) rfl ?_
        refine J_goto F (tgt := 4) dX9_leastOf_44 (by decide) ?_
        refine J_sub [1, 2, 3, 0] rfl ?_
        exact i4 _ _ h
set_option maxRecDepth 20000 in
set_option maxHeartbeats 4000000 in
theorem C_X9_leastOf (l : Launch) (G : Gp) (x1 : Int32)  {σ : St} {Q : Int32 → Prop} (h : wp_X9_leastOf σ x1 Q) : Cn l yX9_leastOf cX9_leastOf 4 (some .int) 1 23 G [.ref (gb G + 244), .int x1] σ (qI (fun r σ' => σ' = σ ∧ Q r)) := by
  refine Cn_of (L := [(0, .ref (gb G + 244)), (1, .int x1)]) RX9 (by decide) rfl (Nat.le_of_ble_eq_true rfl) rfl ?_
  intro p e s m below meth c F
  unfold wp_X9_leastOf at h
  refine J_ic F dX9_leastOf_0 ki_m1 ?_
  refine J_isn F (L' := [(2, .int (-1)), (0, .ref (gb G + 244)), (1, .int x1)]) dX9_leastOf_1 rfl (by decide) rfl ?_
  refine J_ic F dX9_leastOf_2 ki_0 ?_
  refine J_isn F (L' := [(3, .int (nI 0)), (2, .int (-1)), (0, .ref (gb G + 244)), (1, .int x1)]) dX9_leastOf_3 rfl (by decide) rfl ?_
  refine J_sub [2, 3, 1, 0] rfl ?_
  obtain ⟨n9, h⟩ := h
  exact wk_X9_leastOf_4 F  n9 _ _ h
theorem dX9_heirOf_0 : decode cX9_heirOf 0 = .ok (.aload_n 0, 1) := by decide +kernel
theorem dX9_heirOf_1 : decode cX9_heirOf 1 = .ok (.iload_n 1, 1) := by decide +kernel
theorem dX9_heirOf_2 : decode cX9_heirOf 2 = .ok (.invokevirtual 132, 3) := by decide +kernel
theorem dX9_heirOf_5 : decode cX9_heirOf 5 = .ok (.aload_n 0, 1) := by decide +kernel
theorem dX9_heirOf_6 : decode cX9_heirOf 6 = .ok (.iconst 1, 1) := by decide +kernel
theorem dX9_heirOf_7 : decode cX9_heirOf 7 = .ok (.invokevirtual 135, 3) := by decide +kernel
theorem dX9_heirOf_10 : decode cX9_heirOf 10 = .ok (.iconst 1, 1) := by decide +kernel
theorem dX9_heirOf_11 : decode cX9_heirOf 11 = .ok (.iload_n 3, 1) := by decide +kernel
theorem dX9_heirOf_12 : decode cX9_heirOf 12 = .ok (.ishl, 1) := by decide +kernel
theorem dX9_heirOf_13 : decode cX9_heirOf 13 = .ok (.iconst (-1), 1) := by decide +kernel
theorem dX9_heirOf_14 : decode cX9_heirOf 14 = .ok (.ixor, 1) := by decide +kernel
theorem dX9_heirOf_15 : decode cX9_heirOf 15 = .ok (.iand, 1) := by decide +kernel
theorem dX9_heirOf_16 : decode cX9_heirOf 16 = .ok (.istore 4, 2) := by decide +kernel
theorem dX9_heirOf_18 : decode cX9_heirOf 18 = .ok (.iload_n 2, 1) := by decide +kernel
theorem dX9_heirOf_19 : decode cX9_heirOf 19 = .ok (.iconst 1, 1) := by decide +kernel
theorem dX9_heirOf_20 : decode cX9_heirOf 20 = .ok (.if_icmp .le 14, 3) := by decide +kernel
theorem dX9_heirOf_23 : decode cX9_heirOf 23 = .ok (.aload_n 0, 1) := by decide +kernel
theorem dX9_heirOf_24 : decode cX9_heirOf 24 = .ok (.iload_n 1, 1) := by decide +kernel
theorem dX9_heirOf_25 : decode cX9_heirOf 25 = .ok (.iload_n 2, 1) := by decide +kernel
theorem dX9_heirOf_26 : decode cX9_heirOf 26 = .ok (.iconst 1, 1) := by decide +kernel
theorem dX9_heirOf_27 : decode cX9_heirOf 27 = .ok (.ixor, 1) := by decide +kernel
theorem dX9_heirOf_28 : decode cX9_heirOf 28 = .ok (.invokevirtual 95, 3) := by decide +kernel
theorem dX9_heirOf_31 : decode cX9_heirOf 31 = .ok (.goto 4, 3) := by decide +kernel
theorem dX9_heirOf_34 : decode cX9_heirOf 34 = .ok (.iconst (-1), 1) := by decide +kernel
theorem dX9_heirOf_35 : decode cX9_heirOf 35 = .ok (.istore 5, 2) := by decide +kernel
theorem dX9_heirOf_37 : decode cX9_heirOf 37 = .ok (.iload 5, 2) := by decide +kernel
theorem dX9_heirOf_39 : decode cX9_heirOf 39 = .ok (.iconst (-1), 1) := by decide +kernel
theorem dX9_heirOf_40 : decode cX9_heirOf 40 = .ok (.if_icmp .eq 17, 3) := by decide +kernel
theorem dX9_heirOf_43 : decode cX9_heirOf 43 = .ok (.iload 4, 2) := by decide +kernel
theorem dX9_heirOf_45 : decode cX9_heirOf 45 = .ok (.iload 5, 2) := by decide +kernel
theorem dX9_heirOf_47 : decode cX9_heirOf 47 = .ok (.ishr, 1) := by decide +kernel
theorem dX9_heirOf_48 : decode cX9_heirOf 48 = .ok (.iconst 1, 1) := by decide +kernel
theorem dX9_heirOf_49 : decode cX9_heirOf 49 = .ok (.iand, 1) := by decide +kernel
theorem dX9_heirOf_50 : decode cX9_heirOf 50 = .ok (.iconst 1, 1) := by decide +kernel
theorem dX9_heirOf_51 : decode cX9_heirOf 51 = .ok (.if_icmp .ne 6, 3) := by decide +kernel
theorem dX9_heirOf_54 : decode cX9_heirOf 54 = .ok (.iload 5, 2) := by decide +kernel
theorem dX9_heirOf_56 : decode cX9_heirOf 56 = .ok (.ireturn, 1) := by decide +kernel
theorem dX9_heirOf_57 : decode cX9_heirOf 57 = .ok (.aload_n 0, 1) := by decide +kernel
theorem dX9_heirOf_58 : decode cX9_heirOf 58 = .ok (.aload_n 0, 1) := by decide +kernel
theorem dX9_heirOf_59 : decode cX9_heirOf 59 = .ok (.aload_n 0, 1) := by decide +kernel
theorem dX9_heirOf_60 : decode cX9_heirOf 60 = .ok (.iload_n 2, 1) := by decide +kernel
theorem dX9_heirOf_61 : decode cX9_heirOf 61 = .ok (.invokevirtual 138, 3) := by decide +kernel
theorem dX9_heirOf_64 : decode cX9_heirOf 64 = .ok (.invokevirtual 126, 3) := by decide +kernel
theorem dX9_heirOf_67 : decode cX9_heirOf 67 = .ok (.iload 4, 2) := by decide +kernel
theorem dX9_heirOf_69 : decode cX9_heirOf 69 = .ok (.iand, 1) := by decide +kernel
theorem dX9_heirOf_70 : decode cX9_heirOf 70 = .ok (.invokevirtual 141, 3) := by decide +kernel
theorem dX9_heirOf_73 : decode cX9_heirOf 73 = .ok (.istore 6, 2) := by decide +kernel
theorem dX9_heirOf_75 : decode cX9_heirOf 75 = .ok (.iload 6, 2) := by decide +kernel
theorem dX9_heirOf_77 : decode cX9_heirOf 77 = .ok (.iconst (-1), 1) := by decide +kernel
theorem dX9_heirOf_78 : decode cX9_heirOf 78 = .ok (.if_icmp .eq 8, 3) := by decide +kernel
theorem dX9_heirOf_81 : decode cX9_heirOf 81 = .ok (.iload 6, 2) := by decide +kernel
theorem dX9_heirOf_83 : decode cX9_heirOf 83 = .ok (.goto 9, 3) := by decide +kernel
theorem dX9_heirOf_86 : decode cX9_heirOf 86 = .ok (.aload_n 0, 1) := by decide +kernel
theorem dX9_heirOf_87 : decode cX9_heirOf 87 = .ok (.iload 4, 2) := by decide +kernel
theorem dX9_heirOf_89 : decode cX9_heirOf 89 = .ok (.invokevirtual 141, 3) := by decide +kernel
theorem dX9_heirOf_92 : decode cX9_heirOf 92 = .ok (.ireturn, 1) := by decide +kernel
set_option maxRecDepth 20000 in
set_option maxHeartbeats 4000000 in
theorem wk_X9_heirOf_57 {p : Program} {l : Launch} {e : Env} {s : State} {m : MethodId} {args : Array Value} {below : List Frame} {meth : Method} {c : Code} {G : Gp} {σ : St} {x2 : Int32} {x4 : Int32}  {Q : Int32 → St → Prop} (F : FX p s m args meth c cX9_heirOf 7 (some .int) RX9 G)   (h : wp_X9_heirOf_57 σ x2 x4 Q) : J p l e (rmF 3 70) s m args below meth c 7 G (MQ below (QQ G (qI Q)) args s 0 0 (fr G)) 0 0 57 [(0, .ref (gb G + 244)), (2, .int x2), (4, .int x4)] [] σ := by
  unfold wp_X9_heirOf_57 at h
  refine J_aln F 0 dX9_heirOf_57 rfl rfl ?_
  refine J_aln F 0 dX9_heirOf_58 rfl rfl ?_
  refine J_aln F 0 dX9_heirOf_59 rfl rfl ?_
  refine J_iln F 1 dX9_heirOf_60 rfl rfl ?_
  refine J_callVi F (As := [.int x2]) (st := [.ref (gb G + 244), .ref (gb G + 244)]) (C_X9_placeInList l G x2  h) (ci := 9) ly_244 (by decide) rfl rfl lm_X9_138 li_X9_placeInList ls_X9_placeInList ini_X9 lc_X9_placeInList hd_X9_placeInList (by decide) (Nat.le_of_ble_eq_true rfl) (by decide) rfl dX9_heirOf_61 (fun r_1 σ_2 hh => ?_)
  clear h
  obtain ⟨e9, h⟩ := hh
  subst σ_2
  refine J_callVi F (As := [.int r_1]) (st := [.ref (gb G + 244)]) (C_X9_besideZone l G r_1  h) (ci := 9) ly_244 (by decide) rfl rfl lm_X9_126 li_X9_besideZone ls_X9_besideZone ini_X9 lc_X9_besideZone hd_X9_besideZone (by decide) (Nat.le_of_ble_eq_true rfl) (by decide) rfl dX9_heirOf_64 (fun r_3 σ_4 hh => ?_)
  clear h
  obtain ⟨e9, h⟩ := hh
  subst σ_4
  refine J_il F 2 dX9_heirOf_67 rfl ?_
  refine J_iand F dX9_heirOf_69 ?_
  refine J_callVi F (As := [.int (r_3 &&& x4)]) (st := []) (C_X9_leastOf l G (r_3 &&& x4)  h) (ci := 9) ly_244 (by decide) rfl rfl lm_X9_141 li_X9_leastOf ls_X9_leastOf ini_X9 lc_X9_leastOf hd_X9_leastOf (by decide) (Nat.le_of_ble_eq_true rfl) (by decide) rfl dX9_heirOf_70 (fun r_5 σ_6 hh => ?_)
  clear h
  obtain ⟨e9, h⟩ := hh
  subst σ_6
  refine J_is F (L' := [(6, .int r_5), (0, .ref (gb G + 244)), (2, .int x2), (4, .int x4)]) dX9_heirOf_73 (by decide) rfl ?_
  refine J_il F 0 dX9_heirOf_75 rfl ?_
  refine J_ic F dX9_heirOf_77 ki_m1 ?_
  refine J_ceq F (tgt := 86) dX9_heirOf_78 (by decide) (fun c_7 => ?_) (fun c_7 => ?_)
  · have h := h.1 c_7
    refine J_aln F 1 dX9_heirOf_86 rfl rfl ?_
    refine J_il F 3 dX9_heirOf_87 rfl ?_
    refine J_callVi F (As := [.int x4]) (st := []) (C_X9_leastOf l G x4  h) (ci := 9) ly_244 (by decide) rfl rfl lm_X9_141 li_X9_leastOf ls_X9_leastOf ini_X9 lc_X9_leastOf hd_X9_leastOf (by decide) (Nat.le_of_ble_eq_true rfl) (by decide) rfl dX9_heirOf_89 (fun r_8 σ_9 hh => ?_)
    clear h
    obtain ⟨e9, h⟩ := hh
    subst σ_9
    exact J_reti F ⟨_, rfl, h⟩ dX9_heirOf_92
  · have h := h.2 c_7
    refine J_il F 0 dX9_heirOf_81 rfl ?_
    refine J_goto F (tgt := 92) dX9_heirOf_83 (by decide) ?_
    exact J_reti F ⟨_, rfl, h⟩ dX9_heirOf_92
set_option maxRecDepth 20000 in
set_option maxHeartbeats 4000000 in
theorem wk_X9_heirOf_35 {p : Program} {l : Launch} {e : Env} {s : State} {m : MethodId} {args : Array Value} {below : List Frame} {meth : Method} {c : Code} {G : Gp} {σ : St} {x2 : Int32} {x4 : Int32} {t0 : Int32}  {Q : Int32 → St → Prop} (F : FX p s m args meth c cX9_heirOf 7 (some .int) RX9 G)   (h : wp_X9_heirOf_35 σ x2 x4 t0 Q) : J p l e (rmF 3 70) s m args below meth c 7 G (MQ below (QQ G (qI Q)) args s 0 0 (fr G)) 0 0 35 [(0, .ref (gb G + 244)), (2, .int x2), (4, .int x4)] [.int t0] σ := by
  unfold wp_X9_heirOf_35 at h
  refine J_is F (L' := [(5, .int t0), (0, .ref (gb G + 244)), (2, .int x2), (4, .int x4)]) dX9_heirOf_35 (by decide) rfl ?_
  refine J_il F 0 dX9_heirOf_37 rfl ?_
  refine J_ic F dX9_heirOf_39 ki_m1 ?_
  refine J_ceq F (tgt := 57) dX9_heirOf_40 (by decide) (fun c_10 => ?_) (fun c_10 => ?_)
  · have h := h.1 c_10
    refine J_sub [1, 2, 3] rfl ?_
    exact wk_X9_heirOf_57 F  h
  · have h := h.2 c_10
    refine J_il F 3 dX9_heirOf_43 rfl ?_
    refine J_il F 0 dX9_heirOf_45 rfl ?_
    refine J_ishr F dX9_heirOf_47 ?_
    refine J_ic F dX9_heirOf_48 ki_1 ?_
    refine J_iand F dX9_heirOf_49 ?_
    refine J_ic F dX9_heirOf_50 ki_1 ?_
    refine J_cne F (tgt := 57) dX9_heirOf_51 (by decide) (fun c_11 => ?_) (fun c_11 => ?_)
    · have h := h.1 c_11
      refine J_sub [1, 2, 3] rfl ?_
      exact wk_X9_heirOf_57 F  h
    · have h := h.2 c_11
      refine J_il F 0 dX9_heirOf_54 rfl ?_
      exact J_reti F ⟨_, rfl, h⟩ dX9_heirOf_56
set_option maxRecDepth 20000 in
set_option maxHeartbeats 4000000 in
theorem C_X9_heirOf (l : Launch) (G : Gp) (x1 : Int32) (x2 : Int32) (x3 : Int32)  {σ : St} {Q : Int32 → St → Prop} (h : wp_X9_heirOf σ x1 x2 x3 Q) : Cn l yX9_heirOf cX9_heirOf 7 (some .int) 3 70 G [.ref (gb G + 244), .int x1, .int x2, .int x3] σ (qI Q) := by
  refine Cn_of (L := [(0, .ref (gb G + 244)), (1, .int x1), (2, .int x2), (3, .int x3)]) RX9 (by decide) rfl (Nat.le_of_ble_eq_true rfl) rfl ?_
  intro p e s m below meth c F
  unfold wp_X9_heirOf at h
  refine J_aln F 0 dX9_heirOf_0 rfl rfl ?_
  refine J_iln F 1 dX9_heirOf_1 rfl rfl ?_
  refine J_callVv F (As := [.int x1]) (st := []) (C_X9_laysList l G x1  h) (ci := 9) ly_244 (by decide) rfl rfl lm_X9_132 li_X9_laysList ls_X9_laysList ini_X9 lc_X9_laysList hd_X9_laysList (by decide) (Nat.le_of_ble_eq_true rfl) (by decide) rfl dX9_heirOf_2 (fun σ_12 h => ?_)
  refine J_aln F 0 dX9_heirOf_5 rfl rfl ?_
  refine J_ic F dX9_heirOf_6 ki_1 ?_
  refine J_callVi F (As := [.int (nI 1)]) (st := []) (C_X9_bitsOf l G (nI 1)  h) (ci := 9) ly_244 (by decide) rfl rfl lm_X9_135 li_X9_bitsOf ls_X9_bitsOf ini_X9 lc_X9_bitsOf hd_X9_bitsOf (by decide) (Nat.le_of_ble_eq_true rfl) (by decide) rfl dX9_heirOf_7 (fun r_13 σ_14 hh => ?_)
  clear h
  obtain ⟨e9, h⟩ := hh
  subst σ_14
  refine J_ic F dX9_heirOf_10 ki_1 ?_
  refine J_iln F 3 dX9_heirOf_11 rfl rfl ?_
  refine J_ishl F dX9_heirOf_12 ?_
  refine J_ic F dX9_heirOf_13 ki_m1 ?_
  refine J_ixor F dX9_heirOf_14 ?_
  refine J_iand F dX9_heirOf_15 ?_
  refine J_top (fun x4_15 ex4_15 => ?_)
  have h := h x4_15 ex4_15
  refine J_is F (L' := [(4, .int x4_15), (0, .ref (gb G + 244)), (1, .int x1), (2, .int x2), (3, .int x3)]) dX9_heirOf_16 (by decide) rfl ?_
  refine J_iln F 3 dX9_heirOf_18 rfl rfl ?_
  refine J_ic F dX9_heirOf_19 ki_1 ?_
  refine J_cle F (tgt := 34) dX9_heirOf_20 (by decide) (fun c_16 => ?_) (fun c_16 => ?_)
  · have h := h.1 c_16
    refine J_ic F dX9_heirOf_34 ki_m1 ?_
    refine J_sub [1, 3, 0] rfl ?_
    exact wk_X9_heirOf_35 F  h
  · have h := h.2 c_16
    refine J_aln F 1 dX9_heirOf_23 rfl rfl ?_
    refine J_iln F 2 dX9_heirOf_24 rfl rfl ?_
    refine J_iln F 3 dX9_heirOf_25 rfl rfl ?_
    refine J_ic F dX9_heirOf_26 ki_1 ?_
    refine J_ixor F dX9_heirOf_27 ?_
    refine J_callVi F (As := [.int x1, .int (x2 ^^^ (nI 1))]) (st := []) (C_X9_ownerOf l G x1 (x2 ^^^ (nI 1))  h) (ci := 9) ly_244 (by decide) rfl rfl lm_X9_95 li_X9_ownerOf ls_X9_ownerOf ini_X9 lc_X9_ownerOf hd_X9_ownerOf (by decide) (Nat.le_of_ble_eq_true rfl) (by decide) rfl dX9_heirOf_28 (fun r_17 σ_18 hh => ?_)
    clear h
    obtain ⟨e9, h⟩ := hh
    subst σ_18
    refine J_goto F (tgt := 35) dX9_heirOf_31 (by decide) ?_
    refine J_sub [1, 3, 0] rfl ?_
    exact wk_X9_heirOf_35 F  h
theorem dX9_handsAll_0 : decode cX9_handsAll 0 = .ok (.iconst 0, 1) := by decide +kernel
theorem dX9_handsAll_1 : decode cX9_handsAll 1 = .ok (.istore_n 3, 1) := by decide +kernel
theorem dX9_handsAll_2 : decode cX9_handsAll 2 = .ok (.iconst 1, 1) := by decide +kernel
theorem dX9_handsAll_3 : decode cX9_handsAll 3 = .ok (.istore 4, 2) := by decide +kernel
theorem dX9_handsAll_5 : decode cX9_handsAll 5 = .ok (.iload 4, 2) := by decide +kernel
theorem dX9_handsAll_7 : decode cX9_handsAll 7 = .ok (.sipush 2048, 3) := by decide +kernel
theorem dX9_handsAll_10 : decode cX9_handsAll 10 = .ok (.if_icmp .ge 34, 3) := by decide +kernel
theorem dX9_handsAll_13 : decode cX9_handsAll 13 = .ok (.aload_n 0, 1) := by decide +kernel
theorem dX9_handsAll_14 : decode cX9_handsAll 14 = .ok (.iload_n 1, 1) := by decide +kernel
theorem dX9_handsAll_15 : decode cX9_handsAll 15 = .ok (.iload 4, 2) := by decide +kernel
theorem dX9_handsAll_17 : decode cX9_handsAll 17 = .ok (.invokevirtual 95, 3) := by decide +kernel
theorem dX9_handsAll_20 : decode cX9_handsAll 20 = .ok (.iload_n 2, 1) := by decide +kernel
theorem dX9_handsAll_21 : decode cX9_handsAll 21 = .ok (.if_icmp .eq 6, 3) := by decide +kernel
theorem dX9_handsAll_24 : decode cX9_handsAll 24 = .ok (.goto 14, 3) := by decide +kernel
theorem dX9_handsAll_27 : decode cX9_handsAll 27 = .ok (.aload_n 0, 1) := by decide +kernel
theorem dX9_handsAll_28 : decode cX9_handsAll 28 = .ok (.getfield 48, 3) := by decide +kernel
theorem dX9_handsAll_31 : decode cX9_handsAll 31 = .ok (.iload_n 3, 1) := by decide +kernel
theorem dX9_handsAll_32 : decode cX9_handsAll 32 = .ok (.iload 4, 2) := by decide +kernel
theorem dX9_handsAll_34 : decode cX9_handsAll 34 = .ok (.iastore, 1) := by decide +kernel
theorem dX9_handsAll_35 : decode cX9_handsAll 35 = .ok (.iinc 3 1, 3) := by decide +kernel
theorem dX9_handsAll_38 : decode cX9_handsAll 38 = .ok (.iinc 4 1, 3) := by decide +kernel
theorem dX9_handsAll_41 : decode cX9_handsAll 41 = .ok (.goto (-36), 3) := by decide +kernel
theorem dX9_handsAll_44 : decode cX9_handsAll 44 = .ok (.iconst 0, 1) := by decide +kernel
theorem dX9_handsAll_45 : decode cX9_handsAll 45 = .ok (.istore 4, 2) := by decide +kernel
theorem dX9_handsAll_47 : decode cX9_handsAll 47 = .ok (.iload 4, 2) := by decide +kernel
theorem dX9_handsAll_49 : decode cX9_handsAll 49 = .ok (.iload_n 3, 1) := by decide +kernel
theorem dX9_handsAll_50 : decode cX9_handsAll 50 = .ok (.if_icmp .ge 57, 3) := by decide +kernel
theorem dX9_handsAll_53 : decode cX9_handsAll 53 = .ok (.aload_n 0, 1) := by decide +kernel
theorem dX9_handsAll_54 : decode cX9_handsAll 54 = .ok (.iload_n 1, 1) := by decide +kernel
theorem dX9_handsAll_55 : decode cX9_handsAll 55 = .ok (.aload_n 0, 1) := by decide +kernel
theorem dX9_handsAll_56 : decode cX9_handsAll 56 = .ok (.getfield 48, 3) := by decide +kernel
theorem dX9_handsAll_59 : decode cX9_handsAll 59 = .ok (.iload 4, 2) := by decide +kernel
theorem dX9_handsAll_61 : decode cX9_handsAll 61 = .ok (.iaload, 1) := by decide +kernel
theorem dX9_handsAll_62 : decode cX9_handsAll 62 = .ok (.iload_n 2, 1) := by decide +kernel
theorem dX9_handsAll_63 : decode cX9_handsAll 63 = .ok (.invokevirtual 144, 3) := by decide +kernel
theorem dX9_handsAll_66 : decode cX9_handsAll 66 = .ok (.istore 5, 2) := by decide +kernel
theorem dX9_handsAll_68 : decode cX9_handsAll 68 = .ok (.aload_n 0, 1) := by decide +kernel
theorem dX9_handsAll_69 : decode cX9_handsAll 69 = .ok (.iload_n 1, 1) := by decide +kernel
theorem dX9_handsAll_70 : decode cX9_handsAll 70 = .ok (.aload_n 0, 1) := by decide +kernel
theorem dX9_handsAll_71 : decode cX9_handsAll 71 = .ok (.getfield 48, 3) := by decide +kernel
theorem dX9_handsAll_74 : decode cX9_handsAll 74 = .ok (.iload 4, 2) := by decide +kernel
theorem dX9_handsAll_76 : decode cX9_handsAll 76 = .ok (.iaload, 1) := by decide +kernel
theorem dX9_handsAll_77 : decode cX9_handsAll 77 = .ok (.iconst (-1), 1) := by decide +kernel
theorem dX9_handsAll_78 : decode cX9_handsAll 78 = .ok (.invokevirtual 105, 3) := by decide +kernel
theorem dX9_handsAll_81 : decode cX9_handsAll 81 = .ok (.iload 5, 2) := by decide +kernel
theorem dX9_handsAll_83 : decode cX9_handsAll 83 = .ok (.iconst (-1), 1) := by decide +kernel
theorem dX9_handsAll_84 : decode cX9_handsAll 84 = .ok (.if_icmp .eq 17, 3) := by decide +kernel
theorem dX9_handsAll_87 : decode cX9_handsAll 87 = .ok (.aload_n 0, 1) := by decide +kernel
theorem dX9_handsAll_88 : decode cX9_handsAll 88 = .ok (.iload_n 1, 1) := by decide +kernel
theorem dX9_handsAll_89 : decode cX9_handsAll 89 = .ok (.aload_n 0, 1) := by decide +kernel
theorem dX9_handsAll_90 : decode cX9_handsAll 90 = .ok (.getfield 48, 3) := by decide +kernel
theorem dX9_handsAll_93 : decode cX9_handsAll 93 = .ok (.iload 4, 2) := by decide +kernel
theorem dX9_handsAll_95 : decode cX9_handsAll 95 = .ok (.iaload, 1) := by decide +kernel
theorem dX9_handsAll_96 : decode cX9_handsAll 96 = .ok (.iload 5, 2) := by decide +kernel
theorem dX9_handsAll_98 : decode cX9_handsAll 98 = .ok (.invokevirtual 147, 3) := by decide +kernel
theorem dX9_handsAll_101 : decode cX9_handsAll 101 = .ok (.iinc 4 1, 3) := by decide +kernel
theorem dX9_handsAll_104 : decode cX9_handsAll 104 = .ok (.goto (-57), 3) := by decide +kernel
theorem dX9_handsAll_107 : decode cX9_handsAll 107 = .ok (.return_, 1) := by decide +kernel
set_option maxRecDepth 20000 in
set_option maxHeartbeats 4000000 in
theorem wk_X9_handsAll_47 {p : Program} {l : Launch} {e : Env} {s : State} {m : MethodId} {args : Array Value} {below : List Frame} {meth : Method} {c : Code} {G : Gp} {x1 : Int32} {x2 : Int32} {x3 : Int32}  {Q : St → Prop} (F : FX p s m args meth c cX9_handsAll 6 none RX9 G)   : ∀ (n9 : Nat) (σ : St) (x4 : Int32), LP2 (wp_X9_handsAll_47 x1 x2 x3 Q) n9 σ x4 → J p l e (rmF 4 96) s m args below meth c 6 G (MQ below (QQ G (qV Q)) args s 0 0 (fr G)) 0 0 47 [(0, .ref (gb G + 244)), (1, .int x1), (2, .int x2), (3, .int x3), (4, .int x4)] [] σ := by
  intro n9
  induction n9 with
  | zero => intro σ x4 h; exact h.elim
  | succ n9 i47 =>
    intro σ x4 h
    have h : wp_X9_handsAll_47 x1 x2 x3 Q (LP2 (wp_X9_handsAll_47 x1 x2 x3 Q) n9) σ x4 := h
    unfold wp_X9_handsAll_47 at h
    refine J_il F 4 dX9_handsAll_47 rfl ?_
    refine J_iln F 3 dX9_handsAll_49 rfl rfl ?_
    refine J_cge F (tgt := 107) dX9_handsAll_50 (by decide) (fun c_1 => ?_) (fun c_1 => ?_)
    · have h := h.1 c_1
      exact J_retv F ⟨rfl, h⟩ dX9_handsAll_107
    · have h := h.2 c_1
      refine J_aln F 0 dX9_handsAll_53 rfl rfl ?_
      refine J_iln F 1 dX9_handsAll_54 rfl rfl ?_
      refine J_aln F 0 dX9_handsAll_55 rfl rfl ?_
      refine J_gfa F (ci := 9) 24 rfl inX9 ly_244 (by decide) (by decide) rfl lf_X9_48 rfl dX9_handsAll_56 ?_
      refine J_il F 4 dX9_handsAll_59 rfl ?_
      obtain ⟨h_2, h⟩ := h
      refine J_iald F ly_256 h_2 dX9_handsAll_61 ?_
      refine J_iln F 2 dX9_handsAll_62 rfl rfl ?_
      refine J_callVi F (As := [.int x1, .int (σ 256 (Int32.toNatClampNeg x4)), .int x2]) (st := []) (C_X9_heirOf l G x1 (σ 256 (Int32.toNatClampNeg x4)) x2  h) (ci := 9) ly_244 (by decide) rfl rfl lm_X9_144 li_X9_heirOf ls_X9_heirOf ini_X9 lc_X9_heirOf hd_X9_heirOf (by decide) (Nat.le_of_ble_eq_true rfl) (by decide) rfl dX9_handsAll_63 (fun r_3 σ_4 h => ?_)
      refine J_is F (L' := [(5, .int r_3), (0, .ref (gb G + 244)), (1, .int x1), (2, .int x2), (3, .int x3), (4, .int x4)]) dX9_handsAll_66 (by decide) rfl ?_
      refine J_aln F 1 dX9_handsAll_68 rfl rfl ?_
      refine J_iln F 2 dX9_handsAll_69 rfl rfl ?_
      refine J_aln F 1 dX9_handsAll_70 rfl rfl ?_
      refine J_gfa F (ci := 9) 24 rfl inX9 ly_244 (by decide) (by decide) rfl lf_X9_48 rfl dX9_handsAll_71 ?_
      refine J_il F 5 dX9_handsAll_74 rfl ?_
      obtain ⟨h_5, h⟩ := h
      refine J_iald F ly_256 h_5 dX9_handsAll_76 ?_
      refine J_ic F dX9_handsAll_77 ki_m1 ?_
      refine J_callVv F (As := [.int x1, .int (σ_4 256 (Int32.toNatClampNeg x4)), .int (-1)]) (st := []) (C_X9_owns l G x1 (σ_4 256 (Int32.toNatClampNeg x4)) (-1)  h) (ci := 9) ly_244 (by decide) rfl rfl lm_X9_105 li_X9_owns ls_X9_owns ini_X9 lc_X9_owns hd_X9_owns (by decide) (Nat.le_of_ble_eq_true rfl) (by decide) rfl dX9_handsAll_78 (fun σ_6 h => ?_)
      refine J_il F 0 dX9_handsAll_81 rfl ?_
      refine J_ic F dX9_handsAll_83 ki_m1 ?_
      refine J_ceq F (tgt := 101) dX9_handsAll_84 (by decide) (fun c_7 => ?_) (fun c_7 => ?_)
      · have h := h.1 c_7
        obtain ⟨x4_8, ex4_8⟩ : ∃ z : Int32, z = x4 + (nI 1) := ⟨_, rfl⟩
        have h := h x4_8 ex4_8
        refine J_iinc F (v := x4_8) (L' := [(4, .int x4_8), (5, .int r_3), (0, .ref (gb G + 244)), (1, .int x1), (2, .int x2), (3, .int x3)]) 5 dX9_handsAll_101 rfl (by rw [ki_1, ex4_8]) (by decide) rfl ?_
        refine J_goto F (tgt := 47) dX9_handsAll_104 (by decide) ?_
        refine J_sub [2, 3, 4, 5, 0] rfl ?_
        exact i47 _ _ h
      · have h := h.2 c_7
        refine J_aln F 1 dX9_handsAll_87 rfl rfl ?_
        refine J_iln F 2 dX9_handsAll_88 rfl rfl ?_
        refine J_aln F 1 dX9_handsAll_89 rfl rfl ?_
        refine J_gfa F (ci := 9) 24 rfl inX9 ly_244 (by decide) (by decide) rfl lf_X9_48 rfl dX9_handsAll_90 ?_
        refine J_il F 5 dX9_handsAll_93 rfl ?_
        obtain ⟨h_9, h⟩ := h
        refine J_iald F ly_256 h_9 dX9_handsAll_95 ?_
        refine J_il F 0 dX9_handsAll_96 rfl ?_
        refine J_callVv F (As := [.int x1, .int (σ_6 256 (Int32.toNatClampNeg x4)), .int r_3]) (st := []) (C_X9_gives l G x1 (σ_6 256 (Int32.toNatClampNeg x4)) r_3  h) (ci := 9) ly_244 (by decide) rfl rfl lm_X9_147 li_X9_gives ls_X9_gives ini_X9 lc_X9_gives hd_X9_gives (by decide) (Nat.le_of_ble_eq_true rfl) (by decide) rfl dX9_handsAll_98 (fun σ_10 h => ?_)
        obtain ⟨x4_11, ex4_11⟩ : ∃ z : Int32, z = x4 + (nI 1) := ⟨_, rfl⟩
        have h := h x4_11 ex4_11
        refine J_iinc F (v := x4_11) (L' := [(4, .int x4_11), (5, .int r_3), (0, .ref (gb G + 244)), (1, .int x1), (2, .int x2), (3, .int x3)]) 5 dX9_handsAll_101 rfl (by rw [ki_1, ex4_11]) (by decide) rfl ?_
        refine J_goto F (tgt := 47) dX9_handsAll_104 (by decide) ?_
        refine J_sub [2, 3, 4, 5, 0] rfl ?_
        exact i47 _ _ h
set_option maxRecDepth 20000 in
set_option maxHeartbeats 4000000 in
theorem wk_X9_handsAll_5 {p : Program} {l : Launch} {e : Env} {s : State} {m : MethodId} {args : Array Value} {below : List Frame} {meth : Method} {c : Code} {G : Gp} {x1 : Int32} {x2 : Int32}  {Q : St → Prop} (F : FX p s m args meth c cX9_handsAll 6 none RX9 G)   : ∀ (n9 : Nat) (σ : St) (x3 : Int32) (x4 : Int32), LP3 (wp_X9_handsAll_5 x1 x2 Q) n9 σ x3 x4 → J p l e (rmF 4 96) s m args below meth c 6 G (MQ below (QQ G (qV Q)) args s 0 0 (fr G)) 0 0 5 [(0, .ref (gb G + 244)), (1, .int x1), (2, .int x2), (3, .int x3), (4, .int x4)] [] σ := by
  intro n9
  induction n9 with
  | zero => intro σ x3 x4 h; exact h.elim
  | succ n9 i5 =>
    intro σ x3 x4 h
    have h : wp_X9_handsAll_5 x1 x2 Q (LP3 (wp_X9_handsAll_5 x1 x2 Q) n9) σ x3 x4 := h
    unfold wp_X9_handsAll_5 at h
    refine J_il F 4 dX9_handsAll_5 rfl ?_
    refine J_si F dX9_handsAll_7 ks_2048 ?_
    refine J_cge F (tgt := 44) dX9_handsAll_10 (by decide) (fun c_12 => ?_) (fun c_12 => ?_)
    · have h := h.1 c_12
      refine J_ic F dX9_handsAll_44 ki_0 ?_
      refine J_is F (L' := [(4, .int (nI 0)), (0, .ref (gb G + 244)), (1, .int x1), (2, .int x2), (3, .int x3)]) dX9_handsAll_45 (by decide) rfl ?_
      refine J_sub [1, 2, 3, 4, 0] rfl ?_
      obtain ⟨n9, h⟩ := h
      exact wk_X9_handsAll_47 F  n9 _ _ h
    · have h := h.2 c_12
      refine J_aln F 0 dX9_handsAll_13 rfl rfl ?_
      refine J_iln F 1 dX9_handsAll_14 rfl rfl ?_
      refine J_il F 4 dX9_handsAll_15 rfl ?_
      refine J_callVi F (As := [.int x1, .int x4]) (st := []) (C_X9_ownerOf l G x1 x4  h) (ci := 9) ly_244 (by decide) rfl rfl lm_X9_95 li_X9_ownerOf ls_X9_ownerOf ini_X9 lc_X9_ownerOf hd_X9_ownerOf (by decide) (Nat.le_of_ble_eq_true rfl) (by decide) rfl dX9_handsAll_17 (fun r_13 σ_14 hh => ?_)
      clear h
      obtain ⟨e9, h⟩ := hh
      subst σ_14
      refine J_iln F 2 dX9_handsAll_20 rfl rfl ?_
      refine J_ceq F (tgt := 27) dX9_handsAll_21 (by decide) (fun c_15 => ?_) (fun c_15 => ?_)
      · have h := h.1 c_15
        refine J_aln F 0 dX9_handsAll_27 rfl rfl ?_
        refine J_gfa F (ci := 9) 24 rfl inX9 ly_244 (by decide) (by decide) rfl lf_X9_48 rfl dX9_handsAll_28 ?_
        refine J_iln F 3 dX9_handsAll_31 rfl rfl ?_
        refine J_il F 4 dX9_handsAll_32 rfl ?_
        obtain ⟨h_16, h⟩ := h
        refine J_iast F ly_256 h_16 dX9_handsAll_34 ?_
        refine J_st (fun σ_17 eσ_17 => ?_)
        have h := h σ_17 eσ_17
        obtain ⟨x3_18, ex3_18⟩ : ∃ z : Int32, z = x3 + (nI 1) := ⟨_, rfl⟩
        have h := h x3_18 ex3_18
        refine J_iinc F (v := x3_18) (L' := [(3, .int x3_18), (0, .ref (gb G + 244)), (1, .int x1), (2, .int x2), (4, .int x4)]) 3 dX9_handsAll_35 rfl (by rw [ki_1, ex3_18]) (by decide) rfl ?_
        obtain ⟨x4_19, ex4_19⟩ : ∃ z : Int32, z = x4 + (nI 1) := ⟨_, rfl⟩
        have h := h x4_19 ex4_19
        refine J_iinc F (v := x4_19) (L' := [(4, .int x4_19), (3, .int x3_18), (0, .ref (gb G + 244)), (1, .int x1), (2, .int x2)]) 4 dX9_handsAll_38 rfl (by rw [ki_1, ex4_19]) (by decide) rfl ?_
        refine J_goto F (tgt := 5) dX9_handsAll_41 (by decide) ?_
        refine J_sub [2, 3, 4, 1, 0] rfl ?_
        exact i5 _ _ _ h
      · have h := h.2 c_15
        refine J_goto F (tgt := 38) dX9_handsAll_24 (by decide) ?_
        obtain ⟨x4_20, ex4_20⟩ : ∃ z : Int32, z = x4 + (nI 1) := ⟨_, rfl⟩
        have h := h x4_20 ex4_20
        refine J_iinc F (v := x4_20) (L' := [(4, .int x4_20), (0, .ref (gb G + 244)), (1, .int x1), (2, .int x2), (3, .int x3)]) 4 dX9_handsAll_38 rfl (by rw [ki_1, ex4_20]) (by decide) rfl ?_
        refine J_goto F (tgt := 5) dX9_handsAll_41 (by decide) ?_
        refine J_sub [1, 2, 3, 4, 0] rfl ?_
        exact i5 _ _ _ h
set_option maxRecDepth 20000 in
set_option maxHeartbeats 4000000 in
theorem C_X9_handsAll (l : Launch) (G : Gp) (x1 : Int32) (x2 : Int32)  {σ : St} {Q : St → Prop} (h : wp_X9_handsAll σ x1 x2 Q) : Cn l yX9_handsAll cX9_handsAll 6 none 4 96 G [.ref (gb G + 244), .int x1, .int x2] σ (qV Q) := by
  refine Cn_of (L := [(0, .ref (gb G + 244)), (1, .int x1), (2, .int x2)]) RX9 (by decide) rfl (Nat.le_of_ble_eq_true rfl) rfl ?_
  intro p e s m below meth c F
  unfold wp_X9_handsAll at h
  refine J_ic F dX9_handsAll_0 ki_0 ?_
  refine J_isn F (L' := [(3, .int (nI 0)), (0, .ref (gb G + 244)), (1, .int x1), (2, .int x2)]) dX9_handsAll_1 rfl (by decide) rfl ?_
  refine J_ic F dX9_handsAll_2 ki_1 ?_
  refine J_is F (L' := [(4, .int (nI 1)), (3, .int (nI 0)), (0, .ref (gb G + 244)), (1, .int x1), (2, .int x2)]) dX9_handsAll_3 (by decide) rfl ?_
  refine J_sub [2, 3, 4, 1, 0] rfl ?_
  obtain ⟨n9, h⟩ := h
  exact wk_X9_handsAll_5 F  n9 _ _ _ h
theorem dX9_goesAway_0 : decode cX9_goesAway 0 = .ok (.iconst 0, 1) := by decide +kernel
theorem dX9_goesAway_1 : decode cX9_goesAway 1 = .ok (.istore_n 2, 1) := by decide +kernel
theorem dX9_goesAway_2 : decode cX9_goesAway 2 = .ok (.iload_n 2, 1) := by decide +kernel
theorem dX9_goesAway_3 : decode cX9_goesAway 3 = .ok (.aload_n 0, 1) := by decide +kernel
theorem dX9_goesAway_4 : decode cX9_goesAway 4 = .ok (.getfield 7, 3) := by decide +kernel
theorem dX9_goesAway_7 : decode cX9_goesAway 7 = .ok (.bipush 37, 2) := by decide +kernel
theorem dX9_goesAway_9 : decode cX9_goesAway 9 = .ok (.iaload, 1) := by decide +kernel
theorem dX9_goesAway_10 : decode cX9_goesAway 10 = .ok (.if_icmp .ge 15, 3) := by decide +kernel
theorem dX9_goesAway_13 : decode cX9_goesAway 13 = .ok (.aload_n 0, 1) := by decide +kernel
theorem dX9_goesAway_14 : decode cX9_goesAway 14 = .ok (.iload_n 2, 1) := by decide +kernel
theorem dX9_goesAway_15 : decode cX9_goesAway 15 = .ok (.iload_n 1, 1) := by decide +kernel
theorem dX9_goesAway_16 : decode cX9_goesAway 16 = .ok (.invokevirtual 150, 3) := by decide +kernel
theorem dX9_goesAway_19 : decode cX9_goesAway 19 = .ok (.iinc 2 1, 3) := by decide +kernel
theorem dX9_goesAway_22 : decode cX9_goesAway 22 = .ok (.goto (-20), 3) := by decide +kernel
theorem dX9_goesAway_25 : decode cX9_goesAway 25 = .ok (.aload_n 0, 1) := by decide +kernel
theorem dX9_goesAway_26 : decode cX9_goesAway 26 = .ok (.getfield 7, 3) := by decide +kernel
theorem dX9_goesAway_29 : decode cX9_goesAway 29 = .ok (.iconst 0, 1) := by decide +kernel
theorem dX9_goesAway_30 : decode cX9_goesAway 30 = .ok (.iload_n 1, 1) := by decide +kernel
theorem dX9_goesAway_31 : decode cX9_goesAway 31 = .ok (.iadd, 1) := by decide +kernel
theorem dX9_goesAway_32 : decode cX9_goesAway 32 = .ok (.iconst 0, 1) := by decide +kernel
theorem dX9_goesAway_33 : decode cX9_goesAway 33 = .ok (.iastore, 1) := by decide +kernel
theorem dX9_goesAway_34 : decode cX9_goesAway 34 = .ok (.aload_n 0, 1) := by decide +kernel
theorem dX9_goesAway_35 : decode cX9_goesAway 35 = .ok (.iconst 0, 1) := by decide +kernel
theorem dX9_goesAway_36 : decode cX9_goesAway 36 = .ok (.invokevirtual 92, 3) := by decide +kernel
theorem dX9_goesAway_39 : decode cX9_goesAway 39 = .ok (.bipush 10, 2) := by decide +kernel
theorem dX9_goesAway_41 : decode cX9_goesAway 41 = .ok (.if_icmp .ge 4, 3) := by decide +kernel
theorem dX9_goesAway_44 : decode cX9_goesAway 44 = .ok (.return_, 1) := by decide +kernel
theorem dX9_goesAway_45 : decode cX9_goesAway 45 = .ok (.iconst 0, 1) := by decide +kernel
theorem dX9_goesAway_46 : decode cX9_goesAway 46 = .ok (.istore_n 2, 1) := by decide +kernel
theorem dX9_goesAway_47 : decode cX9_goesAway 47 = .ok (.iload_n 2, 1) := by decide +kernel
theorem dX9_goesAway_48 : decode cX9_goesAway 48 = .ok (.sipush 300, 3) := by decide +kernel
theorem dX9_goesAway_51 : decode cX9_goesAway 51 = .ok (.if_icmp .ge 20, 3) := by decide +kernel
theorem dX9_goesAway_54 : decode cX9_goesAway 54 = .ok (.aload_n 0, 1) := by decide +kernel
theorem dX9_goesAway_55 : decode cX9_goesAway 55 = .ok (.getfield 7, 3) := by decide +kernel
theorem dX9_goesAway_58 : decode cX9_goesAway 58 = .ok (.sipush 238, 3) := by decide +kernel
theorem dX9_goesAway_61 : decode cX9_goesAway 61 = .ok (.iload_n 2, 1) := by decide +kernel
theorem dX9_goesAway_62 : decode cX9_goesAway 62 = .ok (.iadd, 1) := by decide +kernel
theorem dX9_goesAway_63 : decode cX9_goesAway 63 = .ok (.iconst 0, 1) := by decide +kernel
theorem dX9_goesAway_64 : decode cX9_goesAway 64 = .ok (.iastore, 1) := by decide +kernel
theorem dX9_goesAway_65 : decode cX9_goesAway 65 = .ok (.iinc 2 1, 3) := by decide +kernel
theorem dX9_goesAway_68 : decode cX9_goesAway 68 = .ok (.goto (-21), 3) := by decide +kernel
theorem dX9_goesAway_71 : decode cX9_goesAway 71 = .ok (.return_, 1) := by decide +kernel
set_option maxRecDepth 20000 in
set_option maxHeartbeats 4000000 in
theorem wk_X9_goesAway_47 {p : Program} {l : Launch} {e : Env} {s : State} {m : MethodId} {args : Array Value} {below : List Frame} {meth : Method} {c : Code} {G : Gp}   {Q : St → Prop} (F : FX p s m args meth c cX9_goesAway 3 none RX9 G)   : ∀ (n9 : Nat) (σ : St) (x2 : Int32), LP2 (wp_X9_goesAway_47 Q) n9 σ x2 → J p l e (rmF 5 121) s m args below meth c 3 G (MQ below (QQ G (qV Q)) args s 0 0 (fr G)) 0 0 47 [(0, .ref (gb G + 244)), (2, .int x2)] [] σ := by
  intro n9
  induction n9 with
  | zero => intro σ x2 h; exact h.elim
  | succ n9 i47 =>
    intro σ x2 h
    have h : wp_X9_goesAway_47 Q (LP2 (wp_X9_goesAway_47 Q) n9) σ x2 := h
    unfold wp_X9_goesAway_47 at h
    refine J_iln F 1 dX9_goesAway_47 rfl rfl ?_
    refine J_si F dX9_goesAway_48 ks_300 ?_
    refine J_cge F (tgt := 71) dX9_goesAway_51 (by decide) (fun c_1 => ?_) (fun c_1 => ?_)
    · have h := h.1 c_1
      exact J_retv F ⟨rfl, h⟩ dX9_goesAway_71
    · have h := h.2 c_1
      refine J_aln F 0 dX9_goesAway_54 rfl rfl ?_
      refine J_gfa F (ci := 9) 1 rfl inX9 ly_244 (by decide) (by decide) rfl lf_X9_7 rfl dX9_goesAway_55 ?_
      refine J_si F dX9_goesAway_58 ks_238 ?_
      refine J_iln F 1 dX9_goesAway_61 rfl rfl ?_
      refine J_iadd F dX9_goesAway_62 ?_
      refine J_ic F dX9_goesAway_63 ki_0 ?_
      obtain ⟨h_2, h⟩ := h
      refine J_iast F ly_245 h_2 dX9_goesAway_64 ?_
      refine J_st (fun σ_3 eσ_3 => ?_)
      have h := h σ_3 eσ_3
      obtain ⟨x2_4, ex2_4⟩ : ∃ z : Int32, z = x2 + (nI 1) := ⟨_, rfl⟩
      have h := h x2_4 ex2_4
      refine J_iinc F (v := x2_4) (L' := [(2, .int x2_4), (0, .ref (gb G + 244))]) 1 dX9_goesAway_65 rfl (by rw [ki_1, ex2_4]) (by decide) rfl ?_
      refine J_goto F (tgt := 47) dX9_goesAway_68 (by decide) ?_
      refine J_sub [1, 0] rfl ?_
      exact i47 _ _ h
set_option maxRecDepth 20000 in
set_option maxHeartbeats 4000000 in
theorem wk_X9_goesAway_25 {p : Program} {l : Launch} {e : Env} {s : State} {m : MethodId} {args : Array Value} {below : List Frame} {meth : Method} {c : Code} {G : Gp} {σ : St} {x1 : Int32}  {Q : St → Prop} (F : FX p s m args meth c cX9_goesAway 3 none RX9 G)   (h : wp_X9_goesAway_25 σ x1 Q) : J p l e (rmF 5 121) s m args below meth c 3 G (MQ below (QQ G (qV Q)) args s 0 0 (fr G)) 0 0 25 [(0, .ref (gb G + 244)), (1, .int x1)] [] σ := by
  unfold wp_X9_goesAway_25 at h
  refine J_aln F 0 dX9_goesAway_25 rfl rfl ?_
  refine J_gfa F (ci := 9) 1 rfl inX9 ly_244 (by decide) (by decide) rfl lf_X9_7 rfl dX9_goesAway_26 ?_
  refine J_ic F dX9_goesAway_29 ki_0 ?_
  refine J_iln F 1 dX9_goesAway_30 rfl rfl ?_
  refine J_iadd F dX9_goesAway_31 ?_
  refine J_ic F dX9_goesAway_32 ki_0 ?_
  obtain ⟨h_5, h⟩ := h
  refine J_iast F ly_245 h_5 dX9_goesAway_33 ?_
  refine J_st (fun σ_6 eσ_6 => ?_)
  have h := h σ_6 eσ_6
  refine J_aln F 0 dX9_goesAway_34 rfl rfl ?_
  refine J_ic F dX9_goesAway_35 ki_0 ?_
  refine J_callVi F (As := [.int (nI 0)]) (st := []) (C_X9_countOf l G (nI 0)  h) (ci := 9) ly_244 (by decide) rfl rfl lm_X9_92 li_X9_countOf ls_X9_countOf ini_X9 lc_X9_countOf hd_X9_countOf (by decide) (Nat.le_of_ble_eq_true rfl) (by decide) rfl dX9_goesAway_36 (fun r_7 σ_8 hh => ?_)
  clear h
  obtain ⟨e9, h⟩ := hh
  subst σ_8
  refine J_bi F dX9_goesAway_39 kb_10 ?_
  refine J_cge F (tgt := 45) dX9_goesAway_41 (by decide) (fun c_9 => ?_) (fun c_9 => ?_)
  · have h := h.1 c_9
    refine J_ic F dX9_goesAway_45 ki_0 ?_
    refine J_isn F (L' := [(2, .int (nI 0)), (0, .ref (gb G + 244)), (1, .int x1)]) dX9_goesAway_46 rfl (by decide) rfl ?_
    refine J_sub [1, 0] rfl ?_
    obtain ⟨n9, h⟩ := h
    exact wk_X9_goesAway_47 F  n9 _ _ h
  · have h := h.2 c_9
    exact J_retv F ⟨rfl, h⟩ dX9_goesAway_44
set_option maxRecDepth 20000 in
set_option maxHeartbeats 4000000 in
theorem wk_X9_goesAway_2 {p : Program} {l : Launch} {e : Env} {s : State} {m : MethodId} {args : Array Value} {below : List Frame} {meth : Method} {c : Code} {G : Gp} {x1 : Int32}  {Q : St → Prop} (F : FX p s m args meth c cX9_goesAway 3 none RX9 G)   : ∀ (n9 : Nat) (σ : St) (x2 : Int32), LP2 (wp_X9_goesAway_2 x1 Q) n9 σ x2 → J p l e (rmF 5 121) s m args below meth c 3 G (MQ below (QQ G (qV Q)) args s 0 0 (fr G)) 0 0 2 [(0, .ref (gb G + 244)), (1, .int x1), (2, .int x2)] [] σ := by
  intro n9
  induction n9 with
  | zero => intro σ x2 h; exact h.elim
  | succ n9 i2 =>
    intro σ x2 h
    have h : wp_X9_goesAway_2 x1 Q (LP2 (wp_X9_goesAway_2 x1 Q) n9) σ x2 := h
    unfold wp_X9_goesAway_2 at h
    refine J_iln F 2 dX9_goesAway_2 rfl rfl ?_
    refine J_aln F 0 dX9_goesAway_3 rfl rfl ?_
    refine J_gfa F (ci := 9) 1 rfl inX9 ly_244 (by decide) (by decide) rfl lf_X9_7 rfl dX9_goesAway_4 ?_
    refine J_bi F dX9_goesAway_7 kb_37 ?_
    refine J_ialdc F ly_245 (by decide) (by decide) dX9_goesAway_9 ?_
    refine J_cge F (tgt := 25) dX9_goesAway_10 (by decide) (fun c_10 => ?_) (fun c_10 => ?_)
    · have h := h.1 c_10
      refine J_sub [0, 1] rfl ?_
      exact wk_X9_goesAway_25 F  h
    · have h := h.2 c_10
      refine J_aln F 0 dX9_goesAway_13 rfl rfl ?_
      refine J_iln F 2 dX9_goesAway_14 rfl rfl ?_
      refine J_iln F 1 dX9_goesAway_15 rfl rfl ?_
      refine J_callVv F (As := [.int x2, .int x1]) (st := []) (C_X9_handsAll l G x2 x1  h) (ci := 9) ly_244 (by decide) rfl rfl lm_X9_150 li_X9_handsAll ls_X9_handsAll ini_X9 lc_X9_handsAll hd_X9_handsAll (by decide) (Nat.le_of_ble_eq_true rfl) (by decide) rfl dX9_goesAway_16 (fun σ_11 h => ?_)
      obtain ⟨x2_12, ex2_12⟩ : ∃ z : Int32, z = x2 + (nI 1) := ⟨_, rfl⟩
      have h := h x2_12 ex2_12
      refine J_iinc F (v := x2_12) (L' := [(2, .int x2_12), (0, .ref (gb G + 244)), (1, .int x1)]) 2 dX9_goesAway_19 rfl (by rw [ki_1, ex2_12]) (by decide) rfl ?_
      refine J_goto F (tgt := 2) dX9_goesAway_22 (by decide) ?_
      refine J_sub [1, 2, 0] rfl ?_
      exact i2 _ _ h
set_option maxRecDepth 20000 in
set_option maxHeartbeats 4000000 in
theorem C_X9_goesAway (l : Launch) (G : Gp) (x1 : Int32)  {σ : St} {Q : St → Prop} (h : wp_X9_goesAway σ x1 Q) : Cn l yX9_goesAway cX9_goesAway 3 none 5 121 G [.ref (gb G + 244), .int x1] σ (qV Q) := by
  refine Cn_of (L := [(0, .ref (gb G + 244)), (1, .int x1)]) RX9 (by decide) rfl (Nat.le_of_ble_eq_true rfl) rfl ?_
  intro p e s m below meth c F
  unfold wp_X9_goesAway at h
  refine J_ic F dX9_goesAway_0 ki_0 ?_
  refine J_isn F (L' := [(2, .int (nI 0)), (0, .ref (gb G + 244)), (1, .int x1)]) dX9_goesAway_1 rfl (by decide) rfl ?_
  refine J_sub [1, 2, 0] rfl ?_
  obtain ⟨n9, h⟩ := h
  exact wk_X9_goesAway_2 F  n9 _ _ h
theorem dX9_pointOf_0 : decode cX9_pointOf 0 = .ok (.iload_n 0, 1) := by decide +kernel
theorem dX9_pointOf_1 : decode cX9_pointOf 1 = .ok (.iconst 1, 1) := by decide +kernel
theorem dX9_pointOf_2 : decode cX9_pointOf 2 = .ok (.iadd, 1) := by decide +kernel
theorem dX9_pointOf_3 : decode cX9_pointOf 3 = .ok (.sipush 397, 3) := by decide +kernel
theorem dX9_pointOf_6 : decode cX9_pointOf 6 = .ok (.sipush 214, 3) := by decide +kernel
theorem dX9_pointOf_9 : decode cX9_pointOf 9 = .ok (.iload_n 1, 1) := by decide +kernel
theorem dX9_pointOf_10 : decode cX9_pointOf 10 = .ok (.imul, 1) := by decide +kernel
theorem dX9_pointOf_11 : decode cX9_pointOf 11 = .ok (.iadd, 1) := by decide +kernel
theorem dX9_pointOf_12 : decode cX9_pointOf 12 = .ok (.imul, 1) := by decide +kernel
theorem dX9_pointOf_13 : decode cX9_pointOf 13 = .ok (.sipush 1024, 3) := by decide +kernel
theorem dX9_pointOf_16 : decode cX9_pointOf 16 = .ok (.irem, 1) := by decide +kernel
theorem dX9_pointOf_17 : decode cX9_pointOf 17 = .ok (.ireturn, 1) := by decide +kernel
set_option maxRecDepth 20000 in
set_option maxHeartbeats 4000000 in
theorem C_X9_pointOf (l : Launch) (G : Gp) (x0 : Int32) (x1 : Int32)  {σ : St} {Q : Int32 → Prop} (h : wp_X9_pointOf σ x0 x1 Q) : Cn l yX9_pointOf cX9_pointOf 2 (some .int) 0 0 G [.int x0, .int x1] σ (qI (fun r σ' => σ' = σ ∧ Q r)) := by
  refine Cn_of (L := [(0, .int x0), (1, .int x1)]) RX9 (by decide) rfl (Nat.le_of_ble_eq_true rfl) rfl ?_
  intro p e s m below meth c F
  unfold wp_X9_pointOf at h
  refine J_iln F 0 dX9_pointOf_0 rfl rfl ?_
  refine J_ic F dX9_pointOf_1 ki_1 ?_
  refine J_iadd F dX9_pointOf_2 ?_
  refine J_si F dX9_pointOf_3 ks_397 ?_
  refine J_si F dX9_pointOf_6 ks_214 ?_
  refine J_iln F 1 dX9_pointOf_9 rfl rfl ?_
  refine J_imul F dX9_pointOf_10 ?_
  refine J_iadd F dX9_pointOf_11 ?_
  refine J_imul F dX9_pointOf_12 ?_
  refine J_si F dX9_pointOf_13 ks_1024 ?_
  refine J_irem F dX9_pointOf_16 nz_1024 ?_
  exact J_reti F ⟨_, rfl, rfl, h⟩ dX9_pointOf_17
theorem dX9_pointX_0 : decode cX9_pointX 0 = .ok (.iload_n 0, 1) := by decide +kernel
theorem dX9_pointX_1 : decode cX9_pointX 1 = .ok (.iload_n 1, 1) := by decide +kernel
theorem dX9_pointX_2 : decode cX9_pointX 2 = .ok (.invokestatic 153, 3) := by decide +kernel
theorem dX9_pointX_5 : decode cX9_pointX 5 = .ok (.bipush 32, 2) := by decide +kernel
theorem dX9_pointX_7 : decode cX9_pointX 7 = .ok (.irem, 1) := by decide +kernel
theorem dX9_pointX_8 : decode cX9_pointX 8 = .ok (.ireturn, 1) := by decide +kernel
set_option maxRecDepth 20000 in
set_option maxHeartbeats 4000000 in
theorem C_X9_pointX (l : Launch) (G : Gp) (x0 : Int32) (x1 : Int32)  {σ : St} {Q : Int32 → Prop} (h : wp_X9_pointX σ x0 x1 Q) : Cn l yX9_pointX cX9_pointX 2 (some .int) 1 21 G [.int x0, .int x1] σ (qI (fun r σ' => σ' = σ ∧ Q r)) := by
  refine Cn_of (L := [(0, .int x0), (1, .int x1)]) RX9 (by decide) rfl (Nat.le_of_ble_eq_true rfl) rfl ?_
  intro p e s m below meth c F
  unfold wp_X9_pointX at h
  refine J_iln F 0 dX9_pointX_0 rfl rfl ?_
  refine J_iln F 1 dX9_pointX_1 rfl rfl ?_
  refine J_callSi F (As := [.int x0, .int x1]) (st := []) (C_X9_pointOf l G x0 x1  h) lm_X9_153 li_X9_pointOf ini_X9 lc_X9_pointOf hd_X9_pointOf (by decide) (Nat.le_of_ble_eq_true rfl) (by decide) rfl dX9_pointX_2 (fun r_1 σ_2 hh => ?_)
  clear h
  obtain ⟨e9, h⟩ := hh
  subst σ_2
  refine J_bi F dX9_pointX_5 kb_32 ?_
  refine J_irem F dX9_pointX_7 nz_32 ?_
  exact J_reti F ⟨_, rfl, rfl, h⟩ dX9_pointX_8
theorem dX9_pointY_0 : decode cX9_pointY 0 = .ok (.iload_n 0, 1) := by decide +kernel
theorem dX9_pointY_1 : decode cX9_pointY 1 = .ok (.iload_n 1, 1) := by decide +kernel
theorem dX9_pointY_2 : decode cX9_pointY 2 = .ok (.invokestatic 153, 3) := by decide +kernel
theorem dX9_pointY_5 : decode cX9_pointY 5 = .ok (.bipush 32, 2) := by decide +kernel
theorem dX9_pointY_7 : decode cX9_pointY 7 = .ok (.idiv, 1) := by decide +kernel
theorem dX9_pointY_8 : decode cX9_pointY 8 = .ok (.ireturn, 1) := by decide +kernel
set_option maxRecDepth 20000 in
set_option maxHeartbeats 4000000 in
theorem C_X9_pointY (l : Launch) (G : Gp) (x0 : Int32) (x1 : Int32)  {σ : St} {Q : Int32 → Prop} (h : wp_X9_pointY σ x0 x1 Q) : Cn l yX9_pointY cX9_pointY 2 (some .int) 1 21 G [.int x0, .int x1] σ (qI (fun r σ' => σ' = σ ∧ Q r)) := by
  refine Cn_of (L := [(0, .int x0), (1, .int x1)]) RX9 (by decide) rfl (Nat.le_of_ble_eq_true rfl) rfl ?_
  intro p e s m below meth c F
  unfold wp_X9_pointY at h
  refine J_iln F 0 dX9_pointY_0 rfl rfl ?_
  refine J_iln F 1 dX9_pointY_1 rfl rfl ?_
  refine J_callSi F (As := [.int x0, .int x1]) (st := []) (C_X9_pointOf l G x0 x1  h) lm_X9_153 li_X9_pointOf ini_X9 lc_X9_pointOf hd_X9_pointOf (by decide) (Nat.le_of_ble_eq_true rfl) (by decide) rfl dX9_pointY_2 (fun r_1 σ_2 hh => ?_)
  clear h
  obtain ⟨e9, h⟩ := hh
  subst σ_2
  refine J_bi F dX9_pointY_5 kb_32 ?_
  refine J_idiv F dX9_pointY_7 nz_32 ?_
  exact J_reti F ⟨_, rfl, rfl, h⟩ dX9_pointY_8
theorem dX9_keeperOf_0 : decode cX9_keeperOf 0 = .ok (.aload_n 0, 1) := by decide +kernel
theorem dX9_keeperOf_1 : decode cX9_keeperOf 1 = .ok (.iload_n 2, 1) := by decide +kernel
theorem dX9_keeperOf_2 : decode cX9_keeperOf 2 = .ok (.iload_n 1, 1) := by decide +kernel
theorem dX9_keeperOf_3 : decode cX9_keeperOf 3 = .ok (.iload_n 2, 1) := by decide +kernel
theorem dX9_keeperOf_4 : decode cX9_keeperOf 4 = .ok (.invokestatic 156, 3) := by decide +kernel
theorem dX9_keeperOf_7 : decode cX9_keeperOf 7 = .ok (.iload_n 1, 1) := by decide +kernel
theorem dX9_keeperOf_8 : decode cX9_keeperOf 8 = .ok (.iload_n 2, 1) := by decide +kernel
theorem dX9_keeperOf_9 : decode cX9_keeperOf 9 = .ok (.invokestatic 159, 3) := by decide +kernel
theorem dX9_keeperOf_12 : decode cX9_keeperOf 12 = .ok (.invokevirtual 162, 3) := by decide +kernel
theorem dX9_keeperOf_15 : decode cX9_keeperOf 15 = .ok (.ireturn, 1) := by decide +kernel
set_option maxRecDepth 20000 in
set_option maxHeartbeats 4000000 in
theorem C_X9_keeperOf (l : Launch) (G : Gp) (x1 : Int32) (x2 : Int32)  {σ : St} {Q : Int32 → St → Prop} (h : wp_X9_keeperOf σ x1 x2 Q) : Cn l yX9_keeperOf cX9_keeperOf 3 (some .int) 5 115 G [.ref (gb G + 244), .int x1, .int x2] σ (qI Q) := by
  refine Cn_of (L := [(0, .ref (gb G + 244)), (1, .int x1), (2, .int x2)]) RX9 (by decide) rfl (Nat.le_of_ble_eq_true rfl) rfl ?_
  intro p e s m below meth c F
  unfold wp_X9_keeperOf at h
  refine J_aln F 0 dX9_keeperOf_0 rfl rfl ?_
  refine J_iln F 2 dX9_keeperOf_1 rfl rfl ?_
  refine J_iln F 1 dX9_keeperOf_2 rfl rfl ?_
  refine J_iln F 2 dX9_keeperOf_3 rfl rfl ?_
  refine J_callSi F (As := [.int x1, .int x2]) (st := [.int x2, .ref (gb G + 244)]) (C_X9_pointX l G x1 x2  h) lm_X9_156 li_X9_pointX ini_X9 lc_X9_pointX hd_X9_pointX (by decide) (Nat.le_of_ble_eq_true rfl) (by decide) rfl dX9_keeperOf_4 (fun r_1 σ_2 hh => ?_)
  clear h
  obtain ⟨e9, h⟩ := hh
  subst σ_2
  refine J_iln F 1 dX9_keeperOf_7 rfl rfl ?_
  refine J_iln F 2 dX9_keeperOf_8 rfl rfl ?_
  refine J_callSi F (As := [.int x1, .int x2]) (st := [.int r_1, .int x2, .ref (gb G + 244)]) (C_X9_pointY l G x1 x2  h) lm_X9_159 li_X9_pointY ini_X9 lc_X9_pointY hd_X9_pointY (by decide) (Nat.le_of_ble_eq_true rfl) (by decide) rfl dX9_keeperOf_9 (fun r_3 σ_4 hh => ?_)
  clear h
  obtain ⟨e9, h⟩ := hh
  subst σ_4
  refine J_callVi F (As := [.int x2, .int r_1, .int r_3]) (st := []) (C_X9_nodeAt l G x2 r_1 r_3  h) (ci := 9) ly_244 (by decide) rfl rfl lm_X9_162 li_X9_nodeAt ls_X9_nodeAt ini_X9 lc_X9_nodeAt hd_X9_nodeAt (by decide) (Nat.le_of_ble_eq_true rfl) (by decide) rfl dX9_keeperOf_12 (fun r_5 σ_6 h => ?_)
  exact J_reti F ⟨_, rfl, h⟩ dX9_keeperOf_15
theorem dX9_isHeld_0 : decode cX9_isHeld 0 = .ok (.aload_n 0, 1) := by decide +kernel
theorem dX9_isHeld_1 : decode cX9_isHeld 1 = .ok (.getfield 7, 3) := by decide +kernel
theorem dX9_isHeld_4 : decode cX9_isHeld 4 = .ok (.bipush 38, 2) := by decide +kernel
theorem dX9_isHeld_6 : decode cX9_isHeld 6 = .ok (.iload_n 1, 1) := by decide +kernel
theorem dX9_isHeld_7 : decode cX9_isHeld 7 = .ok (.iadd, 1) := by decide +kernel
theorem dX9_isHeld_8 : decode cX9_isHeld 8 = .ok (.iaload, 1) := by decide +kernel
theorem dX9_isHeld_9 : decode cX9_isHeld 9 = .ok (.iconst 1, 1) := by decide +kernel
theorem dX9_isHeld_10 : decode cX9_isHeld 10 = .ok (.if_icmp .ne 26, 3) := by decide +kernel
theorem dX9_isHeld_13 : decode cX9_isHeld 13 = .ok (.aload_n 0, 1) := by decide +kernel
theorem dX9_isHeld_14 : decode cX9_isHeld 14 = .ok (.getfield 7, 3) := by decide +kernel
theorem dX9_isHeld_17 : decode cX9_isHeld 17 = .ok (.sipush 238, 3) := by decide +kernel
theorem dX9_isHeld_20 : decode cX9_isHeld 20 = .ok (.bipush 100, 2) := by decide +kernel
theorem dX9_isHeld_22 : decode cX9_isHeld 22 = .ok (.iload_n 2, 1) := by decide +kernel
theorem dX9_isHeld_23 : decode cX9_isHeld 23 = .ok (.imul, 1) := by decide +kernel
theorem dX9_isHeld_24 : decode cX9_isHeld 24 = .ok (.iadd, 1) := by decide +kernel
theorem dX9_isHeld_25 : decode cX9_isHeld 25 = .ok (.iload_n 1, 1) := by decide +kernel
theorem dX9_isHeld_26 : decode cX9_isHeld 26 = .ok (.iadd, 1) := by decide +kernel
theorem dX9_isHeld_27 : decode cX9_isHeld 27 = .ok (.iaload, 1) := by decide +kernel
theorem dX9_isHeld_28 : decode cX9_isHeld 28 = .ok (.iconst 1, 1) := by decide +kernel
theorem dX9_isHeld_29 : decode cX9_isHeld 29 = .ok (.if_icmp .ne 7, 3) := by decide +kernel
theorem dX9_isHeld_32 : decode cX9_isHeld 32 = .ok (.iconst 1, 1) := by decide +kernel
theorem dX9_isHeld_33 : decode cX9_isHeld 33 = .ok (.goto 4, 3) := by decide +kernel
theorem dX9_isHeld_36 : decode cX9_isHeld 36 = .ok (.iconst 0, 1) := by decide +kernel
theorem dX9_isHeld_37 : decode cX9_isHeld 37 = .ok (.ireturn, 1) := by decide +kernel
set_option maxRecDepth 20000 in
set_option maxHeartbeats 4000000 in
theorem C_X9_isHeld (l : Launch) (G : Gp) (x1 : Int32) (x2 : Int32)  {σ : St} {Q : Int32 → Prop} (h : wp_X9_isHeld σ x1 x2 Q) : Cn l yX9_isHeld cX9_isHeld 3 (some .boolean) 0 0 G [.ref (gb G + 244), .int x1, .int x2] σ (qI (fun r σ' => σ' = σ ∧ Q r)) := by
  refine Cn_of (L := [(0, .ref (gb G + 244)), (1, .int x1), (2, .int x2)]) RX9 (by decide) rfl (Nat.le_of_ble_eq_true rfl) rfl ?_
  intro p e s m below meth c F
  unfold wp_X9_isHeld at h
  refine J_aln F 0 dX9_isHeld_0 rfl rfl ?_
  refine J_gfa F (ci := 9) 1 rfl inX9 ly_244 (by decide) (by decide) rfl lf_X9_7 rfl dX9_isHeld_1 ?_
  refine J_bi F dX9_isHeld_4 kb_38 ?_
  refine J_iln F 1 dX9_isHeld_6 rfl rfl ?_
  refine J_iadd F dX9_isHeld_7 ?_
  obtain ⟨h_1, h⟩ := h
  refine J_iald F ly_245 h_1 dX9_isHeld_8 ?_
  refine J_ic F dX9_isHeld_9 ki_1 ?_
  refine J_cne F (tgt := 36) dX9_isHeld_10 (by decide) (fun c_2 => ?_) (fun c_2 => ?_)
  · have h := h.1 c_2
    refine J_ic F dX9_isHeld_36 ki_0 ?_
    exact J_retz F (Or.inl rfl) ⟨_, rfl, rfl, h⟩ dX9_isHeld_37
  · have h := h.2 c_2
    refine J_aln F 0 dX9_isHeld_13 rfl rfl ?_
    refine J_gfa F (ci := 9) 1 rfl inX9 ly_244 (by decide) (by decide) rfl lf_X9_7 rfl dX9_isHeld_14 ?_
    refine J_si F dX9_isHeld_17 ks_238 ?_
    refine J_bi F dX9_isHeld_20 kb_100 ?_
    refine J_iln F 2 dX9_isHeld_22 rfl rfl ?_
    refine J_imul F dX9_isHeld_23 ?_
    refine J_iadd F dX9_isHeld_24 ?_
    refine J_iln F 1 dX9_isHeld_25 rfl rfl ?_
    refine J_iadd F dX9_isHeld_26 ?_
    obtain ⟨h_3, h⟩ := h
    refine J_iald F ly_245 h_3 dX9_isHeld_27 ?_
    refine J_ic F dX9_isHeld_28 ki_1 ?_
    refine J_cne F (tgt := 36) dX9_isHeld_29 (by decide) (fun c_4 => ?_) (fun c_4 => ?_)
    · have h := h.1 c_4
      refine J_ic F dX9_isHeld_36 ki_0 ?_
      exact J_retz F (Or.inl rfl) ⟨_, rfl, rfl, h⟩ dX9_isHeld_37
    · have h := h.2 c_4
      refine J_ic F dX9_isHeld_32 ki_1 ?_
      refine J_goto F (tgt := 37) dX9_isHeld_33 (by decide) ?_
      exact J_retz F (Or.inr rfl) ⟨_, rfl, rfl, h⟩ dX9_isHeld_37
theorem dX9_heldIn_0 : decode cX9_heldIn 0 = .ok (.iconst 0, 1) := by decide +kernel
theorem dX9_heldIn_1 : decode cX9_heldIn 1 = .ok (.istore_n 2, 1) := by decide +kernel
theorem dX9_heldIn_2 : decode cX9_heldIn 2 = .ok (.iconst 0, 1) := by decide +kernel
theorem dX9_heldIn_3 : decode cX9_heldIn 3 = .ok (.istore_n 3, 1) := by decide +kernel
theorem dX9_heldIn_4 : decode cX9_heldIn 4 = .ok (.iload_n 3, 1) := by decide +kernel
theorem dX9_heldIn_5 : decode cX9_heldIn 5 = .ok (.aload_n 0, 1) := by decide +kernel
theorem dX9_heldIn_6 : decode cX9_heldIn 6 = .ok (.getfield 7, 3) := by decide +kernel
theorem dX9_heldIn_9 : decode cX9_heldIn 9 = .ok (.bipush 37, 2) := by decide +kernel
theorem dX9_heldIn_11 : decode cX9_heldIn 11 = .ok (.iaload, 1) := by decide +kernel
theorem dX9_heldIn_12 : decode cX9_heldIn 12 = .ok (.if_icmp .ge 28, 3) := by decide +kernel
theorem dX9_heldIn_15 : decode cX9_heldIn 15 = .ok (.iload_n 2, 1) := by decide +kernel
theorem dX9_heldIn_16 : decode cX9_heldIn 16 = .ok (.aload_n 0, 1) := by decide +kernel
theorem dX9_heldIn_17 : decode cX9_heldIn 17 = .ok (.iload_n 1, 1) := by decide +kernel
theorem dX9_heldIn_18 : decode cX9_heldIn 18 = .ok (.iload_n 3, 1) := by decide +kernel
theorem dX9_heldIn_19 : decode cX9_heldIn 19 = .ok (.invokevirtual 165, 3) := by decide +kernel
theorem dX9_heldIn_22 : decode cX9_heldIn 22 = .ok (.ifCond .eq 9, 3) := by decide +kernel
theorem dX9_heldIn_25 : decode cX9_heldIn 25 = .ok (.iconst 1, 1) := by decide +kernel
theorem dX9_heldIn_26 : decode cX9_heldIn 26 = .ok (.iload_n 3, 1) := by decide +kernel
theorem dX9_heldIn_27 : decode cX9_heldIn 27 = .ok (.ishl, 1) := by decide +kernel
theorem dX9_heldIn_28 : decode cX9_heldIn 28 = .ok (.goto 4, 3) := by decide +kernel
theorem dX9_heldIn_31 : decode cX9_heldIn 31 = .ok (.iconst 0, 1) := by decide +kernel
theorem dX9_heldIn_32 : decode cX9_heldIn 32 = .ok (.ior, 1) := by decide +kernel
theorem dX9_heldIn_33 : decode cX9_heldIn 33 = .ok (.istore_n 2, 1) := by decide +kernel
theorem dX9_heldIn_34 : decode cX9_heldIn 34 = .ok (.iinc 3 1, 3) := by decide +kernel
theorem dX9_heldIn_37 : decode cX9_heldIn 37 = .ok (.goto (-33), 3) := by decide +kernel
theorem dX9_heldIn_40 : decode cX9_heldIn 40 = .ok (.iload_n 2, 1) := by decide +kernel
theorem dX9_heldIn_41 : decode cX9_heldIn 41 = .ok (.ireturn, 1) := by decide +kernel
set_option maxRecDepth 20000 in
set_option maxHeartbeats 4000000 in
theorem wk_X9_heldIn_4 {p : Program} {l : Launch} {e : Env} {s : State} {m : MethodId} {args : Array Value} {below : List Frame} {meth : Method} {c : Code} {G : Gp} {σ : St} {x1 : Int32}  {Q : Int32 → Prop} (F : FX p s m args meth c cX9_heldIn 4 (some .int) RX9 G)   : ∀ (n9 : Nat) (x2 : Int32) (x3 : Int32), LP2 (wp_X9_heldIn_4 σ x1 Q) n9 x2 x3 → J p l e (rmF 1 22) s m args below meth c 4 G (MQ below (QQ G (qI (fun r σ' => σ' = σ ∧ Q r))) args s 0 0 (fr G)) 0 0 4 [(0, .ref (gb G + 244)), (1, .int x1), (2, .int x2), (3, .int x3)] [] σ := by
  intro n9
  induction n9 with
  | zero => intro x2 x3 h; exact h.elim
  | succ n9 i4 =>
    intro x2 x3 h
    have h : wp_X9_heldIn_4 σ x1 Q (LP2 (wp_X9_heldIn_4 σ x1 Q) n9) x2 x3 := h
    unfold wp_X9_heldIn_4 at h
    refine J_iln F 3 dX9_heldIn_4 rfl rfl ?_
    refine J_aln F 0 dX9_heldIn_5 rfl rfl ?_
    refine J_gfa F (ci := 9) 1 rfl inX9 ly_244 (by decide) (by decide) rfl lf_X9_7 rfl dX9_heldIn_6 ?_
    refine J_bi F dX9_heldIn_9 kb_37 ?_
    refine J_ialdc F ly_245 (by decide) (by decide) dX9_heldIn_11 ?_
    refine J_cge F (tgt := 40) dX9_heldIn_12 (by decide) (fun c_1 => ?_) (fun c_1 => ?_)
    · have h := h.1 c_1
      refine J_iln F 2 dX9_heldIn_40 rfl rfl ?_
      exact J_reti F ⟨_, rfl, rfl, h⟩ dX9_heldIn_41
    · have h := h.2 c_1
      refine J_iln F 2 dX9_heldIn_15 rfl rfl ?_
      refine J_aln F 0 dX9_heldIn_16 rfl rfl ?_
      refine J_iln F 1 dX9_heldIn_17 rfl rfl ?_
      refine J_iln F 3 dX9_heldIn_18 rfl rfl ?_
      refine J_callVi F (As := [.int x1, .int x3]) (st := [.int x2]) (C_X9_isHeld l G x1 x3  h) (ci := 9) ly_244 (by decide) rfl rfl lm_X9_165 li_X9_isHeld ls_X9_isHeld ini_X9 lc_X9_isHeld hd_X9_isHeld (by decide) (Nat.le_of_ble_eq_true rfl) (by decide) rfl dX9_heldIn_19 (fun r_2 σ_3 hh => ?_)
      clear h
      obtain ⟨e9, h⟩ := hh
      subst σ_3
      refine J_zeq F (tgt := 31) dX9_heldIn_22 (by decide) (fun c_4 => ?_) (fun c_4 => ?_)
      · have h := h.1 c_4
        refine J_ic F dX9_heldIn_31 ki_0 ?_
        refine J_ior F dX9_heldIn_32 ?_
        refine J_top (fun x2_5 ex2_5 => ?_)
        have h := h x2_5 ex2_5
        refine J_isn F (L' := [(2, .int x2_5), (0, .ref (gb G + 244)), (1, .int x1), (3, .int x3)]) dX9_heldIn_33 rfl (by decide) rfl ?_
        obtain ⟨x3_6, ex3_6⟩ : ∃ z : Int32, z = x3 + (nI 1) := ⟨_, rfl⟩
        have h := h x3_6 ex3_6
        refine J_iinc F (v := x3_6) (L' := [(3, .int x3_6), (2, .int x2_5), (0, .ref (gb G + 244)), (1, .int x1)]) 3 dX9_heldIn_34 rfl (by rw [ki_1, ex3_6]) (by decide) rfl ?_
        refine J_goto F (tgt := 4) dX9_heldIn_37 (by decide) ?_
        refine J_sub [2, 3, 1, 0] rfl ?_
        exact i4 _ _ h
      · have h := h.2 c_4
        refine J_ic F dX9_heldIn_25 ki_1 ?_
        refine J_iln F 3 dX9_heldIn_26 rfl rfl ?_
        refine J_ishl F dX9_heldIn_27 ?_
        refine J_goto F (tgt := 32) dX9_heldIn_28 (by decide) ?_
        refine J_ior F dX9_heldIn_32 ?_
        refine J_top (fun x2_7 ex2_7 => ?_)
        have h := h x2_7 ex2_7
        refine J_isn F (L' := [(2, .int x2_7), (0, .ref (gb G + 244)), (1, .int x1), (3, .int x3)]) dX9_heldIn_33 rfl (by decide) rfl ?_
        obtain ⟨x3_8, ex3_8⟩ : ∃ z : Int32, z = x3 + (nI 1) := ⟨_, rfl⟩
        have h := h x3_8 ex3_8
        refine J_iinc F (v := x3_8) (L' := [(3, .int x3_8), (2, .int x2_7), (0, .ref (gb G + 244)), (1, .int x1)]) 3 dX9_heldIn_34 rfl (by rw [ki_1, ex3_8]) (by decide) rfl ?_
        refine J_goto F (tgt := 4) dX9_heldIn_37 (by decide) ?_
        refine J_sub [2, 3, 1, 0] rfl ?_
        exact i4 _ _ h
set_option maxRecDepth 20000 in
set_option maxHeartbeats 4000000 in
theorem C_X9_heldIn (l : Launch) (G : Gp) (x1 : Int32)  {σ : St} {Q : Int32 → Prop} (h : wp_X9_heldIn σ x1 Q) : Cn l yX9_heldIn cX9_heldIn 4 (some .int) 1 22 G [.ref (gb G + 244), .int x1] σ (qI (fun r σ' => σ' = σ ∧ Q r)) := by
  refine Cn_of (L := [(0, .ref (gb G + 244)), (1, .int x1)]) RX9 (by decide) rfl (Nat.le_of_ble_eq_true rfl) rfl ?_
  intro p e s m below meth c F
  unfold wp_X9_heldIn at h
  refine J_ic F dX9_heldIn_0 ki_0 ?_
  refine J_isn F (L' := [(2, .int (nI 0)), (0, .ref (gb G + 244)), (1, .int x1)]) dX9_heldIn_1 rfl (by decide) rfl ?_
  refine J_ic F dX9_heldIn_2 ki_0 ?_
  refine J_isn F (L' := [(3, .int (nI 0)), (2, .int (nI 0)), (0, .ref (gb G + 244)), (1, .int x1)]) dX9_heldIn_3 rfl (by decide) rfl ?_
  refine J_sub [2, 3, 1, 0] rfl ?_
  obtain ⟨n9, h⟩ := h
  exact wk_X9_heldIn_4 F  n9 _ _ h
theorem dX9_canHold_0 : decode cX9_canHold 0 = .ok (.aload_n 0, 1) := by decide +kernel
theorem dX9_canHold_1 : decode cX9_canHold 1 = .ok (.iload_n 1, 1) := by decide +kernel
theorem dX9_canHold_2 : decode cX9_canHold 2 = .ok (.iload_n 2, 1) := by decide +kernel
theorem dX9_canHold_3 : decode cX9_canHold 3 = .ok (.invokevirtual 168, 3) := by decide +kernel
theorem dX9_canHold_6 : decode cX9_canHold 6 = .ok (.istore_n 3, 1) := by decide +kernel
theorem dX9_canHold_7 : decode cX9_canHold 7 = .ok (.iload_n 3, 1) := by decide +kernel
theorem dX9_canHold_8 : decode cX9_canHold 8 = .ok (.iconst (-1), 1) := by decide +kernel
theorem dX9_canHold_9 : decode cX9_canHold 9 = .ok (.if_icmp .eq 16, 3) := by decide +kernel
theorem dX9_canHold_12 : decode cX9_canHold 12 = .ok (.aload_n 0, 1) := by decide +kernel
theorem dX9_canHold_13 : decode cX9_canHold 13 = .ok (.iload_n 3, 1) := by decide +kernel
theorem dX9_canHold_14 : decode cX9_canHold 14 = .ok (.iconst 1, 1) := by decide +kernel
theorem dX9_canHold_15 : decode cX9_canHold 15 = .ok (.invokevirtual 57, 3) := by decide +kernel
theorem dX9_canHold_18 : decode cX9_canHold 18 = .ok (.ifCond .eq 7, 3) := by decide +kernel
theorem dX9_canHold_21 : decode cX9_canHold 21 = .ok (.iconst 1, 1) := by decide +kernel
theorem dX9_canHold_22 : decode cX9_canHold 22 = .ok (.goto 4, 3) := by decide +kernel
theorem dX9_canHold_25 : decode cX9_canHold 25 = .ok (.iconst 0, 1) := by decide +kernel
theorem dX9_canHold_26 : decode cX9_canHold 26 = .ok (.ireturn, 1) := by decide +kernel
set_option maxRecDepth 20000 in
set_option maxHeartbeats 4000000 in
theorem C_X9_canHold (l : Launch) (G : Gp) (x1 : Int32) (x2 : Int32)  {σ : St} {Q : Int32 → St → Prop} (h : wp_X9_canHold σ x1 x2 Q) : Cn l yX9_canHold cX9_canHold 4 (some .boolean) 6 137 G [.ref (gb G + 244), .int x1, .int x2] σ (qI Q) := by
  refine Cn_of (L := [(0, .ref (gb G + 244)), (1, .int x1), (2, .int x2)]) RX9 (by decide) rfl (Nat.le_of_ble_eq_true rfl) rfl ?_
  intro p e s m below meth c F
  unfold wp_X9_canHold at h
  refine J_aln F 0 dX9_canHold_0 rfl rfl ?_
  refine J_iln F 1 dX9_canHold_1 rfl rfl ?_
  refine J_iln F 2 dX9_canHold_2 rfl rfl ?_
  refine J_callVi F (As := [.int x1, .int x2]) (st := []) (C_X9_keeperOf l G x1 x2  h) (ci := 9) ly_244 (by decide) rfl rfl lm_X9_168 li_X9_keeperOf ls_X9_keeperOf ini_X9 lc_X9_keeperOf hd_X9_keeperOf (by decide) (Nat.le_of_ble_eq_true rfl) (by decide) rfl dX9_canHold_3 (fun r_1 σ_2 h => ?_)
  refine J_isn F (L' := [(3, .int r_1), (0, .ref (gb G + 244)), (1, .int x1), (2, .int x2)]) dX9_canHold_6 rfl (by decide) rfl ?_
  refine J_iln F 0 dX9_canHold_7 rfl rfl ?_
  refine J_ic F dX9_canHold_8 ki_m1 ?_
  refine J_ceq F (tgt := 25) dX9_canHold_9 (by decide) (fun c_3 => ?_) (fun c_3 => ?_)
  · have h := h.1 c_3
    refine J_ic F dX9_canHold_25 ki_0 ?_
    exact J_retz F (Or.inl rfl) ⟨_, rfl, h⟩ dX9_canHold_26
  · have h := h.2 c_3
    refine J_aln F 1 dX9_canHold_12 rfl rfl ?_
    refine J_iln F 0 dX9_canHold_13 rfl rfl ?_
    refine J_ic F dX9_canHold_14 ki_1 ?_
    refine J_callVi F (As := [.int r_1, .int (nI 1)]) (st := []) (C_X9_isState l G r_1 (nI 1)  h) (ci := 9) ly_244 (by decide) rfl rfl lm_X9_57 li_X9_isState ls_X9_isState ini_X9 lc_X9_isState hd_X9_isState (by decide) (Nat.le_of_ble_eq_true rfl) (by decide) rfl dX9_canHold_15 (fun r_4 σ_5 hh => ?_)
    clear h
    obtain ⟨e9, h⟩ := hh
    subst σ_5
    refine J_zeq F (tgt := 25) dX9_canHold_18 (by decide) (fun c_6 => ?_) (fun c_6 => ?_)
    · have h := h.1 c_6
      refine J_ic F dX9_canHold_25 ki_0 ?_
      exact J_retz F (Or.inl rfl) ⟨_, rfl, h⟩ dX9_canHold_26
    · have h := h.2 c_6
      refine J_ic F dX9_canHold_21 ki_1 ?_
      refine J_goto F (tgt := 26) dX9_canHold_22 (by decide) ?_
      exact J_retz F (Or.inr rfl) ⟨_, rfl, h⟩ dX9_canHold_26
theorem dX9_clearsAll_0 : decode cX9_clearsAll 0 = .ok (.iconst 0, 1) := by decide +kernel
theorem dX9_clearsAll_1 : decode cX9_clearsAll 1 = .ok (.istore_n 2, 1) := by decide +kernel
theorem dX9_clearsAll_2 : decode cX9_clearsAll 2 = .ok (.iload_n 2, 1) := by decide +kernel
theorem dX9_clearsAll_3 : decode cX9_clearsAll 3 = .ok (.sipush 6682, 3) := by decide +kernel
theorem dX9_clearsAll_6 : decode cX9_clearsAll 6 = .ok (.if_icmp .ge 16, 3) := by decide +kernel
theorem dX9_clearsAll_9 : decode cX9_clearsAll 9 = .ok (.aload_n 0, 1) := by decide +kernel
theorem dX9_clearsAll_10 : decode cX9_clearsAll 10 = .ok (.getfield 7, 3) := by decide +kernel
theorem dX9_clearsAll_13 : decode cX9_clearsAll 13 = .ok (.iload_n 2, 1) := by decide +kernel
theorem dX9_clearsAll_14 : decode cX9_clearsAll 14 = .ok (.iconst 0, 1) := by decide +kernel
theorem dX9_clearsAll_15 : decode cX9_clearsAll 15 = .ok (.iastore, 1) := by decide +kernel
theorem dX9_clearsAll_16 : decode cX9_clearsAll 16 = .ok (.iinc 2 1, 3) := by decide +kernel
theorem dX9_clearsAll_19 : decode cX9_clearsAll 19 = .ok (.goto (-17), 3) := by decide +kernel
theorem dX9_clearsAll_22 : decode cX9_clearsAll 22 = .ok (.aload_n 0, 1) := by decide +kernel
theorem dX9_clearsAll_23 : decode cX9_clearsAll 23 = .ok (.getfield 7, 3) := by decide +kernel
theorem dX9_clearsAll_26 : decode cX9_clearsAll 26 = .ok (.bipush 37, 2) := by decide +kernel
theorem dX9_clearsAll_28 : decode cX9_clearsAll 28 = .ok (.iload_n 1, 1) := by decide +kernel
theorem dX9_clearsAll_29 : decode cX9_clearsAll 29 = .ok (.iastore, 1) := by decide +kernel
theorem dX9_clearsAll_30 : decode cX9_clearsAll 30 = .ok (.return_, 1) := by decide +kernel
set_option maxRecDepth 20000 in
set_option maxHeartbeats 4000000 in
theorem wk_X9_clearsAll_2 {p : Program} {l : Launch} {e : Env} {s : State} {m : MethodId} {args : Array Value} {below : List Frame} {meth : Method} {c : Code} {G : Gp} {x1 : Int32}  {Q : St → Prop} (F : FX p s m args meth c cX9_clearsAll 3 none RX9 G)   : ∀ (n9 : Nat) (σ : St) (x2 : Int32), LP2 (wp_X9_clearsAll_2 x1 Q) n9 σ x2 → J p l e (rmF 0 0) s m args below meth c 3 G (MQ below (QQ G (qV Q)) args s 0 0 (fr G)) 0 0 2 [(0, .ref (gb G + 244)), (1, .int x1), (2, .int x2)] [] σ := by
  intro n9
  induction n9 with
  | zero => intro σ x2 h; exact h.elim
  | succ n9 i2 =>
    intro σ x2 h
    have h : wp_X9_clearsAll_2 x1 Q (LP2 (wp_X9_clearsAll_2 x1 Q) n9) σ x2 := h
    unfold wp_X9_clearsAll_2 at h
    refine J_iln F 2 dX9_clearsAll_2 rfl rfl ?_
    refine J_si F dX9_clearsAll_3 ks_6682 ?_
    refine J_cge F (tgt := 22) dX9_clearsAll_6 (by decide) (fun c_1 => ?_) (fun c_1 => ?_)
    · have h := h.1 c_1
      refine J_aln F 0 dX9_clearsAll_22 rfl rfl ?_
      refine J_gfa F (ci := 9) 1 rfl inX9 ly_244 (by decide) (by decide) rfl lf_X9_7 rfl dX9_clearsAll_23 ?_
      refine J_bi F dX9_clearsAll_26 kb_37 ?_
      refine J_iln F 1 dX9_clearsAll_28 rfl rfl ?_
      refine J_iastc F ly_245 (by decide) (by decide) dX9_clearsAll_29 ?_
      refine J_st (fun σ_2 eσ_2 => ?_)
      have h := h σ_2 eσ_2
      exact J_retv F ⟨rfl, h⟩ dX9_clearsAll_30
    · have h := h.2 c_1
      refine J_aln F 0 dX9_clearsAll_9 rfl rfl ?_
      refine J_gfa F (ci := 9) 1 rfl inX9 ly_244 (by decide) (by decide) rfl lf_X9_7 rfl dX9_clearsAll_10 ?_
      refine J_iln F 2 dX9_clearsAll_13 rfl rfl ?_
      refine J_ic F dX9_clearsAll_14 ki_0 ?_
      obtain ⟨h_3, h⟩ := h
      refine J_iast F ly_245 h_3 dX9_clearsAll_15 ?_
      refine J_st (fun σ_4 eσ_4 => ?_)
      have h := h σ_4 eσ_4
      obtain ⟨x2_5, ex2_5⟩ : ∃ z : Int32, z = x2 + (nI 1) := ⟨_, rfl⟩
      have h := h x2_5 ex2_5
      refine J_iinc F (v := x2_5) (L' := [(2, .int x2_5), (0, .ref (gb G + 244)), (1, .int x1)]) 2 dX9_clearsAll_16 rfl (by rw [ki_1, ex2_5]) (by decide) rfl ?_
      refine J_goto F (tgt := 2) dX9_clearsAll_19 (by decide) ?_
      refine J_sub [1, 2, 0] rfl ?_
      exact i2 _ _ h
set_option maxRecDepth 20000 in
set_option maxHeartbeats 4000000 in
theorem C_X9_clearsAll (l : Launch) (G : Gp) (x1 : Int32)  {σ : St} {Q : St → Prop} (h : wp_X9_clearsAll σ x1 Q) : Cn l yX9_clearsAll cX9_clearsAll 3 none 0 0 G [.ref (gb G + 244), .int x1] σ (qV Q) := by
  refine Cn_of (L := [(0, .ref (gb G + 244)), (1, .int x1)]) RX9 (by decide) rfl (Nat.le_of_ble_eq_true rfl) rfl ?_
  intro p e s m below meth c F
  unfold wp_X9_clearsAll at h
  refine J_ic F dX9_clearsAll_0 ki_0 ?_
  refine J_isn F (L' := [(2, .int (nI 0)), (0, .ref (gb G + 244)), (1, .int x1)]) dX9_clearsAll_1 rfl (by decide) rfl ?_
  refine J_sub [1, 2, 0] rfl ?_
  obtain ⟨n9, h⟩ := h
  exact wk_X9_clearsAll_2 F  n9 _ _ h
theorem dX9_landmark0_0 : decode cX9_landmark0 0 = .ok (.aload_n 0, 1) := by decide +kernel
theorem dX9_landmark0_1 : decode cX9_landmark0 1 = .ok (.getfield 7, 3) := by decide +kernel
theorem dX9_landmark0_4 : decode cX9_landmark0 4 = .ok (.bipush 30, 2) := by decide +kernel
theorem dX9_landmark0_6 : decode cX9_landmark0 6 = .ok (.iaload, 1) := by decide +kernel
theorem dX9_landmark0_7 : decode cX9_landmark0 7 = .ok (.iconst 3, 1) := by decide +kernel
theorem dX9_landmark0_8 : decode cX9_landmark0 8 = .ok (.if_icmp .ne 6, 3) := by decide +kernel
theorem dX9_landmark0_11 : decode cX9_landmark0 11 = .ok (.bipush 10, 2) := by decide +kernel
theorem dX9_landmark0_13 : decode cX9_landmark0 13 = .ok (.ireturn, 1) := by decide +kernel
theorem dX9_landmark0_14 : decode cX9_landmark0 14 = .ok (.aload_n 0, 1) := by decide +kernel
theorem dX9_landmark0_15 : decode cX9_landmark0 15 = .ok (.getfield 7, 3) := by decide +kernel
theorem dX9_landmark0_18 : decode cX9_landmark0 18 = .ok (.bipush 31, 2) := by decide +kernel
theorem dX9_landmark0_20 : decode cX9_landmark0 20 = .ok (.aload_n 0, 1) := by decide +kernel
theorem dX9_landmark0_21 : decode cX9_landmark0 21 = .ok (.getfield 7, 3) := by decide +kernel
theorem dX9_landmark0_24 : decode cX9_landmark0 24 = .ok (.bipush 30, 2) := by decide +kernel
theorem dX9_landmark0_26 : decode cX9_landmark0 26 = .ok (.iaload, 1) := by decide +kernel
theorem dX9_landmark0_27 : decode cX9_landmark0 27 = .ok (.iadd, 1) := by decide +kernel
theorem dX9_landmark0_28 : decode cX9_landmark0 28 = .ok (.iload_n 1, 1) := by decide +kernel
theorem dX9_landmark0_29 : decode cX9_landmark0 29 = .ok (.iastore, 1) := by decide +kernel
theorem dX9_landmark0_30 : decode cX9_landmark0 30 = .ok (.aload_n 0, 1) := by decide +kernel
theorem dX9_landmark0_31 : decode cX9_landmark0 31 = .ok (.getfield 7, 3) := by decide +kernel
theorem dX9_landmark0_34 : decode cX9_landmark0 34 = .ok (.bipush 34, 2) := by decide +kernel
theorem dX9_landmark0_36 : decode cX9_landmark0 36 = .ok (.aload_n 0, 1) := by decide +kernel
theorem dX9_landmark0_37 : decode cX9_landmark0 37 = .ok (.getfield 7, 3) := by decide +kernel
theorem dX9_landmark0_40 : decode cX9_landmark0 40 = .ok (.bipush 30, 2) := by decide +kernel
theorem dX9_landmark0_42 : decode cX9_landmark0 42 = .ok (.iaload, 1) := by decide +kernel
theorem dX9_landmark0_43 : decode cX9_landmark0 43 = .ok (.iadd, 1) := by decide +kernel
theorem dX9_landmark0_44 : decode cX9_landmark0 44 = .ok (.iload_n 2, 1) := by decide +kernel
theorem dX9_landmark0_45 : decode cX9_landmark0 45 = .ok (.iastore, 1) := by decide +kernel
theorem dX9_landmark0_46 : decode cX9_landmark0 46 = .ok (.aload_n 0, 1) := by decide +kernel
theorem dX9_landmark0_47 : decode cX9_landmark0 47 = .ok (.getfield 7, 3) := by decide +kernel
theorem dX9_landmark0_50 : decode cX9_landmark0 50 = .ok (.bipush 30, 2) := by decide +kernel
theorem dX9_landmark0_52 : decode cX9_landmark0 52 = .ok (.dup2, 1) := by decide +kernel
theorem dX9_landmark0_53 : decode cX9_landmark0 53 = .ok (.iaload, 1) := by decide +kernel
theorem dX9_landmark0_54 : decode cX9_landmark0 54 = .ok (.iconst 1, 1) := by decide +kernel
theorem dX9_landmark0_55 : decode cX9_landmark0 55 = .ok (.iadd, 1) := by decide +kernel
theorem dX9_landmark0_56 : decode cX9_landmark0 56 = .ok (.iastore, 1) := by decide +kernel
theorem dX9_landmark0_57 : decode cX9_landmark0 57 = .ok (.iconst 0, 1) := by decide +kernel
theorem dX9_landmark0_58 : decode cX9_landmark0 58 = .ok (.ireturn, 1) := by decide +kernel
set_option maxRecDepth 20000 in
set_option maxHeartbeats 4000000 in
theorem C_X9_landmark0 (l : Launch) (G : Gp) (x1 : Int32) (x2 : Int32)  {σ : St} {Q : Int32 → St → Prop} (h : wp_X9_landmark0 σ x1 x2 Q) : Cn l yX9_landmark0 cX9_landmark0 3 (some .int) 0 0 G [.ref (gb G + 244), .int x1, .int x2] σ (qI Q) := by
  refine Cn_of (L := [(0, .ref (gb G + 244)), (1, .int x1), (2, .int x2)]) RX9 (by decide) rfl (Nat.le_of_ble_eq_true rfl) rfl ?_
  intro p e s m below meth c F
  unfold wp_X9_landmark0 at h
  refine J_aln F 0 dX9_landmark0_0 rfl rfl ?_
  refine J_gfa F (ci := 9) 1 rfl inX9 ly_244 (by decide) (by decide) rfl lf_X9_7 rfl dX9_landmark0_1 ?_
  refine J_bi F dX9_landmark0_4 kb_30 ?_
  refine J_ialdc F ly_245 (by decide) (by decide) dX9_landmark0_6 ?_
  refine J_ic F dX9_landmark0_7 ki_3 ?_
  refine J_cne F (tgt := 14) dX9_landmark0_8 (by decide) (fun c_1 => ?_) (fun c_1 => ?_)
  · have h := h.1 c_1
    refine J_aln F 0 dX9_landmark0_14 rfl rfl ?_
    refine J_gfa F (ci := 9) 1 rfl inX9 ly_244 (by decide) (by decide) rfl lf_X9_7 rfl dX9_landmark0_15 ?_
    refine J_bi F dX9_landmark0_18 kb_31 ?_
    refine J_aln F 0 dX9_landmark0_20 rfl rfl ?_
    refine J_gfa F (ci := 9) 1 rfl inX9 ly_244 (by decide) (by decide) rfl lf_X9_7 rfl dX9_landmark0_21 ?_
    refine J_bi F dX9_landmark0_24 kb_30 ?_
    refine J_ialdc F ly_245 (by decide) (by decide) dX9_landmark0_26 ?_
    refine J_iadd F dX9_landmark0_27 ?_
    refine J_iln F 1 dX9_landmark0_28 rfl rfl ?_
    obtain ⟨h_2, h⟩ := h
    refine J_iast F ly_245 h_2 dX9_landmark0_29 ?_
    refine J_st (fun σ_3 eσ_3 => ?_)
    have h := h σ_3 eσ_3
    refine J_aln F 0 dX9_landmark0_30 rfl rfl ?_
    refine J_gfa F (ci := 9) 1 rfl inX9 ly_244 (by decide) (by decide) rfl lf_X9_7 rfl dX9_landmark0_31 ?_
    refine J_bi F dX9_landmark0_34 kb_34 ?_
    refine J_aln F 0 dX9_landmark0_36 rfl rfl ?_
    refine J_gfa F (ci := 9) 1 rfl inX9 ly_244 (by decide) (by decide) rfl lf_X9_7 rfl dX9_landmark0_37 ?_
    refine J_bi F dX9_landmark0_40 kb_30 ?_
    refine J_ialdc F ly_245 (by decide) (by decide) dX9_landmark0_42 ?_
    refine J_iadd F dX9_landmark0_43 ?_
    refine J_iln F 2 dX9_landmark0_44 rfl rfl ?_
    obtain ⟨h_4, h⟩ := h
    refine J_iast F ly_245 h_4 dX9_landmark0_45 ?_
    refine J_st (fun σ_5 eσ_5 => ?_)
    have h := h σ_5 eσ_5
    refine J_aln F 0 dX9_landmark0_46 rfl rfl ?_
    refine J_gfa F (ci := 9) 1 rfl inX9 ly_244 (by decide) (by decide) rfl lf_X9_7 rfl dX9_landmark0_47 ?_
    refine J_bi F dX9_landmark0_50 kb_30 ?_
    refine J_dup2 F dX9_landmark0_52 rfl rfl ?_
    refine J_ialdc F ly_245 (by decide) (by decide) dX9_landmark0_53 ?_
    refine J_ic F dX9_landmark0_54 ki_1 ?_
    refine J_iadd F dX9_landmark0_55 ?_
    refine J_iastc F ly_245 (by decide) (by decide) dX9_landmark0_56 ?_
    refine J_st (fun σ_6 eσ_6 => ?_)
    have h := h σ_6 eσ_6
    refine J_ic F dX9_landmark0_57 ki_0 ?_
    exact J_reti F ⟨_, rfl, h⟩ dX9_landmark0_58
  · have h := h.2 c_1
    refine J_bi F dX9_landmark0_11 kb_10 ?_
    exact J_reti F ⟨_, rfl, h⟩ dX9_landmark0_13
theorem dX9_turned_0 : decode cX9_turned 0 = .ok (.iload_n 0, 1) := by decide +kernel
theorem dX9_turned_1 : decode cX9_turned 1 = .ok (.iload_n 1, 1) := by decide +kernel
theorem dX9_turned_2 : decode cX9_turned 2 = .ok (.iadd, 1) := by decide +kernel
theorem dX9_turned_3 : decode cX9_turned 3 = .ok (.bipush 32, 2) := by decide +kernel
theorem dX9_turned_5 : decode cX9_turned 5 = .ok (.irem, 1) := by decide +kernel
theorem dX9_turned_6 : decode cX9_turned 6 = .ok (.ireturn, 1) := by decide +kernel
set_option maxRecDepth 20000 in
set_option maxHeartbeats 4000000 in
theorem C_X9_turned (l : Launch) (G : Gp) (x0 : Int32) (x1 : Int32)  {σ : St} {Q : Int32 → Prop} (h : wp_X9_turned σ x0 x1 Q) : Cn l yX9_turned cX9_turned 2 (some .int) 0 0 G [.int x0, .int x1] σ (qI (fun r σ' => σ' = σ ∧ Q r)) := by
  refine Cn_of (L := [(0, .int x0), (1, .int x1)]) RX9 (by decide) rfl (Nat.le_of_ble_eq_true rfl) rfl ?_
  intro p e s m below meth c F
  unfold wp_X9_turned at h
  refine J_iln F 0 dX9_turned_0 rfl rfl ?_
  refine J_iln F 1 dX9_turned_1 rfl rfl ?_
  refine J_iadd F dX9_turned_2 ?_
  refine J_bi F dX9_turned_3 kb_32 ?_
  refine J_irem F dX9_turned_5 nz_32 ?_
  exact J_reti F ⟨_, rfl, rfl, h⟩ dX9_turned_6
theorem dX9_parts_0 : decode cX9_parts 0 = .ok (.aload_n 0, 1) := by decide +kernel
theorem dX9_parts_1 : decode cX9_parts 1 = .ok (.iload_n 1, 1) := by decide +kernel
theorem dX9_parts_2 : decode cX9_parts 2 = .ok (.iload_n 2, 1) := by decide +kernel
theorem dX9_parts_3 : decode cX9_parts 3 = .ok (.iload_n 3, 1) := by decide +kernel
theorem dX9_parts_4 : decode cX9_parts 4 = .ok (.invokevirtual 102, 3) := by decide +kernel
theorem dX9_parts_7 : decode cX9_parts 7 = .ok (.istore 4, 2) := by decide +kernel
theorem dX9_parts_9 : decode cX9_parts 9 = .ok (.aload_n 0, 1) := by decide +kernel
theorem dX9_parts_10 : decode cX9_parts 10 = .ok (.iload_n 1, 1) := by decide +kernel
theorem dX9_parts_11 : decode cX9_parts 11 = .ok (.iload 4, 2) := by decide +kernel
theorem dX9_parts_13 : decode cX9_parts 13 = .ok (.invokevirtual 95, 3) := by decide +kernel
theorem dX9_parts_16 : decode cX9_parts 16 = .ok (.istore 5, 2) := by decide +kernel
theorem dX9_parts_18 : decode cX9_parts 18 = .ok (.aload_n 0, 1) := by decide +kernel
theorem dX9_parts_19 : decode cX9_parts 19 = .ok (.iload 4, 2) := by decide +kernel
theorem dX9_parts_21 : decode cX9_parts 21 = .ok (.iload_n 2, 1) := by decide +kernel
theorem dX9_parts_22 : decode cX9_parts 22 = .ok (.iload_n 3, 1) := by decide +kernel
theorem dX9_parts_23 : decode cX9_parts 23 = .ok (.invokevirtual 98, 3) := by decide +kernel
theorem dX9_parts_26 : decode cX9_parts 26 = .ok (.istore 6, 2) := by decide +kernel
theorem dX9_parts_28 : decode cX9_parts 28 = .ok (.aload_n 0, 1) := by decide +kernel
theorem dX9_parts_29 : decode cX9_parts 29 = .ok (.iload_n 1, 1) := by decide +kernel
theorem dX9_parts_30 : decode cX9_parts 30 = .ok (.iload 4, 2) := by decide +kernel
theorem dX9_parts_32 : decode cX9_parts 32 = .ok (.iconst (-1), 1) := by decide +kernel
theorem dX9_parts_33 : decode cX9_parts 33 = .ok (.invokevirtual 105, 3) := by decide +kernel
theorem dX9_parts_36 : decode cX9_parts 36 = .ok (.aload_n 0, 1) := by decide +kernel
theorem dX9_parts_37 : decode cX9_parts 37 = .ok (.iload_n 1, 1) := by decide +kernel
theorem dX9_parts_38 : decode cX9_parts 38 = .ok (.iload 6, 2) := by decide +kernel
theorem dX9_parts_40 : decode cX9_parts 40 = .ok (.aload_n 0, 1) := by decide +kernel
theorem dX9_parts_41 : decode cX9_parts 41 = .ok (.getfield 171, 3) := by decide +kernel
theorem dX9_parts_44 : decode cX9_parts 44 = .ok (.invokevirtual 105, 3) := by decide +kernel
theorem dX9_parts_47 : decode cX9_parts 47 = .ok (.aload_n 0, 1) := by decide +kernel
theorem dX9_parts_48 : decode cX9_parts 48 = .ok (.iload_n 1, 1) := by decide +kernel
theorem dX9_parts_49 : decode cX9_parts 49 = .ok (.iload 6, 2) := by decide +kernel
theorem dX9_parts_51 : decode cX9_parts 51 = .ok (.iconst 1, 1) := by decide +kernel
theorem dX9_parts_52 : decode cX9_parts 52 = .ok (.ixor, 1) := by decide +kernel
theorem dX9_parts_53 : decode cX9_parts 53 = .ok (.iload 5, 2) := by decide +kernel
theorem dX9_parts_55 : decode cX9_parts 55 = .ok (.invokevirtual 105, 3) := by decide +kernel
theorem dX9_parts_58 : decode cX9_parts 58 = .ok (.return_, 1) := by decide +kernel
set_option maxRecDepth 20000 in
set_option maxHeartbeats 4000000 in
theorem C_X9_parts (l : Launch) (G : Gp) (x1 : Int32) (x2 : Int32) (x3 : Int32)  {σ : St} {Q : St → Prop} (h : wp_X9_parts σ x1 x2 x3 Q) : Cn l yX9_parts cX9_parts 7 none 4 91 G [.ref (gb G + 244), .int x1, .int x2, .int x3] σ (qV Q) := by
  refine Cn_of (L := [(0, .ref (gb G + 244)), (1, .int x1), (2, .int x2), (3, .int x3)]) RX9 (by decide) rfl (Nat.le_of_ble_eq_true rfl) rfl ?_
  intro p e s m below meth c F
  unfold wp_X9_parts at h
  refine J_aln F 0 dX9_parts_0 rfl rfl ?_
  refine J_iln F 1 dX9_parts_1 rfl rfl ?_
  refine J_iln F 2 dX9_parts_2 rfl rfl ?_
  refine J_iln F 3 dX9_parts_3 rfl rfl ?_
  refine J_callVi F (As := [.int x1, .int x2, .int x3]) (st := []) (C_X9_zoneAt l G x1 x2 x3  h) (ci := 9) ly_244 (by decide) rfl rfl lm_X9_102 li_X9_zoneAt ls_X9_zoneAt ini_X9 lc_X9_zoneAt hd_X9_zoneAt (by decide) (Nat.le_of_ble_eq_true rfl) (by decide) rfl dX9_parts_4 (fun r_1 σ_2 h => ?_)
  refine J_is F (L' := [(4, .int r_1), (0, .ref (gb G + 244)), (1, .int x1), (2, .int x2), (3, .int x3)]) dX9_parts_7 (by decide) rfl ?_
  refine J_aln F 1 dX9_parts_9 rfl rfl ?_
  refine J_iln F 2 dX9_parts_10 rfl rfl ?_
  refine J_il F 0 dX9_parts_11 rfl ?_
  refine J_callVi F (As := [.int x1, .int r_1]) (st := []) (C_X9_ownerOf l G x1 r_1  h) (ci := 9) ly_244 (by decide) rfl rfl lm_X9_95 li_X9_ownerOf ls_X9_ownerOf ini_X9 lc_X9_ownerOf hd_X9_ownerOf (by decide) (Nat.le_of_ble_eq_true rfl) (by decide) rfl dX9_parts_13 (fun r_3 σ_4 hh => ?_)
  clear h
  obtain ⟨e9, h⟩ := hh
  subst σ_4
  refine J_is F (L' := [(5, .int r_3), (4, .int r_1), (0, .ref (gb G + 244)), (1, .int x1), (2, .int x2), (3, .int x3)]) dX9_parts_16 (by decide) rfl ?_
  refine J_aln F 2 dX9_parts_18 rfl rfl ?_
  refine J_il F 1 dX9_parts_19 rfl ?_
  refine J_iln F 4 dX9_parts_21 rfl rfl ?_
  refine J_iln F 5 dX9_parts_22 rfl rfl ?_
  refine J_callVi F (As := [.int r_1, .int x2, .int x3]) (st := []) (C_X9_halfWith l G r_1 x2 x3  h) (ci := 9) ly_244 (by decide) rfl rfl lm_X9_98 li_X9_halfWith ls_X9_halfWith ini_X9 lc_X9_halfWith hd_X9_halfWith (by decide) (Nat.le_of_ble_eq_true rfl) (by decide) rfl dX9_parts_23 (fun r_5 σ_6 h => ?_)
  refine J_is F (L' := [(6, .int r_5), (5, .int r_3), (4, .int r_1), (0, .ref (gb G + 244)), (1, .int x1), (2, .int x2), (3, .int x3)]) dX9_parts_26 (by decide) rfl ?_
  refine J_aln F 3 dX9_parts_28 rfl rfl ?_
  refine J_iln F 4 dX9_parts_29 rfl rfl ?_
  refine J_il F 2 dX9_parts_30 rfl ?_
  refine J_ic F dX9_parts_32 ki_m1 ?_
  refine J_callVv F (As := [.int x1, .int r_1, .int (-1)]) (st := []) (C_X9_owns l G x1 r_1 (-1)  h) (ci := 9) ly_244 (by decide) rfl rfl lm_X9_105 li_X9_owns ls_X9_owns ini_X9 lc_X9_owns hd_X9_owns (by decide) (Nat.le_of_ble_eq_true rfl) (by decide) rfl dX9_parts_33 (fun σ_7 h => ?_)
  refine J_aln F 3 dX9_parts_36 rfl rfl ?_
  refine J_iln F 4 dX9_parts_37 rfl rfl ?_
  refine J_il F 0 dX9_parts_38 rfl ?_
  refine J_aln F 3 dX9_parts_40 rfl rfl ?_
  refine J_gfi F (ci := 9) 28 rfl inX9 ly_244 (by decide) (by decide) rfl lf_X9_171 rfl dX9_parts_41 ?_
  refine J_callVv F (As := [.int x1, .int r_5, .int (σ_7 244 28)]) (st := []) (C_X9_owns l G x1 r_5 (σ_7 244 28)  h) (ci := 9) ly_244 (by decide) rfl rfl lm_X9_105 li_X9_owns ls_X9_owns ini_X9 lc_X9_owns hd_X9_owns (by decide) (Nat.le_of_ble_eq_true rfl) (by decide) rfl dX9_parts_44 (fun σ_8 h => ?_)
  refine J_aln F 3 dX9_parts_47 rfl rfl ?_
  refine J_iln F 4 dX9_parts_48 rfl rfl ?_
  refine J_il F 0 dX9_parts_49 rfl ?_
  refine J_ic F dX9_parts_51 ki_1 ?_
  refine J_ixor F dX9_parts_52 ?_
  refine J_il F 1 dX9_parts_53 rfl ?_
  refine J_callVv F (As := [.int x1, .int (r_5 ^^^ (nI 1)), .int r_3]) (st := []) (C_X9_owns l G x1 (r_5 ^^^ (nI 1)) r_3  h) (ci := 9) ly_244 (by decide) rfl rfl lm_X9_105 li_X9_owns ls_X9_owns ini_X9 lc_X9_owns hd_X9_owns (by decide) (Nat.le_of_ble_eq_true rfl) (by decide) rfl dX9_parts_55 (fun σ_9 h => ?_)
  exact J_retv F ⟨rfl, h⟩ dX9_parts_58
theorem dX9_join0_0 : decode cX9_join0 0 = .ok (.aload_n 0, 1) := by decide +kernel
theorem dX9_join0_1 : decode cX9_join0 1 = .ok (.iconst 0, 1) := by decide +kernel
theorem dX9_join0_2 : decode cX9_join0 2 = .ok (.putfield 171, 3) := by decide +kernel
theorem dX9_join0_5 : decode cX9_join0 5 = .ok (.aload_n 0, 1) := by decide +kernel
theorem dX9_join0_6 : decode cX9_join0 6 = .ok (.getfield 171, 3) := by decide +kernel
theorem dX9_join0_9 : decode cX9_join0 9 = .ok (.bipush 10, 2) := by decide +kernel
theorem dX9_join0_11 : decode cX9_join0 11 = .ok (.if_icmp .ge 28, 3) := by decide +kernel
theorem dX9_join0_14 : decode cX9_join0 14 = .ok (.aload_n 0, 1) := by decide +kernel
theorem dX9_join0_15 : decode cX9_join0 15 = .ok (.aload_n 0, 1) := by decide +kernel
theorem dX9_join0_16 : decode cX9_join0 16 = .ok (.getfield 171, 3) := by decide +kernel
theorem dX9_join0_19 : decode cX9_join0 19 = .ok (.iconst 0, 1) := by decide +kernel
theorem dX9_join0_20 : decode cX9_join0 20 = .ok (.invokevirtual 57, 3) := by decide +kernel
theorem dX9_join0_23 : decode cX9_join0 23 = .ok (.ifCond .ne 16, 3) := by decide +kernel
theorem dX9_join0_26 : decode cX9_join0 26 = .ok (.aload_n 0, 1) := by decide +kernel
theorem dX9_join0_27 : decode cX9_join0 27 = .ok (.dup, 1) := by decide +kernel
theorem dX9_join0_28 : decode cX9_join0 28 = .ok (.getfield 171, 3) := by decide +kernel
theorem dX9_join0_31 : decode cX9_join0 31 = .ok (.iconst 1, 1) := by decide +kernel
theorem dX9_join0_32 : decode cX9_join0 32 = .ok (.iadd, 1) := by decide +kernel
theorem dX9_join0_33 : decode cX9_join0 33 = .ok (.putfield 171, 3) := by decide +kernel
theorem dX9_join0_36 : decode cX9_join0 36 = .ok (.goto (-31), 3) := by decide +kernel
theorem dX9_join0_39 : decode cX9_join0 39 = .ok (.aload_n 0, 1) := by decide +kernel
theorem dX9_join0_40 : decode cX9_join0 40 = .ok (.getfield 171, 3) := by decide +kernel
theorem dX9_join0_43 : decode cX9_join0 43 = .ok (.bipush 10, 2) := by decide +kernel
theorem dX9_join0_45 : decode cX9_join0 45 = .ok (.if_icmp .ne 5, 3) := by decide +kernel
theorem dX9_join0_48 : decode cX9_join0 48 = .ok (.iconst 1, 1) := by decide +kernel
theorem dX9_join0_49 : decode cX9_join0 49 = .ok (.ireturn, 1) := by decide +kernel
theorem dX9_join0_50 : decode cX9_join0 50 = .ok (.aload_n 0, 1) := by decide +kernel
theorem dX9_join0_51 : decode cX9_join0 51 = .ok (.iconst 0, 1) := by decide +kernel
theorem dX9_join0_52 : decode cX9_join0 52 = .ok (.invokevirtual 92, 3) := by decide +kernel
theorem dX9_join0_55 : decode cX9_join0 55 = .ok (.bipush 10, 2) := by decide +kernel
theorem dX9_join0_57 : decode cX9_join0 57 = .ok (.if_icmp .ne 7, 3) := by decide +kernel
theorem dX9_join0_60 : decode cX9_join0 60 = .ok (.iconst 1, 1) := by decide +kernel
theorem dX9_join0_61 : decode cX9_join0 61 = .ok (.goto 4, 3) := by decide +kernel
theorem dX9_join0_64 : decode cX9_join0 64 = .ok (.iconst 0, 1) := by decide +kernel
theorem dX9_join0_65 : decode cX9_join0 65 = .ok (.istore 5, 2) := by decide +kernel
theorem dX9_join0_67 : decode cX9_join0 67 = .ok (.iconst 0, 1) := by decide +kernel
theorem dX9_join0_68 : decode cX9_join0 68 = .ok (.istore 6, 2) := by decide +kernel
theorem dX9_join0_70 : decode cX9_join0 70 = .ok (.iconst 0, 1) := by decide +kernel
theorem dX9_join0_71 : decode cX9_join0 71 = .ok (.istore 7, 2) := by decide +kernel
theorem dX9_join0_73 : decode cX9_join0 73 = .ok (.iload 7, 2) := by decide +kernel
theorem dX9_join0_75 : decode cX9_join0 75 = .ok (.aload_n 0, 1) := by decide +kernel
theorem dX9_join0_76 : decode cX9_join0 76 = .ok (.getfield 7, 3) := by decide +kernel
theorem dX9_join0_79 : decode cX9_join0 79 = .ok (.bipush 37, 2) := by decide +kernel
theorem dX9_join0_81 : decode cX9_join0 81 = .ok (.iaload, 1) := by decide +kernel
theorem dX9_join0_82 : decode cX9_join0 82 = .ok (.if_icmp .ge 78, 3) := by decide +kernel
theorem dX9_join0_85 : decode cX9_join0 85 = .ok (.iload 5, 2) := by decide +kernel
theorem dX9_join0_87 : decode cX9_join0 87 = .ok (.ifCond .ne 73, 3) := by decide +kernel
theorem dX9_join0_90 : decode cX9_join0 90 = .ok (.aload_n 0, 1) := by decide +kernel
theorem dX9_join0_91 : decode cX9_join0 91 = .ok (.iload 7, 2) := by decide +kernel
theorem dX9_join0_93 : decode cX9_join0 93 = .ok (.iload_n 3, 1) := by decide +kernel
theorem dX9_join0_94 : decode cX9_join0 94 = .ok (.bipush 11, 2) := by decide +kernel
theorem dX9_join0_96 : decode cX9_join0 96 = .ok (.iload 7, 2) := by decide +kernel
theorem dX9_join0_98 : decode cX9_join0 98 = .ok (.imul, 1) := by decide +kernel
theorem dX9_join0_99 : decode cX9_join0 99 = .ok (.invokestatic 174, 3) := by decide +kernel
theorem dX9_join0_102 : decode cX9_join0 102 = .ok (.iload 4, 2) := by decide +kernel
theorem dX9_join0_104 : decode cX9_join0 104 = .ok (.bipush 7, 2) := by decide +kernel
theorem dX9_join0_106 : decode cX9_join0 106 = .ok (.iload 7, 2) := by decide +kernel
theorem dX9_join0_108 : decode cX9_join0 108 = .ok (.imul, 1) := by decide +kernel
theorem dX9_join0_109 : decode cX9_join0 109 = .ok (.invokestatic 174, 3) := by decide +kernel
theorem dX9_join0_112 : decode cX9_join0 112 = .ok (.invokevirtual 102, 3) := by decide +kernel
theorem dX9_join0_115 : decode cX9_join0 115 = .ok (.istore 8, 2) := by decide +kernel
theorem dX9_join0_117 : decode cX9_join0 117 = .ok (.iload 8, 2) := by decide +kernel
theorem dX9_join0_119 : decode cX9_join0 119 = .ok (.invokestatic 73, 3) := by decide +kernel
theorem dX9_join0_122 : decode cX9_join0 122 = .ok (.bipush 10, 2) := by decide +kernel
theorem dX9_join0_124 : decode cX9_join0 124 = .ok (.if_icmp .ne 6, 3) := by decide +kernel
theorem dX9_join0_127 : decode cX9_join0 127 = .ok (.iconst 2, 1) := by decide +kernel
theorem dX9_join0_128 : decode cX9_join0 128 = .ok (.istore 6, 2) := by decide +kernel
theorem dX9_join0_130 : decode cX9_join0 130 = .ok (.iload 6, 2) := by decide +kernel
theorem dX9_join0_132 : decode cX9_join0 132 = .ok (.ifCond .ne 22, 3) := by decide +kernel
theorem dX9_join0_135 : decode cX9_join0 135 = .ok (.aload_n 0, 1) := by decide +kernel
theorem dX9_join0_136 : decode cX9_join0 136 = .ok (.aload_n 0, 1) := by decide +kernel
theorem dX9_join0_137 : decode cX9_join0 137 = .ok (.iload 7, 2) := by decide +kernel
theorem dX9_join0_139 : decode cX9_join0 139 = .ok (.iload 8, 2) := by decide +kernel
theorem dX9_join0_141 : decode cX9_join0 141 = .ok (.invokevirtual 95, 3) := by decide +kernel
theorem dX9_join0_144 : decode cX9_join0 144 = .ok (.iconst 2, 1) := by decide +kernel
theorem dX9_join0_145 : decode cX9_join0 145 = .ok (.invokevirtual 57, 3) := by decide +kernel
theorem dX9_join0_148 : decode cX9_join0 148 = .ok (.ifCond .eq 6, 3) := by decide +kernel
theorem dX9_join0_151 : decode cX9_join0 151 = .ok (.iconst 3, 1) := by decide +kernel
theorem dX9_join0_152 : decode cX9_join0 152 = .ok (.istore 6, 2) := by decide +kernel
theorem dX9_join0_154 : decode cX9_join0 154 = .ok (.iinc 7 1, 3) := by decide +kernel
theorem dX9_join0_157 : decode cX9_join0 157 = .ok (.goto (-84), 3) := by decide +kernel
theorem dX9_join0_160 : decode cX9_join0 160 = .ok (.iload 6, 2) := by decide +kernel
theorem dX9_join0_162 : decode cX9_join0 162 = .ok (.ifCond .le 6, 3) := by decide +kernel
theorem dX9_join0_165 : decode cX9_join0 165 = .ok (.iload 6, 2) := by decide +kernel
theorem dX9_join0_167 : decode cX9_join0 167 = .ok (.ireturn, 1) := by decide +kernel
theorem dX9_join0_168 : decode cX9_join0 168 = .ok (.iconst 0, 1) := by decide +kernel
theorem dX9_join0_169 : decode cX9_join0 169 = .ok (.istore 7, 2) := by decide +kernel
theorem dX9_join0_171 : decode cX9_join0 171 = .ok (.iload 7, 2) := by decide +kernel
theorem dX9_join0_173 : decode cX9_join0 173 = .ok (.aload_n 0, 1) := by decide +kernel
theorem dX9_join0_174 : decode cX9_join0 174 = .ok (.getfield 7, 3) := by decide +kernel
theorem dX9_join0_177 : decode cX9_join0 177 = .ok (.bipush 37, 2) := by decide +kernel
theorem dX9_join0_179 : decode cX9_join0 179 = .ok (.iaload, 1) := by decide +kernel
theorem dX9_join0_180 : decode cX9_join0 180 = .ok (.if_icmp .ge 53, 3) := by decide +kernel
theorem dX9_join0_183 : decode cX9_join0 183 = .ok (.iload 5, 2) := by decide +kernel
theorem dX9_join0_185 : decode cX9_join0 185 = .ok (.ifCond .eq 17, 3) := by decide +kernel
theorem dX9_join0_188 : decode cX9_join0 188 = .ok (.aload_n 0, 1) := by decide +kernel
theorem dX9_join0_189 : decode cX9_join0 189 = .ok (.iload 7, 2) := by decide +kernel
theorem dX9_join0_191 : decode cX9_join0 191 = .ok (.iconst 1, 1) := by decide +kernel
theorem dX9_join0_192 : decode cX9_join0 192 = .ok (.aload_n 0, 1) := by decide +kernel
theorem dX9_join0_193 : decode cX9_join0 193 = .ok (.getfield 171, 3) := by decide +kernel
theorem dX9_join0_196 : decode cX9_join0 196 = .ok (.invokevirtual 105, 3) := by decide +kernel
theorem dX9_join0_199 : decode cX9_join0 199 = .ok (.goto 28, 3) := by decide +kernel
theorem dX9_join0_202 : decode cX9_join0 202 = .ok (.aload_n 0, 1) := by decide +kernel
theorem dX9_join0_203 : decode cX9_join0 203 = .ok (.iload 7, 2) := by decide +kernel
theorem dX9_join0_205 : decode cX9_join0 205 = .ok (.iload_n 3, 1) := by decide +kernel
theorem dX9_join0_206 : decode cX9_join0 206 = .ok (.bipush 11, 2) := by decide +kernel
theorem dX9_join0_208 : decode cX9_join0 208 = .ok (.iload 7, 2) := by decide +kernel
theorem dX9_join0_210 : decode cX9_join0 210 = .ok (.imul, 1) := by decide +kernel
theorem dX9_join0_211 : decode cX9_join0 211 = .ok (.invokestatic 174, 3) := by decide +kernel
theorem dX9_join0_214 : decode cX9_join0 214 = .ok (.iload 4, 2) := by decide +kernel
theorem dX9_join0_216 : decode cX9_join0 216 = .ok (.bipush 7, 2) := by decide +kernel
theorem dX9_join0_218 : decode cX9_join0 218 = .ok (.iload 7, 2) := by decide +kernel
theorem dX9_join0_220 : decode cX9_join0 220 = .ok (.imul, 1) := by decide +kernel
theorem dX9_join0_221 : decode cX9_join0 221 = .ok (.invokestatic 174, 3) := by decide +kernel
theorem dX9_join0_224 : decode cX9_join0 224 = .ok (.invokevirtual 177, 3) := by decide +kernel
theorem dX9_join0_227 : decode cX9_join0 227 = .ok (.iinc 7 1, 3) := by decide +kernel
theorem dX9_join0_230 : decode cX9_join0 230 = .ok (.goto (-59), 3) := by decide +kernel
theorem dX9_join0_233 : decode cX9_join0 233 = .ok (.aload_n 0, 1) := by decide +kernel
theorem dX9_join0_234 : decode cX9_join0 234 = .ok (.getfield 7, 3) := by decide +kernel
theorem dX9_join0_237 : decode cX9_join0 237 = .ok (.iconst 0, 1) := by decide +kernel
theorem dX9_join0_238 : decode cX9_join0 238 = .ok (.aload_n 0, 1) := by decide +kernel
theorem dX9_join0_239 : decode cX9_join0 239 = .ok (.getfield 171, 3) := by decide +kernel
theorem dX9_join0_242 : decode cX9_join0 242 = .ok (.iadd, 1) := by decide +kernel
theorem dX9_join0_243 : decode cX9_join0 243 = .ok (.iconst 1, 1) := by decide +kernel
theorem dX9_join0_244 : decode cX9_join0 244 = .ok (.iastore, 1) := by decide +kernel
theorem dX9_join0_245 : decode cX9_join0 245 = .ok (.aload_n 0, 1) := by decide +kernel
theorem dX9_join0_246 : decode cX9_join0 246 = .ok (.getfield 7, 3) := by decide +kernel
theorem dX9_join0_249 : decode cX9_join0 249 = .ok (.bipush 10, 2) := by decide +kernel
theorem dX9_join0_251 : decode cX9_join0 251 = .ok (.aload_n 0, 1) := by decide +kernel
theorem dX9_join0_252 : decode cX9_join0 252 = .ok (.getfield 171, 3) := by decide +kernel
theorem dX9_join0_255 : decode cX9_join0 255 = .ok (.iadd, 1) := by decide +kernel
theorem dX9_join0_256 : decode cX9_join0 256 = .ok (.iload_n 1, 1) := by decide +kernel
theorem dX9_join0_257 : decode cX9_join0 257 = .ok (.iastore, 1) := by decide +kernel
theorem dX9_join0_258 : decode cX9_join0 258 = .ok (.aload_n 0, 1) := by decide +kernel
theorem dX9_join0_259 : decode cX9_join0 259 = .ok (.getfield 7, 3) := by decide +kernel
theorem dX9_join0_262 : decode cX9_join0 262 = .ok (.bipush 20, 2) := by decide +kernel
theorem dX9_join0_264 : decode cX9_join0 264 = .ok (.aload_n 0, 1) := by decide +kernel
theorem dX9_join0_265 : decode cX9_join0 265 = .ok (.getfield 171, 3) := by decide +kernel
theorem dX9_join0_268 : decode cX9_join0 268 = .ok (.iadd, 1) := by decide +kernel
theorem dX9_join0_269 : decode cX9_join0 269 = .ok (.iload_n 2, 1) := by decide +kernel
theorem dX9_join0_270 : decode cX9_join0 270 = .ok (.iastore, 1) := by decide +kernel
theorem dX9_join0_271 : decode cX9_join0 271 = .ok (.iconst 0, 1) := by decide +kernel
theorem dX9_join0_272 : decode cX9_join0 272 = .ok (.ireturn, 1) := by decide +kernel
set_option maxRecDepth 20000 in
set_option maxHeartbeats 4000000 in
theorem wk_X9_join0_233 {p : Program} {l : Launch} {e : Env} {s : State} {m : MethodId} {args : Array Value} {below : List Frame} {meth : Method} {c : Code} {G : Gp} {σ : St} {x1 : Int32} {x2 : Int32}  {Q : Int32 → St → Prop} (F : FX p s m args meth c cX9_join0 9 (some .int) RX9 G)   (h : wp_X9_join0_233 σ x1 x2 Q) : J p l e (rmF 5 117) s m args below meth c 9 G (MQ below (QQ G (qI Q)) args s 0 0 (fr G)) 0 0 233 [(0, .ref (gb G + 244)), (1, .int x1), (2, .int x2)] [] σ := by
  unfold wp_X9_join0_233 at h
  refine J_aln F 0 dX9_join0_233 rfl rfl ?_
  refine J_gfa F (ci := 9) 1 rfl inX9 ly_244 (by decide) (by decide) rfl lf_X9_7 rfl dX9_join0_234 ?_
  refine J_ic F dX9_join0_237 ki_0 ?_
  refine J_aln F 0 dX9_join0_238 rfl rfl ?_
  refine J_gfi F (ci := 9) 28 rfl inX9 ly_244 (by decide) (by decide) rfl lf_X9_171 rfl dX9_join0_239 ?_
  refine J_iadd F dX9_join0_242 ?_
  refine J_ic F dX9_join0_243 ki_1 ?_
  obtain ⟨h_1, h⟩ := h
  refine J_iast F ly_245 h_1 dX9_join0_244 ?_
  refine J_st (fun σ_2 eσ_2 => ?_)
  have h := h σ_2 eσ_2
  refine J_aln F 0 dX9_join0_245 rfl rfl ?_
  refine J_gfa F (ci := 9) 1 rfl inX9 ly_244 (by decide) (by decide) rfl lf_X9_7 rfl dX9_join0_246 ?_
  refine J_bi F dX9_join0_249 kb_10 ?_
  refine J_aln F 0 dX9_join0_251 rfl rfl ?_
  refine J_gfi F (ci := 9) 28 rfl inX9 ly_244 (by decide) (by decide) rfl lf_X9_171 rfl dX9_join0_252 ?_
  refine J_iadd F dX9_join0_255 ?_
  refine J_iln F 1 dX9_join0_256 rfl rfl ?_
  obtain ⟨h_3, h⟩ := h
  refine J_iast F ly_245 h_3 dX9_join0_257 ?_
  refine J_st (fun σ_4 eσ_4 => ?_)
  have h := h σ_4 eσ_4
  refine J_aln F 0 dX9_join0_258 rfl rfl ?_
  refine J_gfa F (ci := 9) 1 rfl inX9 ly_244 (by decide) (by decide) rfl lf_X9_7 rfl dX9_join0_259 ?_
  refine J_bi F dX9_join0_262 kb_20 ?_
  refine J_aln F 0 dX9_join0_264 rfl rfl ?_
  refine J_gfi F (ci := 9) 28 rfl inX9 ly_244 (by decide) (by decide) rfl lf_X9_171 rfl dX9_join0_265 ?_
  refine J_iadd F dX9_join0_268 ?_
  refine J_iln F 2 dX9_join0_269 rfl rfl ?_
  obtain ⟨h_5, h⟩ := h
  refine J_iast F ly_245 h_5 dX9_join0_270 ?_
  refine J_st (fun σ_6 eσ_6 => ?_)
  have h := h σ_6 eσ_6
  refine J_ic F dX9_join0_271 ki_0 ?_
  exact J_reti F ⟨_, rfl, h⟩ dX9_join0_272
set_option maxRecDepth 20000 in
set_option maxHeartbeats 4000000 in
theorem wk_X9_join0_171 {p : Program} {l : Launch} {e : Env} {s : State} {m : MethodId} {args : Array Value} {below : List Frame} {meth : Method} {c : Code} {G : Gp} {x1 : Int32} {x2 : Int32} {x3 : Int32} {x4 : Int32} {x5 : Int32}  {Q : Int32 → St → Prop} (F : FX p s m args meth c cX9_join0 9 (some .int) RX9 G)   : ∀ (n9 : Nat) (σ : St) (x7 : Int32), LP2 (wp_X9_join0_171 x1 x2 x3 x4 x5 Q) n9 σ x7 → J p l e (rmF 5 117) s m args below meth c 9 G (MQ below (QQ G (qI Q)) args s 0 0 (fr G)) 0 0 171 [(0, .ref (gb G + 244)), (1, .int x1), (2, .int x2), (3, .int x3), (4, .int x4), (5, .int x5), (7, .int x7)] [] σ := by
  intro n9
  induction n9 with
  | zero => intro σ x7 h; exact h.elim
  | succ n9 i171 =>
    intro σ x7 h
    have h : wp_X9_join0_171 x1 x2 x3 x4 x5 Q (LP2 (wp_X9_join0_171 x1 x2 x3 x4 x5 Q) n9) σ x7 := h
    unfold wp_X9_join0_171 at h
    refine J_il F 6 dX9_join0_171 rfl ?_
    refine J_aln F 0 dX9_join0_173 rfl rfl ?_
    refine J_gfa F (ci := 9) 1 rfl inX9 ly_244 (by decide) (by decide) rfl lf_X9_7 rfl dX9_join0_174 ?_
    refine J_bi F dX9_join0_177 kb_37 ?_
    refine J_ialdc F ly_245 (by decide) (by decide) dX9_join0_179 ?_
    refine J_cge F (tgt := 233) dX9_join0_180 (by decide) (fun c_7 => ?_) (fun c_7 => ?_)
    · have h := h.1 c_7
      refine J_sub [0, 1, 2] rfl ?_
      exact wk_X9_join0_233 F  h
    · have h := h.2 c_7
      refine J_il F 5 dX9_join0_183 rfl ?_
      refine J_zeq F (tgt := 202) dX9_join0_185 (by decide) (fun c_8 => ?_) (fun c_8 => ?_)
      · have h := h.1 c_8
        refine J_aln F 0 dX9_join0_202 rfl rfl ?_
        refine J_il F 6 dX9_join0_203 rfl ?_
        refine J_iln F 3 dX9_join0_205 rfl rfl ?_
        refine J_bi F dX9_join0_206 kb_11 ?_
        refine J_il F 6 dX9_join0_208 rfl ?_
        refine J_imul F dX9_join0_210 ?_
        refine J_callSi F (As := [.int x3, .int ((nI 11) * x7)]) (st := [.int x7, .ref (gb G + 244)]) (C_X9_turned l G x3 ((nI 11) * x7)  h) lm_X9_174 li_X9_turned ini_X9 lc_X9_turned hd_X9_turned (by decide) (Nat.le_of_ble_eq_true rfl) (by decide) rfl dX9_join0_211 (fun r_9 σ_10 hh => ?_)
        clear h
        obtain ⟨e9, h⟩ := hh
        subst σ_10
        refine J_il F 4 dX9_join0_214 rfl ?_
        refine J_bi F dX9_join0_216 kb_7 ?_
        refine J_il F 6 dX9_join0_218 rfl ?_
        refine J_imul F dX9_join0_220 ?_
        refine J_callSi F (As := [.int x4, .int ((nI 7) * x7)]) (st := [.int r_9, .int x7, .ref (gb G + 244)]) (C_X9_turned l G x4 ((nI 7) * x7)  h) lm_X9_174 li_X9_turned ini_X9 lc_X9_turned hd_X9_turned (by decide) (Nat.le_of_ble_eq_true rfl) (by decide) rfl dX9_join0_221 (fun r_11 σ_12 hh => ?_)
        clear h
        obtain ⟨e9, h⟩ := hh
        subst σ_12
        refine J_callVv F (As := [.int x7, .int r_9, .int r_11]) (st := []) (C_X9_parts l G x7 r_9 r_11  h) (ci := 9) ly_244 (by decide) rfl rfl lm_X9_177 li_X9_parts ls_X9_parts ini_X9 lc_X9_parts hd_X9_parts (by decide) (Nat.le_of_ble_eq_true rfl) (by decide) rfl dX9_join0_224 (fun σ_13 h => ?_)
        obtain ⟨x7_14, ex7_14⟩ : ∃ z : Int32, z = x7 + (nI 1) := ⟨_, rfl⟩
        have h := h x7_14 ex7_14
        refine J_iinc F (v := x7_14) (L' := [(7, .int x7_14), (0, .ref (gb G + 244)), (1, .int x1), (2, .int x2), (3, .int x3), (4, .int x4), (5, .int x5)]) 6 dX9_join0_227 rfl (by rw [ki_1, ex7_14]) (by decide) rfl ?_
        refine J_goto F (tgt := 171) dX9_join0_230 (by decide) ?_
        refine J_sub [1, 2, 3, 4, 5, 6, 0] rfl ?_
        exact i171 _ _ h
      · have h := h.2 c_8
        refine J_aln F 0 dX9_join0_188 rfl rfl ?_
        refine J_il F 6 dX9_join0_189 rfl ?_
        refine J_ic F dX9_join0_191 ki_1 ?_
        refine J_aln F 0 dX9_join0_192 rfl rfl ?_
        refine J_gfi F (ci := 9) 28 rfl inX9 ly_244 (by decide) (by decide) rfl lf_X9_171 rfl dX9_join0_193 ?_
        refine J_callVv F (As := [.int x7, .int (nI 1), .int (σ 244 28)]) (st := []) (C_X9_owns l G x7 (nI 1) (σ 244 28)  h) (ci := 9) ly_244 (by decide) rfl rfl lm_X9_105 li_X9_owns ls_X9_owns ini_X9 lc_X9_owns hd_X9_owns (by decide) (Nat.le_of_ble_eq_true rfl) (by decide) rfl dX9_join0_196 (fun σ_15 h => ?_)
        refine J_goto F (tgt := 227) dX9_join0_199 (by decide) ?_
        obtain ⟨x7_16, ex7_16⟩ : ∃ z : Int32, z = x7 + (nI 1) := ⟨_, rfl⟩
        have h := h x7_16 ex7_16
        refine J_iinc F (v := x7_16) (L' := [(7, .int x7_16), (0, .ref (gb G + 244)), (1, .int x1), (2, .int x2), (3, .int x3), (4, .int x4), (5, .int x5)]) 6 dX9_join0_227 rfl (by rw [ki_1, ex7_16]) (by decide) rfl ?_
        refine J_goto F (tgt := 171) dX9_join0_230 (by decide) ?_
        refine J_sub [1, 2, 3, 4, 5, 6, 0] rfl ?_
        exact i171 _ _ h
set_option maxRecDepth 20000 in
set_option maxHeartbeats 4000000 in
theorem wk_X9_join0_160 {p : Program} {l : Launch} {e : Env} {s : State} {m : MethodId} {args : Array Value} {below : List Frame} {meth : Method} {c : Code} {G : Gp} {σ : St} {x1 : Int32} {x2 : Int32} {x3 : Int32} {x4 : Int32} {x5 : Int32} {x6 : Int32}  {Q : Int32 → St → Prop} (F : FX p s m args meth c cX9_join0 9 (some .int) RX9 G)   (h : wp_X9_join0_160 σ x1 x2 x3 x4 x5 x6 Q) : J p l e (rmF 5 117) s m args below meth c 9 G (MQ below (QQ G (qI Q)) args s 0 0 (fr G)) 0 0 160 [(0, .ref (gb G + 244)), (1, .int x1), (2, .int x2), (3, .int x3), (4, .int x4), (5, .int x5), (6, .int x6)] [] σ := by
  unfold wp_X9_join0_160 at h
  refine J_il F 6 dX9_join0_160 rfl ?_
  refine J_zle F (tgt := 168) dX9_join0_162 (by decide) (fun c_17 => ?_) (fun c_17 => ?_)
  · have h := h.1 c_17
    refine J_ic F dX9_join0_168 ki_0 ?_
    refine J_is F (L' := [(7, .int (nI 0)), (0, .ref (gb G + 244)), (1, .int x1), (2, .int x2), (3, .int x3), (4, .int x4), (5, .int x5), (6, .int x6)]) dX9_join0_169 (by decide) rfl ?_
    refine J_sub [1, 2, 3, 4, 5, 6, 0] rfl ?_
    obtain ⟨n9, h⟩ := h
    exact wk_X9_join0_171 F  n9 _ _ h
  · have h := h.2 c_17
    refine J_il F 6 dX9_join0_165 rfl ?_
    exact J_reti F ⟨_, rfl, h⟩ dX9_join0_167
set_option maxRecDepth 20000 in
set_option maxHeartbeats 4000000 in
theorem wk_X9_join0_130 {p : Program} {l : Launch} {e : Env} {s : State} {m : MethodId} {args : Array Value} {below : List Frame} {meth : Method} {c : Code} {G : Gp} {σ : St} {x1 : Int32} {x2 : Int32} {x3 : Int32} {x4 : Int32} {x5 : Int32} {x6 : Int32} {x7 : Int32} {x8 : Int32} {ih73 : St → Int32 → Int32 → Prop} {Q : Int32 → St → Prop} (F : FX p s m args meth c cX9_join0 9 (some .int) RX9 G)  (i73 : ∀ (σ : St) (x6 : Int32) (x7 : Int32), ih73 σ x6 x7 → J p l e (rmF 5 117) s m args below meth c 9 G (MQ below (QQ G (qI Q)) args s 0 0 (fr G)) 0 0 73 [(0, .ref (gb G + 244)), (1, .int x1), (2, .int x2), (3, .int x3), (4, .int x4), (5, .int x5), (6, .int x6), (7, .int x7)] [] σ) (h : wp_X9_join0_130 σ x1 x2 x3 x4 x5 x6 x7 x8 ih73 Q) : J p l e (rmF 5 117) s m args below meth c 9 G (MQ below (QQ G (qI Q)) args s 0 0 (fr G)) 0 0 130 [(0, .ref (gb G + 244)), (1, .int x1), (2, .int x2), (3, .int x3), (4, .int x4), (5, .int x5), (6, .int x6), (7, .int x7), (8, .int x8)] [] σ := by
  unfold wp_X9_join0_130 at h
  refine J_il F 6 dX9_join0_130 rfl ?_
  refine J_zne F (tgt := 154) dX9_join0_132 (by decide) (fun c_18 => ?_) (fun c_18 => ?_)
  · have h := h.1 c_18
    obtain ⟨x7_19, ex7_19⟩ : ∃ z : Int32, z = x7 + (nI 1) := ⟨_, rfl⟩
    have h := h x7_19 ex7_19
    refine J_iinc F (v := x7_19) (L' := [(7, .int x7_19), (0, .ref (gb G + 244)), (1, .int x1), (2, .int x2), (3, .int x3), (4, .int x4), (5, .int x5), (6, .int x6), (8, .int x8)]) 7 dX9_join0_154 rfl (by rw [ki_1, ex7_19]) (by decide) rfl ?_
    refine J_goto F (tgt := 73) dX9_join0_157 (by decide) ?_
    refine J_sub [1, 2, 3, 4, 5, 6, 7, 0] rfl ?_
    exact i73 _ _ _ h
  · have h := h.2 c_18
    refine J_aln F 0 dX9_join0_135 rfl rfl ?_
    refine J_aln F 0 dX9_join0_136 rfl rfl ?_
    refine J_il F 7 dX9_join0_137 rfl ?_
    refine J_il F 8 dX9_join0_139 rfl ?_
    refine J_callVi F (As := [.int x7, .int x8]) (st := [.ref (gb G + 244)]) (C_X9_ownerOf l G x7 x8  h) (ci := 9) ly_244 (by decide) rfl rfl lm_X9_95 li_X9_ownerOf ls_X9_ownerOf ini_X9 lc_X9_ownerOf hd_X9_ownerOf (by decide) (Nat.le_of_ble_eq_true rfl) (by decide) rfl dX9_join0_141 (fun r_20 σ_21 hh => ?_)
    clear h
    obtain ⟨e9, h⟩ := hh
    subst σ_21
    refine J_ic F dX9_join0_144 ki_2 ?_
    refine J_callVi F (As := [.int r_20, .int (nI 2)]) (st := []) (C_X9_isState l G r_20 (nI 2)  h) (ci := 9) ly_244 (by decide) rfl rfl lm_X9_57 li_X9_isState ls_X9_isState ini_X9 lc_X9_isState hd_X9_isState (by decide) (Nat.le_of_ble_eq_true rfl) (by decide) rfl dX9_join0_145 (fun r_22 σ_23 hh => ?_)
    clear h
    obtain ⟨e9, h⟩ := hh
    subst σ_23
    refine J_zeq F (tgt := 154) dX9_join0_148 (by decide) (fun c_24 => ?_) (fun c_24 => ?_)
    · have h := h.1 c_24
      obtain ⟨x7_25, ex7_25⟩ : ∃ z : Int32, z = x7 + (nI 1) := ⟨_, rfl⟩
      have h := h x7_25 ex7_25
      refine J_iinc F (v := x7_25) (L' := [(7, .int x7_25), (0, .ref (gb G + 244)), (1, .int x1), (2, .int x2), (3, .int x3), (4, .int x4), (5, .int x5), (6, .int x6), (8, .int x8)]) 7 dX9_join0_154 rfl (by rw [ki_1, ex7_25]) (by decide) rfl ?_
      refine J_goto F (tgt := 73) dX9_join0_157 (by decide) ?_
      refine J_sub [1, 2, 3, 4, 5, 6, 7, 0] rfl ?_
      exact i73 _ _ _ h
    · have h := h.2 c_24
      refine J_ic F dX9_join0_151 ki_3 ?_
      refine J_is F (L' := [(6, .int (nI 3)), (0, .ref (gb G + 244)), (1, .int x1), (2, .int x2), (3, .int x3), (4, .int x4), (5, .int x5), (7, .int x7), (8, .int x8)]) dX9_join0_152 (by decide) rfl ?_
      obtain ⟨x7_26, ex7_26⟩ : ∃ z : Int32, z = x7 + (nI 1) := ⟨_, rfl⟩
      have h := h x7_26 ex7_26
      refine J_iinc F (v := x7_26) (L' := [(7, .int x7_26), (6, .int (nI 3)), (0, .ref (gb G + 244)), (1, .int x1), (2, .int x2), (3, .int x3), (4, .int x4), (5, .int x5), (8, .int x8)]) 7 dX9_join0_154 rfl (by rw [ki_1, ex7_26]) (by decide) rfl ?_
      refine J_goto F (tgt := 73) dX9_join0_157 (by decide) ?_
      refine J_sub [2, 3, 4, 5, 6, 7, 1, 0] rfl ?_
      exact i73 _ _ _ h
set_option maxRecDepth 20000 in
set_option maxHeartbeats 4000000 in
theorem wk_X9_join0_73 {p : Program} {l : Launch} {e : Env} {s : State} {m : MethodId} {args : Array Value} {below : List Frame} {meth : Method} {c : Code} {G : Gp} {x1 : Int32} {x2 : Int32} {x3 : Int32} {x4 : Int32} {x5 : Int32}  {Q : Int32 → St → Prop} (F : FX p s m args meth c cX9_join0 9 (some .int) RX9 G)   : ∀ (n9 : Nat) (σ : St) (x6 : Int32) (x7 : Int32), LP3 (wp_X9_join0_73 x1 x2 x3 x4 x5 Q) n9 σ x6 x7 → J p l e (rmF 5 117) s m args below meth c 9 G (MQ below (QQ G (qI Q)) args s 0 0 (fr G)) 0 0 73 [(0, .ref (gb G + 244)), (1, .int x1), (2, .int x2), (3, .int x3), (4, .int x4), (5, .int x5), (6, .int x6), (7, .int x7)] [] σ := by
  intro n9
  induction n9 with
  | zero => intro σ x6 x7 h; exact h.elim
  | succ n9 i73 =>
    intro σ x6 x7 h
    have h : wp_X9_join0_73 x1 x2 x3 x4 x5 Q (LP3 (wp_X9_join0_73 x1 x2 x3 x4 x5 Q) n9) σ x6 x7 := h
    unfold wp_X9_join0_73 at h
    refine J_il F 7 dX9_join0_73 rfl ?_
    refine J_aln F 0 dX9_join0_75 rfl rfl ?_
    refine J_gfa F (ci := 9) 1 rfl inX9 ly_244 (by decide) (by decide) rfl lf_X9_7 rfl dX9_join0_76 ?_
    refine J_bi F dX9_join0_79 kb_37 ?_
    refine J_ialdc F ly_245 (by decide) (by decide) dX9_join0_81 ?_
    refine J_cge F (tgt := 160) dX9_join0_82 (by decide) (fun c_27 => ?_) (fun c_27 => ?_)
    · have h := h.1 c_27
      refine J_sub [0, 1, 2, 3, 4, 5, 6] rfl ?_
      exact wk_X9_join0_160 F  h
    · have h := h.2 c_27
      refine J_il F 5 dX9_join0_85 rfl ?_
      refine J_zne F (tgt := 160) dX9_join0_87 (by decide) (fun c_28 => ?_) (fun c_28 => ?_)
      · have h := h.1 c_28
        refine J_sub [0, 1, 2, 3, 4, 5, 6] rfl ?_
        exact wk_X9_join0_160 F  h
      · have h := h.2 c_28
        refine J_aln F 0 dX9_join0_90 rfl rfl ?_
        refine J_il F 7 dX9_join0_91 rfl ?_
        refine J_iln F 3 dX9_join0_93 rfl rfl ?_
        refine J_bi F dX9_join0_94 kb_11 ?_
        refine J_il F 7 dX9_join0_96 rfl ?_
        refine J_imul F dX9_join0_98 ?_
        refine J_callSi F (As := [.int x3, .int ((nI 11) * x7)]) (st := [.int x7, .ref (gb G + 244)]) (C_X9_turned l G x3 ((nI 11) * x7)  h) lm_X9_174 li_X9_turned ini_X9 lc_X9_turned hd_X9_turned (by decide) (Nat.le_of_ble_eq_true rfl) (by decide) rfl dX9_join0_99 (fun r_29 σ_30 hh => ?_)
        clear h
        obtain ⟨e9, h⟩ := hh
        subst σ_30
        refine J_il F 4 dX9_join0_102 rfl ?_
        refine J_bi F dX9_join0_104 kb_7 ?_
        refine J_il F 7 dX9_join0_106 rfl ?_
        refine J_imul F dX9_join0_108 ?_
        refine J_callSi F (As := [.int x4, .int ((nI 7) * x7)]) (st := [.int r_29, .int x7, .ref (gb G + 244)]) (C_X9_turned l G x4 ((nI 7) * x7)  h) lm_X9_174 li_X9_turned ini_X9 lc_X9_turned hd_X9_turned (by decide) (Nat.le_of_ble_eq_true rfl) (by decide) rfl dX9_join0_109 (fun r_31 σ_32 hh => ?_)
        clear h
        obtain ⟨e9, h⟩ := hh
        subst σ_32
        refine J_callVi F (As := [.int x7, .int r_29, .int r_31]) (st := []) (C_X9_zoneAt l G x7 r_29 r_31  h) (ci := 9) ly_244 (by decide) rfl rfl lm_X9_102 li_X9_zoneAt ls_X9_zoneAt ini_X9 lc_X9_zoneAt hd_X9_zoneAt (by decide) (Nat.le_of_ble_eq_true rfl) (by decide) rfl dX9_join0_112 (fun r_33 σ_34 h => ?_)
        refine J_is F (L' := [(8, .int r_33), (0, .ref (gb G + 244)), (1, .int x1), (2, .int x2), (3, .int x3), (4, .int x4), (5, .int x5), (6, .int x6), (7, .int x7)]) dX9_join0_115 (by decide) rfl ?_
        refine J_il F 0 dX9_join0_117 rfl ?_
        refine J_callSi F (As := [.int r_33]) (st := []) (C_X9_depthOf l G r_33  h) lm_X9_73 li_X9_depthOf ini_X9 lc_X9_depthOf hd_X9_depthOf (by decide) (Nat.le_of_ble_eq_true rfl) (by decide) rfl dX9_join0_119 (fun r_35 σ_36 hh => ?_)
        clear h
        obtain ⟨e9, h⟩ := hh
        subst σ_36
        refine J_bi F dX9_join0_122 kb_10 ?_
        refine J_cne F (tgt := 130) dX9_join0_124 (by decide) (fun c_37 => ?_) (fun c_37 => ?_)
        · have h := h.1 c_37
          refine J_sub [1, 2, 3, 4, 5, 6, 7, 8, 0] rfl ?_
          exact wk_X9_join0_130 F i73 h
        · have h := h.2 c_37
          refine J_ic F dX9_join0_127 ki_2 ?_
          refine J_is F (L' := [(6, .int (nI 2)), (8, .int r_33), (0, .ref (gb G + 244)), (1, .int x1), (2, .int x2), (3, .int x3), (4, .int x4), (5, .int x5), (7, .int x7)]) dX9_join0_128 (by decide) rfl ?_
          refine J_sub [2, 3, 4, 5, 6, 7, 0, 8, 1] rfl ?_
          exact wk_X9_join0_130 F i73 h
set_option maxRecDepth 20000 in
set_option maxHeartbeats 4000000 in
theorem wk_X9_join0_39 {p : Program} {l : Launch} {e : Env} {s : State} {m : MethodId} {args : Array Value} {below : List Frame} {meth : Method} {c : Code} {G : Gp} {σ : St} {x1 : Int32} {x2 : Int32} {x3 : Int32} {x4 : Int32}  {Q : Int32 → St → Prop} (F : FX p s m args meth c cX9_join0 9 (some .int) RX9 G)   (h : wp_X9_join0_39 σ x1 x2 x3 x4 Q) : J p l e (rmF 5 117) s m args below meth c 9 G (MQ below (QQ G (qI Q)) args s 0 0 (fr G)) 0 0 39 [(0, .ref (gb G + 244)), (1, .int x1), (2, .int x2), (3, .int x3), (4, .int x4)] [] σ := by
  unfold wp_X9_join0_39 at h
  refine J_aln F 0 dX9_join0_39 rfl rfl ?_
  refine J_gfi F (ci := 9) 28 rfl inX9 ly_244 (by decide) (by decide) rfl lf_X9_171 rfl dX9_join0_40 ?_
  refine J_bi F dX9_join0_43 kb_10 ?_
  refine J_cne F (tgt := 50) dX9_join0_45 (by decide) (fun c_38 => ?_) (fun c_38 => ?_)
  · have h := h.1 c_38
    refine J_aln F 0 dX9_join0_50 rfl rfl ?_
    refine J_ic F dX9_join0_51 ki_0 ?_
    refine J_callVi F (As := [.int (nI 0)]) (st := []) (C_X9_countOf l G (nI 0)  h) (ci := 9) ly_244 (by decide) rfl rfl lm_X9_92 li_X9_countOf ls_X9_countOf ini_X9 lc_X9_countOf hd_X9_countOf (by decide) (Nat.le_of_ble_eq_true rfl) (by decide) rfl dX9_join0_52 (fun r_39 σ_40 hh => ?_)
    clear h
    obtain ⟨e9, h⟩ := hh
    subst σ_40
    refine J_bi F dX9_join0_55 kb_10 ?_
    refine J_cne F (tgt := 64) dX9_join0_57 (by decide) (fun c_41 => ?_) (fun c_41 => ?_)
    · have h := h.1 c_41
      refine J_ic F dX9_join0_64 ki_0 ?_
      refine J_is F (L' := [(5, .int (nI 0)), (0, .ref (gb G + 244)), (1, .int x1), (2, .int x2), (3, .int x3), (4, .int x4)]) dX9_join0_65 (by decide) rfl ?_
      refine J_ic F dX9_join0_67 ki_0 ?_
      refine J_is F (L' := [(6, .int (nI 0)), (5, .int (nI 0)), (0, .ref (gb G + 244)), (1, .int x1), (2, .int x2), (3, .int x3), (4, .int x4)]) dX9_join0_68 (by decide) rfl ?_
      refine J_ic F dX9_join0_70 ki_0 ?_
      refine J_is F (L' := [(7, .int (nI 0)), (6, .int (nI 0)), (5, .int (nI 0)), (0, .ref (gb G + 244)), (1, .int x1), (2, .int x2), (3, .int x3), (4, .int x4)]) dX9_join0_71 (by decide) rfl ?_
      refine J_sub [3, 4, 5, 6, 7, 2, 1, 0] rfl ?_
      obtain ⟨n9, h⟩ := h
      exact wk_X9_join0_73 F  n9 _ _ _ h
    · have h := h.2 c_41
      refine J_ic F dX9_join0_60 ki_1 ?_
      refine J_goto F (tgt := 65) dX9_join0_61 (by decide) ?_
      refine J_is F (L' := [(5, .int (nI 1)), (0, .ref (gb G + 244)), (1, .int x1), (2, .int x2), (3, .int x3), (4, .int x4)]) dX9_join0_65 (by decide) rfl ?_
      refine J_ic F dX9_join0_67 ki_0 ?_
      refine J_is F (L' := [(6, .int (nI 0)), (5, .int (nI 1)), (0, .ref (gb G + 244)), (1, .int x1), (2, .int x2), (3, .int x3), (4, .int x4)]) dX9_join0_68 (by decide) rfl ?_
      refine J_ic F dX9_join0_70 ki_0 ?_
      refine J_is F (L' := [(7, .int (nI 0)), (6, .int (nI 0)), (5, .int (nI 1)), (0, .ref (gb G + 244)), (1, .int x1), (2, .int x2), (3, .int x3), (4, .int x4)]) dX9_join0_71 (by decide) rfl ?_
      refine J_sub [3, 4, 5, 6, 7, 2, 1, 0] rfl ?_
      obtain ⟨n9, h⟩ := h
      exact wk_X9_join0_73 F  n9 _ _ _ h
  · have h := h.2 c_38
    refine J_ic F dX9_join0_48 ki_1 ?_
    exact J_reti F ⟨_, rfl, h⟩ dX9_join0_49
set_option maxRecDepth 20000 in
set_option maxHeartbeats 4000000 in
theorem wk_X9_join0_5 {p : Program} {l : Launch} {e : Env} {s : State} {m : MethodId} {args : Array Value} {below : List Frame} {meth : Method} {c : Code} {G : Gp} {x1 : Int32} {x2 : Int32} {x3 : Int32} {x4 : Int32}  {Q : Int32 → St → Prop} (F : FX p s m args meth c cX9_join0 9 (some .int) RX9 G)   : ∀ (n9 : Nat) (σ : St), LP1 (wp_X9_join0_5 x1 x2 x3 x4 Q) n9 σ → J p l e (rmF 5 117) s m args below meth c 9 G (MQ below (QQ G (qI Q)) args s 0 0 (fr G)) 0 0 5 [(0, .ref (gb G + 244)), (1, .int x1), (2, .int x2), (3, .int x3), (4, .int x4)] [] σ := by
  intro n9
  induction n9 with
  | zero => intro σ h; exact h.elim
  | succ n9 i5 =>
    intro σ h
    have h : wp_X9_join0_5 x1 x2 x3 x4 Q (LP1 (wp_X9_join0_5 x1 x2 x3 x4 Q) n9) σ := h
    unfold wp_X9_join0_5 at h
    refine J_aln F 0 dX9_join0_5 rfl rfl ?_
    refine J_gfi F (ci := 9) 28 rfl inX9 ly_244 (by decide) (by decide) rfl lf_X9_171 rfl dX9_join0_6 ?_
    refine J_bi F dX9_join0_9 kb_10 ?_
    refine J_cge F (tgt := 39) dX9_join0_11 (by decide) (fun c_42 => ?_) (fun c_42 => ?_)
    · have h := h.1 c_42
      exact wk_X9_join0_39 F  h
    · have h := h.2 c_42
      refine J_aln F 0 dX9_join0_14 rfl rfl ?_
      refine J_aln F 0 dX9_join0_15 rfl rfl ?_
      refine J_gfi F (ci := 9) 28 rfl inX9 ly_244 (by decide) (by decide) rfl lf_X9_171 rfl dX9_join0_16 ?_
      refine J_ic F dX9_join0_19 ki_0 ?_
      refine J_callVi F (As := [.int (σ 244 28), .int (nI 0)]) (st := []) (C_X9_isState l G (σ 244 28) (nI 0)  h) (ci := 9) ly_244 (by decide) rfl rfl lm_X9_57 li_X9_isState ls_X9_isState ini_X9 lc_X9_isState hd_X9_isState (by decide) (Nat.le_of_ble_eq_true rfl) (by decide) rfl dX9_join0_20 (fun r_43 σ_44 hh => ?_)
      clear h
      obtain ⟨e9, h⟩ := hh
      subst σ_44
      refine J_zne F (tgt := 39) dX9_join0_23 (by decide) (fun c_45 => ?_) (fun c_45 => ?_)
      · have h := h.1 c_45
        exact wk_X9_join0_39 F  h
      · have h := h.2 c_45
        refine J_aln F 0 dX9_join0_26 rfl rfl ?_
        refine J_dup F dX9_join0_27 rfl ?_
        refine J_gfi F (ci := 9) 28 rfl inX9 ly_244 (by decide) (by decide) rfl lf_X9_171 rfl dX9_join0_28 ?_
        refine J_ic F dX9_join0_31 ki_1 ?_
        refine J_iadd F dX9_join0_32 ?_
        refine J_pfi F (ci := 9) 28 rfl inX9 tyX9 tyX9_ok nmX9 ly_244 (by decide) (by decide) rfl lf_X9_171 rfl rfl (tyX9_ok 28 (by decide)) rfl rfl dX9_join0_33 ?_
        refine J_st (fun σ_46 eσ_46 => ?_)
        have h := h σ_46 eσ_46
        refine J_goto F (tgt := 5) dX9_join0_36 (by decide) ?_
        exact i5 _ h
set_option maxRecDepth 20000 in
set_option maxHeartbeats 4000000 in
theorem C_X9_join0 (l : Launch) (G : Gp) (x1 : Int32) (x2 : Int32) (x3 : Int32) (x4 : Int32)  {σ : St} {Q : Int32 → St → Prop} (h : wp_X9_join0 σ x1 x2 x3 x4 Q) : Cn l yX9_join0 cX9_join0 9 (some .int) 5 117 G [.ref (gb G + 244), .int x1, .int x2, .int x3, .int x4] σ (qI Q) := by
  refine Cn_of (L := [(0, .ref (gb G + 244)), (1, .int x1), (2, .int x2), (3, .int x3), (4, .int x4)]) RX9 (by decide) rfl (Nat.le_of_ble_eq_true rfl) rfl ?_
  intro p e s m below meth c F
  unfold wp_X9_join0 at h
  refine J_aln F 0 dX9_join0_0 rfl rfl ?_
  refine J_ic F dX9_join0_1 ki_0 ?_
  refine J_pfi F (ci := 9) 28 rfl inX9 tyX9 tyX9_ok nmX9 ly_244 (by decide) (by decide) rfl lf_X9_171 rfl rfl (tyX9_ok 28 (by decide)) rfl rfl dX9_join0_2 ?_
  refine J_st (fun σ_47 eσ_47 => ?_)
  have h := h σ_47 eσ_47
  obtain ⟨n9, h⟩ := h
  exact wk_X9_join0_5 F  n9 _ h
theorem dX9_farFrom_0 : decode cX9_farFrom 0 = .ok (.aload_n 0, 1) := by decide +kernel
theorem dX9_farFrom_1 : decode cX9_farFrom 1 = .ok (.getfield 7, 3) := by decide +kernel
theorem dX9_farFrom_4 : decode cX9_farFrom 4 = .ok (.bipush 31, 2) := by decide +kernel
theorem dX9_farFrom_6 : decode cX9_farFrom 6 = .ok (.iload_n 1, 1) := by decide +kernel
theorem dX9_farFrom_7 : decode cX9_farFrom 7 = .ok (.iadd, 1) := by decide +kernel
theorem dX9_farFrom_8 : decode cX9_farFrom 8 = .ok (.iaload, 1) := by decide +kernel
theorem dX9_farFrom_9 : decode cX9_farFrom 9 = .ok (.iload_n 2, 1) := by decide +kernel
theorem dX9_farFrom_10 : decode cX9_farFrom 10 = .ok (.invokestatic 180, 3) := by decide +kernel
theorem dX9_farFrom_13 : decode cX9_farFrom 13 = .ok (.aload_n 0, 1) := by decide +kernel
theorem dX9_farFrom_14 : decode cX9_farFrom 14 = .ok (.getfield 7, 3) := by decide +kernel
theorem dX9_farFrom_17 : decode cX9_farFrom 17 = .ok (.bipush 34, 2) := by decide +kernel
theorem dX9_farFrom_19 : decode cX9_farFrom 19 = .ok (.iload_n 1, 1) := by decide +kernel
theorem dX9_farFrom_20 : decode cX9_farFrom 20 = .ok (.iadd, 1) := by decide +kernel
theorem dX9_farFrom_21 : decode cX9_farFrom 21 = .ok (.iaload, 1) := by decide +kernel
theorem dX9_farFrom_22 : decode cX9_farFrom 22 = .ok (.iload_n 3, 1) := by decide +kernel
theorem dX9_farFrom_23 : decode cX9_farFrom 23 = .ok (.invokestatic 180, 3) := by decide +kernel
theorem dX9_farFrom_26 : decode cX9_farFrom 26 = .ok (.iadd, 1) := by decide +kernel
theorem dX9_farFrom_27 : decode cX9_farFrom 27 = .ok (.ireturn, 1) := by decide +kernel
set_option maxRecDepth 20000 in
set_option maxHeartbeats 4000000 in
theorem C_X9_farFrom (l : Launch) (G : Gp) (x1 : Int32) (x2 : Int32) (x3 : Int32)  {σ : St} {Q : Int32 → Prop} (h : wp_X9_farFrom σ x1 x2 x3 Q) : Cn l yX9_farFrom cX9_farFrom 4 (some .int) 1 21 G [.ref (gb G + 244), .int x1, .int x2, .int x3] σ (qI (fun r σ' => σ' = σ ∧ Q r)) := by
  refine Cn_of (L := [(0, .ref (gb G + 244)), (1, .int x1), (2, .int x2), (3, .int x3)]) RX9 (by decide) rfl (Nat.le_of_ble_eq_true rfl) rfl ?_
  intro p e s m below meth c F
  unfold wp_X9_farFrom at h
  refine J_aln F 0 dX9_farFrom_0 rfl rfl ?_
  refine J_gfa F (ci := 9) 1 rfl inX9 ly_244 (by decide) (by decide) rfl lf_X9_7 rfl dX9_farFrom_1 ?_
  refine J_bi F dX9_farFrom_4 kb_31 ?_
  refine J_iln F 1 dX9_farFrom_6 rfl rfl ?_
  refine J_iadd F dX9_farFrom_7 ?_
  obtain ⟨h_1, h⟩ := h
  refine J_iald F ly_245 h_1 dX9_farFrom_8 ?_
  refine J_iln F 2 dX9_farFrom_9 rfl rfl ?_
  refine J_callSi F (As := [.int (σ 245 (Int32.toNatClampNeg ((nI 31) + x1))), .int x2]) (st := []) (C_X9_apart l G (σ 245 (Int32.toNatClampNeg ((nI 31) + x1))) x2  h) lm_X9_180 li_X9_apart ini_X9 lc_X9_apart hd_X9_apart (by decide) (Nat.le_of_ble_eq_true rfl) (by decide) rfl dX9_farFrom_10 (fun r_2 σ_3 hh => ?_)
  clear h
  obtain ⟨e9, h⟩ := hh
  subst σ_3
  refine J_aln F 0 dX9_farFrom_13 rfl rfl ?_
  refine J_gfa F (ci := 9) 1 rfl inX9 ly_244 (by decide) (by decide) rfl lf_X9_7 rfl dX9_farFrom_14 ?_
  refine J_bi F dX9_farFrom_17 kb_34 ?_
  refine J_iln F 1 dX9_farFrom_19 rfl rfl ?_
  refine J_iadd F dX9_farFrom_20 ?_
  obtain ⟨h_4, h⟩ := h
  refine J_iald F ly_245 h_4 dX9_farFrom_21 ?_
  refine J_iln F 3 dX9_farFrom_22 rfl rfl ?_
  refine J_callSi F (As := [.int (σ 245 (Int32.toNatClampNeg ((nI 34) + x1))), .int x3]) (st := [.int r_2]) (C_X9_apart l G (σ 245 (Int32.toNatClampNeg ((nI 34) + x1))) x3  h) lm_X9_180 li_X9_apart ini_X9 lc_X9_apart hd_X9_apart (by decide) (Nat.le_of_ble_eq_true rfl) (by decide) rfl dX9_farFrom_23 (fun r_5 σ_6 hh => ?_)
  clear h
  obtain ⟨e9, h⟩ := hh
  subst σ_6
  refine J_iadd F dX9_farFrom_26 ?_
  exact J_reti F ⟨_, rfl, rfl, h⟩ dX9_farFrom_27
theorem dX9_isNearer_0 : decode cX9_isNearer 0 = .ok (.aload_n 0, 1) := by decide +kernel
theorem dX9_isNearer_1 : decode cX9_isNearer 1 = .ok (.iload_n 1, 1) := by decide +kernel
theorem dX9_isNearer_2 : decode cX9_isNearer 2 = .ok (.iload_n 3, 1) := by decide +kernel
theorem dX9_isNearer_3 : decode cX9_isNearer 3 = .ok (.iload 4, 2) := by decide +kernel
theorem dX9_isNearer_5 : decode cX9_isNearer 5 = .ok (.invokevirtual 183, 3) := by decide +kernel
theorem dX9_isNearer_8 : decode cX9_isNearer 8 = .ok (.aload_n 0, 1) := by decide +kernel
theorem dX9_isNearer_9 : decode cX9_isNearer 9 = .ok (.iload_n 2, 1) := by decide +kernel
theorem dX9_isNearer_10 : decode cX9_isNearer 10 = .ok (.iload_n 3, 1) := by decide +kernel
theorem dX9_isNearer_11 : decode cX9_isNearer 11 = .ok (.iload 4, 2) := by decide +kernel
theorem dX9_isNearer_13 : decode cX9_isNearer 13 = .ok (.invokevirtual 183, 3) := by decide +kernel
theorem dX9_isNearer_16 : decode cX9_isNearer 16 = .ok (.isub, 1) := by decide +kernel
theorem dX9_isNearer_17 : decode cX9_isNearer 17 = .ok (.istore 5, 2) := by decide +kernel
theorem dX9_isNearer_19 : decode cX9_isNearer 19 = .ok (.iload 5, 2) := by decide +kernel
theorem dX9_isNearer_21 : decode cX9_isNearer 21 = .ok (.ifCond .lt 13, 3) := by decide +kernel
theorem dX9_isNearer_24 : decode cX9_isNearer 24 = .ok (.iload 5, 2) := by decide +kernel
theorem dX9_isNearer_26 : decode cX9_isNearer 26 = .ok (.ifCond .ne 12, 3) := by decide +kernel
theorem dX9_isNearer_29 : decode cX9_isNearer 29 = .ok (.iload_n 1, 1) := by decide +kernel
theorem dX9_isNearer_30 : decode cX9_isNearer 30 = .ok (.iload_n 2, 1) := by decide +kernel
theorem dX9_isNearer_31 : decode cX9_isNearer 31 = .ok (.if_icmp .ge 7, 3) := by decide +kernel
theorem dX9_isNearer_34 : decode cX9_isNearer 34 = .ok (.iconst 1, 1) := by decide +kernel
theorem dX9_isNearer_35 : decode cX9_isNearer 35 = .ok (.goto 4, 3) := by decide +kernel
theorem dX9_isNearer_38 : decode cX9_isNearer 38 = .ok (.iconst 0, 1) := by decide +kernel
theorem dX9_isNearer_39 : decode cX9_isNearer 39 = .ok (.ireturn, 1) := by decide +kernel
set_option maxRecDepth 20000 in
set_option maxHeartbeats 4000000 in
theorem C_X9_isNearer (l : Launch) (G : Gp) (x1 : Int32) (x2 : Int32) (x3 : Int32) (x4 : Int32)  {σ : St} {Q : Int32 → Prop} (h : wp_X9_isNearer σ x1 x2 x3 x4 Q) : Cn l yX9_isNearer cX9_isNearer 6 (some .boolean) 2 44 G [.ref (gb G + 244), .int x1, .int x2, .int x3, .int x4] σ (qI (fun r σ' => σ' = σ ∧ Q r)) := by
  refine Cn_of (L := [(0, .ref (gb G + 244)), (1, .int x1), (2, .int x2), (3, .int x3), (4, .int x4)]) RX9 (by decide) rfl (Nat.le_of_ble_eq_true rfl) rfl ?_
  intro p e s m below meth c F
  unfold wp_X9_isNearer at h
  refine J_aln F 0 dX9_isNearer_0 rfl rfl ?_
  refine J_iln F 1 dX9_isNearer_1 rfl rfl ?_
  refine J_iln F 3 dX9_isNearer_2 rfl rfl ?_
  refine J_il F 4 dX9_isNearer_3 rfl ?_
  refine J_callVi F (As := [.int x1, .int x3, .int x4]) (st := []) (C_X9_farFrom l G x1 x3 x4  h) (ci := 9) ly_244 (by decide) rfl rfl lm_X9_183 li_X9_farFrom ls_X9_farFrom ini_X9 lc_X9_farFrom hd_X9_farFrom (by decide) (Nat.le_of_ble_eq_true rfl) (by decide) rfl dX9_isNearer_5 (fun r_1 σ_2 hh => ?_)
  clear h
  obtain ⟨e9, h⟩ := hh
  subst σ_2
  refine J_aln F 0 dX9_isNearer_8 rfl rfl ?_
  refine J_iln F 2 dX9_isNearer_9 rfl rfl ?_
  refine J_iln F 3 dX9_isNearer_10 rfl rfl ?_
  refine J_il F 4 dX9_isNearer_11 rfl ?_
  refine J_callVi F (As := [.int x2, .int x3, .int x4]) (st := [.int r_1]) (C_X9_farFrom l G x2 x3 x4  h) (ci := 9) ly_244 (by decide) rfl rfl lm_X9_183 li_X9_farFrom ls_X9_farFrom ini_X9 lc_X9_farFrom hd_X9_farFrom (by decide) (Nat.le_of_ble_eq_true rfl) (by decide) rfl dX9_isNearer_13 (fun r_3 σ_4 hh => ?_)
  clear h
  obtain ⟨e9, h⟩ := hh
  subst σ_4
  refine J_isub F dX9_isNearer_16 ?_
  refine J_top (fun x5_5 ex5_5 => ?_)
  have h := h x5_5 ex5_5
  refine J_is F (L' := [(5, .int x5_5), (0, .ref (gb G + 244)), (1, .int x1), (2, .int x2), (3, .int x3), (4, .int x4)]) dX9_isNearer_17 (by decide) rfl ?_
  refine J_il F 0 dX9_isNearer_19 rfl ?_
  refine J_zlt F (tgt := 34) dX9_isNearer_21 (by decide) (fun c_6 => ?_) (fun c_6 => ?_)
  · have h := h.1 c_6
    refine J_ic F dX9_isNearer_34 ki_1 ?_
    refine J_goto F (tgt := 39) dX9_isNearer_35 (by decide) ?_
    exact J_retz F (Or.inr rfl) ⟨_, rfl, rfl, h⟩ dX9_isNearer_39
  · have h := h.2 c_6
    refine J_il F 0 dX9_isNearer_24 rfl ?_
    refine J_zne F (tgt := 38) dX9_isNearer_26 (by decide) (fun c_7 => ?_) (fun c_7 => ?_)
    · have h := h.1 c_7
      refine J_ic F dX9_isNearer_38 ki_0 ?_
      exact J_retz F (Or.inl rfl) ⟨_, rfl, rfl, h⟩ dX9_isNearer_39
    · have h := h.2 c_7
      refine J_iln F 2 dX9_isNearer_29 rfl rfl ?_
      refine J_iln F 3 dX9_isNearer_30 rfl rfl ?_
      refine J_cge F (tgt := 38) dX9_isNearer_31 (by decide) (fun c_8 => ?_) (fun c_8 => ?_)
      · have h := h.1 c_8
        refine J_ic F dX9_isNearer_38 ki_0 ?_
        exact J_retz F (Or.inl rfl) ⟨_, rfl, rfl, h⟩ dX9_isNearer_39
      · have h := h.2 c_8
        refine J_ic F dX9_isNearer_34 ki_1 ?_
        refine J_goto F (tgt := 39) dX9_isNearer_35 (by decide) ?_
        exact J_retz F (Or.inr rfl) ⟨_, rfl, rfl, h⟩ dX9_isNearer_39
