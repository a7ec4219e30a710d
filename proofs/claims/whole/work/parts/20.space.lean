theorem dX4_copyFrom_0 : decode cX4_copyFrom 0 = .ok (.aload_n 1, 1) := by decide +kernel
theorem dX4_copyFrom_1 : decode cX4_copyFrom 1 = .ok (.getfield 9, 3) := by decide +kernel
theorem dX4_copyFrom_4 : decode cX4_copyFrom 4 = .ok (.iconst 0, 1) := by decide +kernel
theorem dX4_copyFrom_5 : decode cX4_copyFrom 5 = .ok (.aload_n 0, 1) := by decide +kernel
theorem dX4_copyFrom_6 : decode cX4_copyFrom 6 = .ok (.getfield 9, 3) := by decide +kernel
theorem dX4_copyFrom_9 : decode cX4_copyFrom 9 = .ok (.iconst 0, 1) := by decide +kernel
theorem dX4_copyFrom_10 : decode cX4_copyFrom 10 = .ok (.sipush 2048, 3) := by decide +kernel
theorem dX4_copyFrom_13 : decode cX4_copyFrom 13 = .ok (.invokestatic 27, 3) := by decide +kernel
theorem dX4_copyFrom_16 : decode cX4_copyFrom 16 = .ok (.aload_n 1, 1) := by decide +kernel
theorem dX4_copyFrom_17 : decode cX4_copyFrom 17 = .ok (.getfield 15, 3) := by decide +kernel
theorem dX4_copyFrom_20 : decode cX4_copyFrom 20 = .ok (.iconst 0, 1) := by decide +kernel
theorem dX4_copyFrom_21 : decode cX4_copyFrom 21 = .ok (.aload_n 0, 1) := by decide +kernel
theorem dX4_copyFrom_22 : decode cX4_copyFrom 22 = .ok (.getfield 15, 3) := by decide +kernel
theorem dX4_copyFrom_25 : decode cX4_copyFrom 25 = .ok (.iconst 0, 1) := by decide +kernel
theorem dX4_copyFrom_26 : decode cX4_copyFrom 26 = .ok (.bipush 10, 2) := by decide +kernel
theorem dX4_copyFrom_28 : decode cX4_copyFrom 28 = .ok (.invokestatic 27, 3) := by decide +kernel
theorem dX4_copyFrom_31 : decode cX4_copyFrom 31 = .ok (.aload_n 1, 1) := by decide +kernel
theorem dX4_copyFrom_32 : decode cX4_copyFrom 32 = .ok (.getfield 18, 3) := by decide +kernel
theorem dX4_copyFrom_35 : decode cX4_copyFrom 35 = .ok (.iconst 0, 1) := by decide +kernel
theorem dX4_copyFrom_36 : decode cX4_copyFrom 36 = .ok (.aload_n 0, 1) := by decide +kernel
theorem dX4_copyFrom_37 : decode cX4_copyFrom 37 = .ok (.getfield 18, 3) := by decide +kernel
theorem dX4_copyFrom_40 : decode cX4_copyFrom 40 = .ok (.iconst 0, 1) := by decide +kernel
theorem dX4_copyFrom_41 : decode cX4_copyFrom 41 = .ok (.bipush 10, 2) := by decide +kernel
theorem dX4_copyFrom_43 : decode cX4_copyFrom 43 = .ok (.invokestatic 27, 3) := by decide +kernel
theorem dX4_copyFrom_46 : decode cX4_copyFrom 46 = .ok (.return_, 1) := by decide +kernel
set_option maxRecDepth 20000 in
set_option maxHeartbeats 4000000 in
theorem C_X4_copyFrom (l : Launch) (G : Gp) (a0 : Nat) (a1 : Nat) (y0 : lay a0 = (4, 0)) (y1 : lay a1 = (4, 0)) {σ : St} {Q : St → Prop} (h : wp_X4_copyFrom σ a0 a1 Q) : Cn l yX4_copyFrom cX4_copyFrom 2 none 1 64 G [.ref (gb G + a0), .ref (gb G + a1)] σ (qV Q) := by
  refine Cn_of (L := [(0, .ref (gb G + a0)), (1, .ref (gb G + a1))]) RX4 (by decide) rfl (Nat.le_of_ble_eq_true rfl) rfl ?_
  intro p e s m below meth c F
  unfold wp_X4_copyFrom at h
  refine J_aln F 1 dX4_copyFrom_0 rfl rfl ?_
  refine J_gfr F (ci := 4) 0 rfl inX4 y1 (by decide) (by decide) rfl lf_X4_9 rfl dX4_copyFrom_1 ?_
  refine J_ic F dX4_copyFrom_4 ki_0 ?_
  refine J_aln F 0 dX4_copyFrom_5 rfl rfl ?_
  refine J_gfr F (ci := 4) 0 rfl inX4 y0 (by decide) (by decide) rfl lf_X4_9 rfl dX4_copyFrom_6 ?_
  refine J_ic F dX4_copyFrom_9 ki_0 ?_
  refine J_si F dX4_copyFrom_10 ks_2048 ?_
  refine J_copy F (lay_space y1).1 (lay_space y0).1 nI_0 rfl (by decide) lm_X4_27 na_copy st_copy ini_Sys (by decide) (Nat.le_of_ble_eq_true rfl) dX4_copyFrom_13 ?_
  refine J_st (fun σ_1 eσ_1 => ?_)
  have h := h σ_1 eσ_1
  refine J_aln F 1 dX4_copyFrom_16 rfl rfl ?_
  refine J_gfr F (ci := 4) 1 rfl inX4 y1 (by decide) (by decide) rfl lf_X4_15 rfl dX4_copyFrom_17 ?_
  refine J_ic F dX4_copyFrom_20 ki_0 ?_
  refine J_aln F 0 dX4_copyFrom_21 rfl rfl ?_
  refine J_gfr F (ci := 4) 1 rfl inX4 y0 (by decide) (by decide) rfl lf_X4_15 rfl dX4_copyFrom_22 ?_
  refine J_ic F dX4_copyFrom_25 ki_0 ?_
  refine J_bi F dX4_copyFrom_26 kb_10 ?_
  refine J_copy F (lay_space y1).2.1 (lay_space y0).2.1 nI_0 rfl (by decide) lm_X4_27 na_copy st_copy ini_Sys (by decide) (Nat.le_of_ble_eq_true rfl) dX4_copyFrom_28 ?_
  refine J_st (fun σ_2 eσ_2 => ?_)
  have h := h σ_2 eσ_2
  refine J_aln F 1 dX4_copyFrom_31 rfl rfl ?_
  refine J_gfr F (ci := 4) 2 rfl inX4 y1 (by decide) (by decide) rfl lf_X4_18 rfl dX4_copyFrom_32 ?_
  refine J_ic F dX4_copyFrom_35 ki_0 ?_
  refine J_aln F 0 dX4_copyFrom_36 rfl rfl ?_
  refine J_gfr F (ci := 4) 2 rfl inX4 y0 (by decide) (by decide) rfl lf_X4_18 rfl dX4_copyFrom_37 ?_
  refine J_ic F dX4_copyFrom_40 ki_0 ?_
  refine J_bi F dX4_copyFrom_41 kb_10 ?_
  refine J_copy F (lay_space y1).2.2 (lay_space y0).2.2 nI_0 rfl (by decide) lm_X4_27 na_copy st_copy ini_Sys (by decide) (Nat.le_of_ble_eq_true rfl) dX4_copyFrom_43 ?_
  refine J_st (fun σ_3 eσ_3 => ?_)
  have h := h σ_3 eσ_3
  exact J_retv F ⟨rfl, h⟩ dX4_copyFrom_46
theorem dX4_zoneAt_0 : decode cX4_zoneAt 0 = .ok (.sipush 1024, 3) := by decide +kernel
theorem dX4_zoneAt_3 : decode cX4_zoneAt 3 = .ok (.getstatic 37, 3) := by decide +kernel
theorem dX4_zoneAt_6 : decode cX4_zoneAt 6 = .ok (.iload_n 1, 1) := by decide +kernel
theorem dX4_zoneAt_7 : decode cX4_zoneAt 7 = .ok (.bipush 31, 2) := by decide +kernel
theorem dX4_zoneAt_9 : decode cX4_zoneAt 9 = .ok (.iand, 1) := by decide +kernel
theorem dX4_zoneAt_10 : decode cX4_zoneAt 10 = .ok (.iaload, 1) := by decide +kernel
theorem dX4_zoneAt_11 : decode cX4_zoneAt 11 = .ok (.iconst 1, 1) := by decide +kernel
theorem dX4_zoneAt_12 : decode cX4_zoneAt 12 = .ok (.ishl, 1) := by decide +kernel
theorem dX4_zoneAt_13 : decode cX4_zoneAt 13 = .ok (.ior, 1) := by decide +kernel
theorem dX4_zoneAt_14 : decode cX4_zoneAt 14 = .ok (.getstatic 37, 3) := by decide +kernel
theorem dX4_zoneAt_17 : decode cX4_zoneAt 17 = .ok (.iload_n 2, 1) := by decide +kernel
theorem dX4_zoneAt_18 : decode cX4_zoneAt 18 = .ok (.bipush 31, 2) := by decide +kernel
theorem dX4_zoneAt_20 : decode cX4_zoneAt 20 = .ok (.iand, 1) := by decide +kernel
theorem dX4_zoneAt_21 : decode cX4_zoneAt 21 = .ok (.iaload, 1) := by decide +kernel
theorem dX4_zoneAt_22 : decode cX4_zoneAt 22 = .ok (.ior, 1) := by decide +kernel
theorem dX4_zoneAt_23 : decode cX4_zoneAt 23 = .ok (.istore_n 3, 1) := by decide +kernel
theorem dX4_zoneAt_24 : decode cX4_zoneAt 24 = .ok (.bipush 10, 2) := by decide +kernel
theorem dX4_zoneAt_26 : decode cX4_zoneAt 26 = .ok (.istore 4, 2) := by decide +kernel
theorem dX4_zoneAt_28 : decode cX4_zoneAt 28 = .ok (.iload 4, 2) := by decide +kernel
theorem dX4_zoneAt_30 : decode cX4_zoneAt 30 = .ok (.ifCond .lt 26, 3) := by decide +kernel
theorem dX4_zoneAt_33 : decode cX4_zoneAt 33 = .ok (.aload_n 0, 1) := by decide +kernel
theorem dX4_zoneAt_34 : decode cX4_zoneAt 34 = .ok (.getfield 9, 3) := by decide +kernel
theorem dX4_zoneAt_37 : decode cX4_zoneAt 37 = .ok (.iload_n 3, 1) := by decide +kernel
theorem dX4_zoneAt_38 : decode cX4_zoneAt 38 = .ok (.iload 4, 2) := by decide +kernel
theorem dX4_zoneAt_40 : decode cX4_zoneAt 40 = .ok (.ishr, 1) := by decide +kernel
theorem dX4_zoneAt_41 : decode cX4_zoneAt 41 = .ok (.iaload, 1) := by decide +kernel
theorem dX4_zoneAt_42 : decode cX4_zoneAt 42 = .ok (.ifCond .eq 8, 3) := by decide +kernel
theorem dX4_zoneAt_45 : decode cX4_zoneAt 45 = .ok (.iload_n 3, 1) := by decide +kernel
theorem dX4_zoneAt_46 : decode cX4_zoneAt 46 = .ok (.iload 4, 2) := by decide +kernel
theorem dX4_zoneAt_48 : decode cX4_zoneAt 48 = .ok (.ishr, 1) := by decide +kernel
theorem dX4_zoneAt_49 : decode cX4_zoneAt 49 = .ok (.ireturn, 1) := by decide +kernel
theorem dX4_zoneAt_50 : decode cX4_zoneAt 50 = .ok (.iinc 4 (-1), 3) := by decide +kernel
theorem dX4_zoneAt_53 : decode cX4_zoneAt 53 = .ok (.goto (-25), 3) := by decide +kernel
theorem dX4_zoneAt_56 : decode cX4_zoneAt 56 = .ok (.iconst 0, 1) := by decide +kernel
theorem dX4_zoneAt_57 : decode cX4_zoneAt 57 = .ok (.ireturn, 1) := by decide +kernel
set_option maxRecDepth 20000 in
set_option maxHeartbeats 4000000 in
theorem wk_X4_zoneAt_28 {p : Program} {l : Launch} {e : Env} {s : State} {m : MethodId} {args : Array Value} {below : List Frame} {meth : Method} {c : Code} {G : Gp} {σ : St} {a0 : Nat} {x3 : Int32}  {Q : Int32 → Prop} (F : FX p s m args meth c cX4_zoneAt 5 (some .int) RX4 G) (y0 : lay a0 = (4, 0))  : ∀ (n9 : Nat) (x4 : Int32), LP1 (wp_X4_zoneAt_28 σ a0 x3 Q) n9 x4 → J p l e (rmF 0 0) s m args below meth c 5 G (MQ below (QQ G (qI (fun r σ' => σ' = σ ∧ Q r))) args s 0 0 (fr G)) 0 0 28 [(0, .ref (gb G + a0)), (3, .int x3), (4, .int x4)] [] σ := by
  intro n9
  induction n9 with
  | zero => intro x4 h; exact h.elim
  | succ n9 i28 =>
    intro x4 h
    have h : wp_X4_zoneAt_28 σ a0 x3 Q (LP1 (wp_X4_zoneAt_28 σ a0 x3 Q) n9) x4 := h
    unfold wp_X4_zoneAt_28 at h
    refine J_il F 2 dX4_zoneAt_28 rfl ?_
    refine J_zlt F (tgt := 56) dX4_zoneAt_30 (by decide) (fun c_1 => ?_) (fun c_1 => ?_)
    · have h := h.1 c_1
      refine J_ic F dX4_zoneAt_56 ki_0 ?_
      exact J_reti F ⟨_, rfl, rfl, h⟩ dX4_zoneAt_57
    · have h := h.2 c_1
      refine J_aln F 0 dX4_zoneAt_33 rfl rfl ?_
      refine J_gfr F (ci := 4) 0 rfl inX4 y0 (by decide) (by decide) rfl lf_X4_9 rfl dX4_zoneAt_34 ?_
      refine J_iln F 1 dX4_zoneAt_37 rfl rfl ?_
      refine J_il F 2 dX4_zoneAt_38 rfl ?_
      refine J_ishr F dX4_zoneAt_40 ?_
      obtain ⟨h_2, h⟩ := h
      refine J_iald F (lay_space y0).1 h_2 dX4_zoneAt_41 ?_
      refine J_zeq F (tgt := 50) dX4_zoneAt_42 (by decide) (fun c_3 => ?_) (fun c_3 => ?_)
      · have h := h.1 c_3
        obtain ⟨x4_4, ex4_4⟩ : ∃ z : Int32, z = x4 + (-1) := ⟨_, rfl⟩
        have h := h x4_4 ex4_4
        refine J_iinc F (v := x4_4) (L' := [(4, .int x4_4), (0, .ref (gb G + a0)), (3, .int x3)]) 2 dX4_zoneAt_50 rfl (by rw [ki_m1, ex4_4]) (by decide) rfl ?_
        refine J_goto F (tgt := 28) dX4_zoneAt_53 (by decide) ?_
        refine J_sub [1, 2, 0] rfl ?_
        exact i28 _ h
      · have h := h.2 c_3
        refine J_iln F 1 dX4_zoneAt_45 rfl rfl ?_
        refine J_il F 2 dX4_zoneAt_46 rfl ?_
        refine J_ishr F dX4_zoneAt_48 ?_
        exact J_reti F ⟨_, rfl, rfl, h⟩ dX4_zoneAt_49
set_option maxRecDepth 20000 in
set_option maxHeartbeats 4000000 in
theorem C_X4_zoneAt (l : Launch) (G : Gp) (a0 : Nat) (x1 : Int32) (x2 : Int32) (y0 : lay a0 = (4, 0)) {σ : St} {Q : Int32 → Prop} (h : wp_X4_zoneAt σ a0 x1 x2 Q) : Cn l yX4_zoneAt cX4_zoneAt 5 (some .int) 0 0 G [.ref (gb G + a0), .int x1, .int x2] σ (qI (fun r σ' => σ' = σ ∧ Q r)) := by
  refine Cn_of (L := [(0, .ref (gb G + a0)), (1, .int x1), (2, .int x2)]) RX4 (by decide) rfl (Nat.le_of_ble_eq_true rfl) rfl ?_
  intro p e s m below meth c F
  unfold wp_X4_zoneAt at h
  refine J_si F dX4_zoneAt_0 ks_1024 ?_
  refine J_gss F rfl dX4_zoneAt_3 ?_
  refine J_iln F 1 dX4_zoneAt_6 rfl rfl ?_
  refine J_bi F dX4_zoneAt_7 kb_31 ?_
  refine J_iand F dX4_zoneAt_9 ?_
  obtain ⟨h_5, h⟩ := h
  refine J_gsl F h_5 dX4_zoneAt_10 ?_
  refine J_ic F dX4_zoneAt_11 ki_1 ?_
  refine J_ishl F dX4_zoneAt_12 ?_
  refine J_ior F dX4_zoneAt_13 ?_
  refine J_gss F rfl dX4_zoneAt_14 ?_
  refine J_iln F 2 dX4_zoneAt_17 rfl rfl ?_
  refine J_bi F dX4_zoneAt_18 kb_31 ?_
  refine J_iand F dX4_zoneAt_20 ?_
  obtain ⟨h_6, h⟩ := h
  refine J_gsl F h_6 dX4_zoneAt_21 ?_
  refine J_ior F dX4_zoneAt_22 ?_
  refine J_top (fun x3_7 ex3_7 => ?_)
  have h := h x3_7 ex3_7
  refine J_isn F (L' := [(3, .int x3_7), (0, .ref (gb G + a0)), (1, .int x1), (2, .int x2)]) dX4_zoneAt_23 rfl (by decide) rfl ?_
  refine J_bi F dX4_zoneAt_24 kb_10 ?_
  refine J_is F (L' := [(4, .int (nI 10)), (3, .int x3_7), (0, .ref (gb G + a0)), (1, .int x1), (2, .int x2)]) dX4_zoneAt_26 (by decide) rfl ?_
  refine J_sub [2, 1, 0] rfl ?_
  obtain ⟨n9, h⟩ := h
  exact wk_X4_zoneAt_28 F y0 n9 _ h
theorem dX4_nodeAt_0 : decode cX4_nodeAt 0 = .ok (.aload_n 0, 1) := by decide +kernel
theorem dX4_nodeAt_1 : decode cX4_nodeAt 1 = .ok (.getfield 9, 3) := by decide +kernel
theorem dX4_nodeAt_4 : decode cX4_nodeAt 4 = .ok (.aload_n 0, 1) := by decide +kernel
theorem dX4_nodeAt_5 : decode cX4_nodeAt 5 = .ok (.iload_n 1, 1) := by decide +kernel
theorem dX4_nodeAt_6 : decode cX4_nodeAt 6 = .ok (.iload_n 2, 1) := by decide +kernel
theorem dX4_nodeAt_7 : decode cX4_nodeAt 7 = .ok (.invokevirtual 40, 3) := by decide +kernel
theorem dX4_nodeAt_10 : decode cX4_nodeAt 10 = .ok (.iaload, 1) := by decide +kernel
theorem dX4_nodeAt_11 : decode cX4_nodeAt 11 = .ok (.iconst 1, 1) := by decide +kernel
theorem dX4_nodeAt_12 : decode cX4_nodeAt 12 = .ok (.isub, 1) := by decide +kernel
theorem dX4_nodeAt_13 : decode cX4_nodeAt 13 = .ok (.ireturn, 1) := by decide +kernel
set_option maxRecDepth 20000 in
set_option maxHeartbeats 4000000 in
theorem C_X4_nodeAt (l : Launch) (G : Gp) (a0 : Nat) (x1 : Int32) (x2 : Int32) (y0 : lay a0 = (4, 0)) {σ : St} {Q : Int32 → Prop} (h : wp_X4_nodeAt σ a0 x1 x2 Q) : Cn l yX4_nodeAt cX4_nodeAt 3 (some .int) 1 24 G [.ref (gb G + a0), .int x1, .int x2] σ (qI (fun r σ' => σ' = σ ∧ Q r)) := by
  refine Cn_of (L := [(0, .ref (gb G + a0)), (1, .int x1), (2, .int x2)]) RX4 (by decide) rfl (Nat.le_of_ble_eq_true rfl) rfl ?_
  intro p e s m below meth c F
  unfold wp_X4_nodeAt at h
  refine J_aln F 0 dX4_nodeAt_0 rfl rfl ?_
  refine J_gfr F (ci := 4) 0 rfl inX4 y0 (by decide) (by decide) rfl lf_X4_9 rfl dX4_nodeAt_1 ?_
  refine J_aln F 0 dX4_nodeAt_4 rfl rfl ?_
  refine J_iln F 1 dX4_nodeAt_5 rfl rfl ?_
  refine J_iln F 2 dX4_nodeAt_6 rfl rfl ?_
  refine J_callVi F (As := [.int x1, .int x2]) (st := [.ref (gb G + (a0 + 1))]) (C_X4_zoneAt l G a0 x1 x2 y0 h) (ci := 4) y0 (by decide) rfl rfl lm_X4_40 li_X4_zoneAt ls_X4_zoneAt ini_X4 lc_X4_zoneAt hd_X4_zoneAt (by decide) (Nat.le_of_ble_eq_true rfl) (by decide) rfl dX4_nodeAt_7 (fun r_1 σ_2 hh => ?_)
  clear h
  obtain ⟨e9, h⟩ := hh
  subst σ_2
  obtain ⟨h_3, h⟩ := h
  refine J_iald F (lay_space y0).1 h_3 dX4_nodeAt_10 ?_
  refine J_ic F dX4_nodeAt_11 ki_1 ?_
  refine J_isub F dX4_nodeAt_12 ?_
  exact J_reti F ⟨_, rfl, rfl, h⟩ dX4_nodeAt_13
theorem dJ7_fill_53178_0 : decode cJ7_fill_53178 0 = .ok (.iconst 0, 1) := by decide +kernel
theorem dJ7_fill_53178_1 : decode cJ7_fill_53178 1 = .ok (.istore_n 2, 1) := by decide +kernel
theorem dJ7_fill_53178_2 : decode cJ7_fill_53178 2 = .ok (.aload_n 0, 1) := by decide +kernel
theorem dJ7_fill_53178_3 : decode cJ7_fill_53178 3 = .ok (.arraylength, 1) := by decide +kernel
theorem dJ7_fill_53178_4 : decode cJ7_fill_53178 4 = .ok (.istore_n 3, 1) := by decide +kernel
theorem dJ7_fill_53178_5 : decode cJ7_fill_53178 5 = .ok (.iload_n 2, 1) := by decide +kernel
theorem dJ7_fill_53178_6 : decode cJ7_fill_53178 6 = .ok (.iload_n 3, 1) := by decide +kernel
theorem dJ7_fill_53178_7 : decode cJ7_fill_53178 7 = .ok (.if_icmp .ge 13, 3) := by decide +kernel
theorem dJ7_fill_53178_10 : decode cJ7_fill_53178 10 = .ok (.aload_n 0, 1) := by decide +kernel
theorem dJ7_fill_53178_11 : decode cJ7_fill_53178 11 = .ok (.iload_n 2, 1) := by decide +kernel
theorem dJ7_fill_53178_12 : decode cJ7_fill_53178 12 = .ok (.iload_n 1, 1) := by decide +kernel
theorem dJ7_fill_53178_13 : decode cJ7_fill_53178 13 = .ok (.iastore, 1) := by decide +kernel
theorem dJ7_fill_53178_14 : decode cJ7_fill_53178 14 = .ok (.iinc 2 1, 3) := by decide +kernel
theorem dJ7_fill_53178_17 : decode cJ7_fill_53178 17 = .ok (.goto (-12), 3) := by decide +kernel
theorem dJ7_fill_53178_20 : decode cJ7_fill_53178 20 = .ok (.return_, 1) := by decide +kernel
set_option maxRecDepth 20000 in
set_option maxHeartbeats 4000000 in
theorem wk_J7_fill_53178_5 {p : Program} {l : Launch} {e : Env} {s : State} {m : MethodId} {args : Array Value} {below : List Frame} {meth : Method} {c : Code} {G : Gp} {a0 : Nat} {n0 : Nat} {x1 : Int32} {x3 : Int32}  {Q : St → Prop} (F : FX p s m args meth c cJ7_fill_53178 4 none RJ7 G) (y0 : lay a0 = (10, n0))  : ∀ (n9 : Nat) (σ : St) (x2 : Int32), LP2 (wp_J7_fill_53178_5 a0 n0 x1 x3 Q) n9 σ x2 → J p l e (rmF 0 0) s m args below meth c 4 G (MQ below (QQ G (qV Q)) args s 0 0 (fr G)) 0 0 5 [(0, .ref (gb G + a0)), (1, .int x1), (2, .int x2), (3, .int x3)] [] σ := by
  intro n9
  induction n9 with
  | zero => intro σ x2 h; exact h.elim
  | succ n9 i5 =>
    intro σ x2 h
    have h : wp_J7_fill_53178_5 a0 n0 x1 x3 Q (LP2 (wp_J7_fill_53178_5 a0 n0 x1 x3 Q) n9) σ x2 := h
    unfold wp_J7_fill_53178_5 at h
    refine J_iln F 2 dJ7_fill_53178_5 rfl rfl ?_
    refine J_iln F 3 dJ7_fill_53178_6 rfl rfl ?_
    refine J_cge F (tgt := 20) dJ7_fill_53178_7 (by decide) (fun c_1 => ?_) (fun c_1 => ?_)
    · have h := h.1 c_1
      exact J_retv F ⟨rfl, h⟩ dJ7_fill_53178_20
    · have h := h.2 c_1
      refine J_aln F 0 dJ7_fill_53178_10 rfl rfl ?_
      refine J_iln F 2 dJ7_fill_53178_11 rfl rfl ?_
      refine J_iln F 1 dJ7_fill_53178_12 rfl rfl ?_
      obtain ⟨h_2, h⟩ := h
      refine J_iast F y0 h_2 dJ7_fill_53178_13 ?_
      refine J_st (fun σ_3 eσ_3 => ?_)
      have h := h σ_3 eσ_3
      obtain ⟨x2_4, ex2_4⟩ : ∃ z : Int32, z = x2 + (nI 1) := ⟨_, rfl⟩
      have h := h x2_4 ex2_4
      refine J_iinc F (v := x2_4) (L' := [(2, .int x2_4), (0, .ref (gb G + a0)), (1, .int x1), (3, .int x3)]) 2 dJ7_fill_53178_14 rfl (by rw [ki_1, ex2_4]) (by decide) rfl ?_
      refine J_goto F (tgt := 5) dJ7_fill_53178_17 (by decide) ?_
      refine J_sub [1, 2, 0, 3] rfl ?_
      exact i5 _ _ h
set_option maxRecDepth 20000 in
set_option maxHeartbeats 4000000 in
theorem C_J7_fill_53178 (l : Launch) (G : Gp) (a0 : Nat) (n0 : Nat) (x1 : Int32) (y0 : lay a0 = (10, n0)) {σ : St} {Q : St → Prop} (h : wp_J7_fill_53178 σ a0 n0 x1 Q) : Cn l yJ7_fill_53178 cJ7_fill_53178 4 none 0 0 G [.ref (gb G + a0), .int x1] σ (qV Q) := by
  refine Cn_of (L := [(0, .ref (gb G + a0)), (1, .int x1)]) RJ7 (by decide) rfl (Nat.le_of_ble_eq_true rfl) rfl ?_
  intro p e s m below meth c F
  unfold wp_J7_fill_53178 at h
  refine J_ic F dJ7_fill_53178_0 ki_0 ?_
  refine J_isn F (L' := [(2, .int (nI 0)), (0, .ref (gb G + a0)), (1, .int x1)]) dJ7_fill_53178_1 rfl (by decide) rfl ?_
  refine J_aln F 1 dJ7_fill_53178_2 rfl rfl ?_
  refine J_alenI F (v := nI n0) y0 rfl dJ7_fill_53178_3 ?_
  refine J_top (fun x3_5 ex3_5 => ?_)
  have h := h x3_5 ex3_5
  refine J_isn F (L' := [(3, .int x3_5), (2, .int (nI 0)), (0, .ref (gb G + a0)), (1, .int x1)]) dJ7_fill_53178_4 rfl (by decide) rfl ?_
  refine J_sub [2, 3, 1, 0] rfl ?_
  obtain ⟨n9, h⟩ := h
  exact wk_J7_fill_53178_5 F y0 n9 _ _ h
theorem dX4_clear_0 : decode cX4_clear 0 = .ok (.aload_n 0, 1) := by decide +kernel
theorem dX4_clear_1 : decode cX4_clear 1 = .ok (.getfield 9, 3) := by decide +kernel
theorem dX4_clear_4 : decode cX4_clear 4 = .ok (.iconst 0, 1) := by decide +kernel
theorem dX4_clear_5 : decode cX4_clear 5 = .ok (.invokestatic 21, 3) := by decide +kernel
theorem dX4_clear_8 : decode cX4_clear 8 = .ok (.aload_n 0, 1) := by decide +kernel
theorem dX4_clear_9 : decode cX4_clear 9 = .ok (.getfield 15, 3) := by decide +kernel
theorem dX4_clear_12 : decode cX4_clear 12 = .ok (.iconst 0, 1) := by decide +kernel
theorem dX4_clear_13 : decode cX4_clear 13 = .ok (.invokestatic 21, 3) := by decide +kernel
theorem dX4_clear_16 : decode cX4_clear 16 = .ok (.aload_n 0, 1) := by decide +kernel
theorem dX4_clear_17 : decode cX4_clear 17 = .ok (.getfield 18, 3) := by decide +kernel
theorem dX4_clear_20 : decode cX4_clear 20 = .ok (.iconst 0, 1) := by decide +kernel
theorem dX4_clear_21 : decode cX4_clear 21 = .ok (.invokestatic 21, 3) := by decide +kernel
theorem dX4_clear_24 : decode cX4_clear 24 = .ok (.return_, 1) := by decide +kernel
set_option maxRecDepth 20000 in
set_option maxHeartbeats 4000000 in
theorem C_X4_clear (l : Launch) (G : Gp) (a0 : Nat) (y0 : lay a0 = (4, 0)) {σ : St} {Q : St → Prop} (h : wp_X4_clear σ a0 Q) : Cn l yX4_clear cX4_clear 1 none 1 23 G [.ref (gb G + a0)] σ (qV Q) := by
  refine Cn_of (L := [(0, .ref (gb G + a0))]) RX4 (by decide) rfl (Nat.le_of_ble_eq_true rfl) rfl ?_
  intro p e s m below meth c F
  unfold wp_X4_clear at h
  refine J_aln F 0 dX4_clear_0 rfl rfl ?_
  refine J_gfr F (ci := 4) 0 rfl inX4 y0 (by decide) (by decide) rfl lf_X4_9 rfl dX4_clear_1 ?_
  refine J_ic F dX4_clear_4 ki_0 ?_
  refine J_callSv F (As := [.ref (gb G + (a0 + 1)), .int (nI 0)]) (st := []) (C_J7_fill_53178 l G (a0 + 1) 2048 (nI 0) (lay_space y0).1 h) lm_X4_21 li_J7_fill_53178 ini_J7 lc_J7_fill_53178 hd_J7_fill_53178 (by decide) (Nat.le_of_ble_eq_true rfl) (by decide) rfl dX4_clear_5 (fun σ_1 h => ?_)
  refine J_aln F 0 dX4_clear_8 rfl rfl ?_
  refine J_gfr F (ci := 4) 1 rfl inX4 y0 (by decide) (by decide) rfl lf_X4_15 rfl dX4_clear_9 ?_
  refine J_ic F dX4_clear_12 ki_0 ?_
  refine J_callSv F (As := [.ref (gb G + (a0 + 2)), .int (nI 0)]) (st := []) (C_J7_fill_53178 l G (a0 + 2) 10 (nI 0) (lay_space y0).2.1 h) lm_X4_21 li_J7_fill_53178 ini_J7 lc_J7_fill_53178 hd_J7_fill_53178 (by decide) (Nat.le_of_ble_eq_true rfl) (by decide) rfl dX4_clear_13 (fun σ_2 h => ?_)
  refine J_aln F 0 dX4_clear_16 rfl rfl ?_
  refine J_gfr F (ci := 4) 2 rfl inX4 y0 (by decide) (by decide) rfl lf_X4_18 rfl dX4_clear_17 ?_
  refine J_ic F dX4_clear_20 ki_0 ?_
  refine J_callSv F (As := [.ref (gb G + (a0 + 3)), .int (nI 0)]) (st := []) (C_J7_fill_53178 l G (a0 + 3) 10 (nI 0) (lay_space y0).2.2 h) lm_X4_21 li_J7_fill_53178 ini_J7 lc_J7_fill_53178 hd_J7_fill_53178 (by decide) (Nat.le_of_ble_eq_true rfl) (by decide) rfl dX4_clear_21 (fun σ_3 h => ?_)
  exact J_retv F ⟨rfl, h⟩ dX4_clear_24
theorem dX4_depthOf_0 : decode cX4_depthOf 0 = .ok (.iconst 0, 1) := by decide +kernel
theorem dX4_depthOf_1 : decode cX4_depthOf 1 = .ok (.istore_n 1, 1) := by decide +kernel
theorem dX4_depthOf_2 : decode cX4_depthOf 2 = .ok (.iload_n 1, 1) := by decide +kernel
theorem dX4_depthOf_3 : decode cX4_depthOf 3 = .ok (.bipush 10, 2) := by decide +kernel
theorem dX4_depthOf_5 : decode cX4_depthOf 5 = .ok (.if_icmp .ge 18, 3) := by decide +kernel
theorem dX4_depthOf_8 : decode cX4_depthOf 8 = .ok (.iload_n 0, 1) := by decide +kernel
theorem dX4_depthOf_9 : decode cX4_depthOf 9 = .ok (.iload_n 1, 1) := by decide +kernel
theorem dX4_depthOf_10 : decode cX4_depthOf 10 = .ok (.ishr, 1) := by decide +kernel
theorem dX4_depthOf_11 : decode cX4_depthOf 11 = .ok (.iconst 1, 1) := by decide +kernel
theorem dX4_depthOf_12 : decode cX4_depthOf 12 = .ok (.if_icmp .gt 5, 3) := by decide +kernel
theorem dX4_depthOf_15 : decode cX4_depthOf 15 = .ok (.iload_n 1, 1) := by decide +kernel
theorem dX4_depthOf_16 : decode cX4_depthOf 16 = .ok (.ireturn, 1) := by decide +kernel
theorem dX4_depthOf_17 : decode cX4_depthOf 17 = .ok (.iinc 1 1, 3) := by decide +kernel
theorem dX4_depthOf_20 : decode cX4_depthOf 20 = .ok (.goto (-18), 3) := by decide +kernel
theorem dX4_depthOf_23 : decode cX4_depthOf 23 = .ok (.bipush 10, 2) := by decide +kernel
theorem dX4_depthOf_25 : decode cX4_depthOf 25 = .ok (.ireturn, 1) := by decide +kernel
set_option maxRecDepth 20000 in
set_option maxHeartbeats 4000000 in
theorem wk_X4_depthOf_2 {p : Program} {l : Launch} {e : Env} {s : State} {m : MethodId} {args : Array Value} {below : List Frame} {meth : Method} {c : Code} {G : Gp} {σ : St} {x0 : Int32}  {Q : Int32 → Prop} (F : FX p s m args meth c cX4_depthOf 2 (some .int) RX4 G)   : ∀ (n9 : Nat) (x1 : Int32), LP1 (wp_X4_depthOf_2 σ x0 Q) n9 x1 → J p l e (rmF 0 0) s m args below meth c 2 G (MQ below (QQ G (qI (fun r σ' => σ' = σ ∧ Q r))) args s 0 0 (fr G)) 0 0 2 [(0, .int x0), (1, .int x1)] [] σ := by
  intro n9
  induction n9 with
  | zero => intro x1 h; exact h.elim
  | succ n9 i2 =>
    intro x1 h
    have h : wp_X4_depthOf_2 σ x0 Q (LP1 (wp_X4_depthOf_2 σ x0 Q) n9) x1 := h
    unfold wp_X4_depthOf_2 at h
    refine J_iln F 1 dX4_depthOf_2 rfl rfl ?_
    refine J_bi F dX4_depthOf_3 kb_10 ?_
    refine J_cge F (tgt := 23) dX4_depthOf_5 (by decide) (fun c_1 => ?_) (fun c_1 => ?_)
    · have h := h.1 c_1
      refine J_bi F dX4_depthOf_23 kb_10 ?_
      exact J_reti F ⟨_, rfl, rfl, h⟩ dX4_depthOf_25
    · have h := h.2 c_1
      refine J_iln F 0 dX4_depthOf_8 rfl rfl ?_
      refine J_iln F 1 dX4_depthOf_9 rfl rfl ?_
      refine J_ishr F dX4_depthOf_10 ?_
      refine J_ic F dX4_depthOf_11 ki_1 ?_
      refine J_cgt F (tgt := 17) dX4_depthOf_12 (by decide) (fun c_2 => ?_) (fun c_2 => ?_)
      · have h := h.1 c_2
        obtain ⟨x1_3, ex1_3⟩ : ∃ z : Int32, z = x1 + (nI 1) := ⟨_, rfl⟩
        have h := h x1_3 ex1_3
        refine J_iinc F (v := x1_3) (L' := [(1, .int x1_3), (0, .int x0)]) 1 dX4_depthOf_17 rfl (by rw [ki_1, ex1_3]) (by decide) rfl ?_
        refine J_goto F (tgt := 2) dX4_depthOf_20 (by decide) ?_
        refine J_sub [1, 0] rfl ?_
        exact i2 _ h
      · have h := h.2 c_2
        refine J_iln F 1 dX4_depthOf_15 rfl rfl ?_
        exact J_reti F ⟨_, rfl, rfl, h⟩ dX4_depthOf_16
set_option maxRecDepth 20000 in
set_option maxHeartbeats 4000000 in
theorem C_X4_depthOf (l : Launch) (G : Gp) (x0 : Int32)  {σ : St} {Q : Int32 → Prop} (h : wp_X4_depthOf σ x0 Q) : Cn l yX4_depthOf cX4_depthOf 2 (some .int) 0 0 G [.int x0] σ (qI (fun r σ' => σ' = σ ∧ Q r)) := by
  refine Cn_of (L := [(0, .int x0)]) RX4 (by decide) rfl (Nat.le_of_ble_eq_true rfl) rfl ?_
  intro p e s m below meth c F
  unfold wp_X4_depthOf at h
  refine J_ic F dX4_depthOf_0 ki_0 ?_
  refine J_isn F (L' := [(1, .int (nI 0)), (0, .int x0)]) dX4_depthOf_1 rfl (by decide) rfl ?_
  refine J_sub [1, 0] rfl ?_
  obtain ⟨n9, h⟩ := h
  exact wk_X4_depthOf_2 F  n9 _ h
theorem dX4_give_0 : decode cX4_give 0 = .ok (.sipush 1024, 3) := by decide +kernel
theorem dX4_give_3 : decode cX4_give 3 = .ok (.iload_n 1, 1) := by decide +kernel
theorem dX4_give_4 : decode cX4_give 4 = .ok (.invokestatic 52, 3) := by decide +kernel
theorem dX4_give_7 : decode cX4_give 7 = .ok (.ishr, 1) := by decide +kernel
theorem dX4_give_8 : decode cX4_give 8 = .ok (.istore_n 3, 1) := by decide +kernel
theorem dX4_give_9 : decode cX4_give 9 = .ok (.aload_n 0, 1) := by decide +kernel
theorem dX4_give_10 : decode cX4_give 10 = .ok (.getfield 9, 3) := by decide +kernel
theorem dX4_give_13 : decode cX4_give 13 = .ok (.iload_n 1, 1) := by decide +kernel
theorem dX4_give_14 : decode cX4_give 14 = .ok (.iaload, 1) := by decide +kernel
theorem dX4_give_15 : decode cX4_give 15 = .ok (.iconst 1, 1) := by decide +kernel
theorem dX4_give_16 : decode cX4_give 16 = .ok (.isub, 1) := by decide +kernel
theorem dX4_give_17 : decode cX4_give 17 = .ok (.istore 4, 2) := by decide +kernel
theorem dX4_give_19 : decode cX4_give 19 = .ok (.iload 4, 2) := by decide +kernel
theorem dX4_give_21 : decode cX4_give 21 = .ok (.ifCond .lt 25, 3) := by decide +kernel
theorem dX4_give_24 : decode cX4_give 24 = .ok (.aload_n 0, 1) := by decide +kernel
theorem dX4_give_25 : decode cX4_give 25 = .ok (.getfield 15, 3) := by decide +kernel
theorem dX4_give_28 : decode cX4_give 28 = .ok (.iload 4, 2) := by decide +kernel
theorem dX4_give_30 : decode cX4_give 30 = .ok (.dup2, 1) := by decide +kernel
theorem dX4_give_31 : decode cX4_give 31 = .ok (.iaload, 1) := by decide +kernel
theorem dX4_give_32 : decode cX4_give 32 = .ok (.iload_n 3, 1) := by decide +kernel
theorem dX4_give_33 : decode cX4_give 33 = .ok (.isub, 1) := by decide +kernel
theorem dX4_give_34 : decode cX4_give 34 = .ok (.iastore, 1) := by decide +kernel
theorem dX4_give_35 : decode cX4_give 35 = .ok (.aload_n 0, 1) := by decide +kernel
theorem dX4_give_36 : decode cX4_give 36 = .ok (.getfield 18, 3) := by decide +kernel
theorem dX4_give_39 : decode cX4_give 39 = .ok (.iload 4, 2) := by decide +kernel
theorem dX4_give_41 : decode cX4_give 41 = .ok (.dup2, 1) := by decide +kernel
theorem dX4_give_42 : decode cX4_give 42 = .ok (.iaload, 1) := by decide +kernel
theorem dX4_give_43 : decode cX4_give 43 = .ok (.iconst 1, 1) := by decide +kernel
theorem dX4_give_44 : decode cX4_give 44 = .ok (.isub, 1) := by decide +kernel
theorem dX4_give_45 : decode cX4_give 45 = .ok (.iastore, 1) := by decide +kernel
theorem dX4_give_46 : decode cX4_give 46 = .ok (.aload_n 0, 1) := by decide +kernel
theorem dX4_give_47 : decode cX4_give 47 = .ok (.getfield 15, 3) := by decide +kernel
theorem dX4_give_50 : decode cX4_give 50 = .ok (.iload_n 2, 1) := by decide +kernel
theorem dX4_give_51 : decode cX4_give 51 = .ok (.dup2, 1) := by decide +kernel
theorem dX4_give_52 : decode cX4_give 52 = .ok (.iaload, 1) := by decide +kernel
theorem dX4_give_53 : decode cX4_give 53 = .ok (.iload_n 3, 1) := by decide +kernel
theorem dX4_give_54 : decode cX4_give 54 = .ok (.iadd, 1) := by decide +kernel
theorem dX4_give_55 : decode cX4_give 55 = .ok (.iastore, 1) := by decide +kernel
theorem dX4_give_56 : decode cX4_give 56 = .ok (.aload_n 0, 1) := by decide +kernel
theorem dX4_give_57 : decode cX4_give 57 = .ok (.getfield 18, 3) := by decide +kernel
theorem dX4_give_60 : decode cX4_give 60 = .ok (.iload_n 2, 1) := by decide +kernel
theorem dX4_give_61 : decode cX4_give 61 = .ok (.dup2, 1) := by decide +kernel
theorem dX4_give_62 : decode cX4_give 62 = .ok (.iaload, 1) := by decide +kernel
theorem dX4_give_63 : decode cX4_give 63 = .ok (.iconst 1, 1) := by decide +kernel
theorem dX4_give_64 : decode cX4_give 64 = .ok (.iadd, 1) := by decide +kernel
theorem dX4_give_65 : decode cX4_give 65 = .ok (.iastore, 1) := by decide +kernel
theorem dX4_give_66 : decode cX4_give 66 = .ok (.aload_n 0, 1) := by decide +kernel
theorem dX4_give_67 : decode cX4_give 67 = .ok (.getfield 9, 3) := by decide +kernel
theorem dX4_give_70 : decode cX4_give 70 = .ok (.iload_n 1, 1) := by decide +kernel
theorem dX4_give_71 : decode cX4_give 71 = .ok (.iload_n 2, 1) := by decide +kernel
theorem dX4_give_72 : decode cX4_give 72 = .ok (.iconst 1, 1) := by decide +kernel
theorem dX4_give_73 : decode cX4_give 73 = .ok (.iadd, 1) := by decide +kernel
theorem dX4_give_74 : decode cX4_give 74 = .ok (.iastore, 1) := by decide +kernel
theorem dX4_give_75 : decode cX4_give 75 = .ok (.iload_n 1, 1) := by decide +kernel
theorem dX4_give_76 : decode cX4_give 76 = .ok (.istore 5, 2) := by decide +kernel
theorem dX4_give_78 : decode cX4_give 78 = .ok (.iconst 0, 1) := by decide +kernel
theorem dX4_give_79 : decode cX4_give 79 = .ok (.istore 6, 2) := by decide +kernel
theorem dX4_give_81 : decode cX4_give 81 = .ok (.iload 6, 2) := by decide +kernel
theorem dX4_give_83 : decode cX4_give 83 = .ok (.bipush 10, 2) := by decide +kernel
theorem dX4_give_85 : decode cX4_give 85 = .ok (.if_icmp .ge 74, 3) := by decide +kernel
theorem dX4_give_88 : decode cX4_give 88 = .ok (.iload 5, 2) := by decide +kernel
theorem dX4_give_90 : decode cX4_give 90 = .ok (.iconst 1, 1) := by decide +kernel
theorem dX4_give_91 : decode cX4_give 91 = .ok (.if_icmp .le 68, 3) := by decide +kernel
theorem dX4_give_94 : decode cX4_give 94 = .ok (.aload_n 0, 1) := by decide +kernel
theorem dX4_give_95 : decode cX4_give 95 = .ok (.getfield 9, 3) := by decide +kernel
theorem dX4_give_98 : decode cX4_give 98 = .ok (.iload 5, 2) := by decide +kernel
theorem dX4_give_100 : decode cX4_give 100 = .ok (.iconst 1, 1) := by decide +kernel
theorem dX4_give_101 : decode cX4_give 101 = .ok (.ixor, 1) := by decide +kernel
theorem dX4_give_102 : decode cX4_give 102 = .ok (.iaload, 1) := by decide +kernel
theorem dX4_give_103 : decode cX4_give 103 = .ok (.iload_n 2, 1) := by decide +kernel
theorem dX4_give_104 : decode cX4_give 104 = .ok (.iconst 1, 1) := by decide +kernel
theorem dX4_give_105 : decode cX4_give 105 = .ok (.iadd, 1) := by decide +kernel
theorem dX4_give_106 : decode cX4_give 106 = .ok (.if_icmp .ne 53, 3) := by decide +kernel
theorem dX4_give_109 : decode cX4_give 109 = .ok (.aload_n 0, 1) := by decide +kernel
theorem dX4_give_110 : decode cX4_give 110 = .ok (.getfield 9, 3) := by decide +kernel
theorem dX4_give_113 : decode cX4_give 113 = .ok (.iload 5, 2) := by decide +kernel
theorem dX4_give_115 : decode cX4_give 115 = .ok (.iconst 0, 1) := by decide +kernel
theorem dX4_give_116 : decode cX4_give 116 = .ok (.iastore, 1) := by decide +kernel
theorem dX4_give_117 : decode cX4_give 117 = .ok (.aload_n 0, 1) := by decide +kernel
theorem dX4_give_118 : decode cX4_give 118 = .ok (.getfield 9, 3) := by decide +kernel
theorem dX4_give_121 : decode cX4_give 121 = .ok (.iload 5, 2) := by decide +kernel
theorem dX4_give_123 : decode cX4_give 123 = .ok (.iconst 1, 1) := by decide +kernel
theorem dX4_give_124 : decode cX4_give 124 = .ok (.ixor, 1) := by decide +kernel
theorem dX4_give_125 : decode cX4_give 125 = .ok (.iconst 0, 1) := by decide +kernel
theorem dX4_give_126 : decode cX4_give 126 = .ok (.iastore, 1) := by decide +kernel
theorem dX4_give_127 : decode cX4_give 127 = .ok (.iload 5, 2) := by decide +kernel
theorem dX4_give_129 : decode cX4_give 129 = .ok (.iconst 1, 1) := by decide +kernel
theorem dX4_give_130 : decode cX4_give 130 = .ok (.ishr, 1) := by decide +kernel
theorem dX4_give_131 : decode cX4_give 131 = .ok (.istore 5, 2) := by decide +kernel
theorem dX4_give_133 : decode cX4_give 133 = .ok (.aload_n 0, 1) := by decide +kernel
theorem dX4_give_134 : decode cX4_give 134 = .ok (.getfield 9, 3) := by decide +kernel
theorem dX4_give_137 : decode cX4_give 137 = .ok (.iload 5, 2) := by decide +kernel
theorem dX4_give_139 : decode cX4_give 139 = .ok (.iload_n 2, 1) := by decide +kernel
theorem dX4_give_140 : decode cX4_give 140 = .ok (.iconst 1, 1) := by decide +kernel
theorem dX4_give_141 : decode cX4_give 141 = .ok (.iadd, 1) := by decide +kernel
theorem dX4_give_142 : decode cX4_give 142 = .ok (.iastore, 1) := by decide +kernel
theorem dX4_give_143 : decode cX4_give 143 = .ok (.aload_n 0, 1) := by decide +kernel
theorem dX4_give_144 : decode cX4_give 144 = .ok (.getfield 18, 3) := by decide +kernel
theorem dX4_give_147 : decode cX4_give 147 = .ok (.iload_n 2, 1) := by decide +kernel
theorem dX4_give_148 : decode cX4_give 148 = .ok (.dup2, 1) := by decide +kernel
theorem dX4_give_149 : decode cX4_give 149 = .ok (.iaload, 1) := by decide +kernel
theorem dX4_give_150 : decode cX4_give 150 = .ok (.iconst 1, 1) := by decide +kernel
theorem dX4_give_151 : decode cX4_give 151 = .ok (.isub, 1) := by decide +kernel
theorem dX4_give_152 : decode cX4_give 152 = .ok (.iastore, 1) := by decide +kernel
theorem dX4_give_153 : decode cX4_give 153 = .ok (.iinc 6 1, 3) := by decide +kernel
theorem dX4_give_156 : decode cX4_give 156 = .ok (.goto (-75), 3) := by decide +kernel
theorem dX4_give_159 : decode cX4_give 159 = .ok (.return_, 1) := by decide +kernel
set_option maxRecDepth 20000 in
set_option maxHeartbeats 4000000 in
theorem wk_X4_give_81 {p : Program} {l : Launch} {e : Env} {s : State} {m : MethodId} {args : Array Value} {below : List Frame} {meth : Method} {c : Code} {G : Gp} {a0 : Nat} {x2 : Int32}  {Q : St → Prop} (F : FX p s m args meth c cX4_give 7 none RX4 G) (y0 : lay a0 = (4, 0))  : ∀ (n9 : Nat) (σ : St) (x5 : Int32) (x6 : Int32), LP3 (wp_X4_give_81 a0 x2 Q) n9 σ x5 x6 → J p l e (rmF 1 21) s m args below meth c 7 G (MQ below (QQ G (qV Q)) args s 0 0 (fr G)) 0 0 81 [(0, .ref (gb G + a0)), (2, .int x2), (5, .int x5), (6, .int x6)] [] σ := by
  intro n9
  induction n9 with
  | zero => intro σ x5 x6 h; exact h.elim
  | succ n9 i81 =>
    intro σ x5 x6 h
    have h : wp_X4_give_81 a0 x2 Q (LP3 (wp_X4_give_81 a0 x2 Q) n9) σ x5 x6 := h
    unfold wp_X4_give_81 at h
    refine J_il F 3 dX4_give_81 rfl ?_
    refine J_bi F dX4_give_83 kb_10 ?_
    refine J_cge F (tgt := 159) dX4_give_85 (by decide) (fun c_1 => ?_) (fun c_1 => ?_)
    · have h := h.1 c_1
      exact J_retv F ⟨rfl, h⟩ dX4_give_159
    · have h := h.2 c_1
      refine J_il F 2 dX4_give_88 rfl ?_
      refine J_ic F dX4_give_90 ki_1 ?_
      refine J_cle F (tgt := 159) dX4_give_91 (by decide) (fun c_2 => ?_) (fun c_2 => ?_)
      · have h := h.1 c_2
        exact J_retv F ⟨rfl, h⟩ dX4_give_159
      · have h := h.2 c_2
        refine J_aln F 0 dX4_give_94 rfl rfl ?_
        refine J_gfr F (ci := 4) 0 rfl inX4 y0 (by decide) (by decide) rfl lf_X4_9 rfl dX4_give_95 ?_
        refine J_il F 2 dX4_give_98 rfl ?_
        refine J_ic F dX4_give_100 ki_1 ?_
        refine J_ixor F dX4_give_101 ?_
        obtain ⟨h_3, h⟩ := h
        refine J_iald F (lay_space y0).1 h_3 dX4_give_102 ?_
        refine J_iln F 1 dX4_give_103 rfl rfl ?_
        refine J_ic F dX4_give_104 ki_1 ?_
        refine J_iadd F dX4_give_105 ?_
        refine J_cne F (tgt := 159) dX4_give_106 (by decide) (fun c_4 => ?_) (fun c_4 => ?_)
        · have h := h.1 c_4
          exact J_retv F ⟨rfl, h⟩ dX4_give_159
        · have h := h.2 c_4
          refine J_aln F 0 dX4_give_109 rfl rfl ?_
          refine J_gfr F (ci := 4) 0 rfl inX4 y0 (by decide) (by decide) rfl lf_X4_9 rfl dX4_give_110 ?_
          refine J_il F 2 dX4_give_113 rfl ?_
          refine J_ic F dX4_give_115 ki_0 ?_
          obtain ⟨h_5, h⟩ := h
          refine J_iast F (lay_space y0).1 h_5 dX4_give_116 ?_
          refine J_st (fun σ_6 eσ_6 => ?_)
          have h := h σ_6 eσ_6
          refine J_aln F 0 dX4_give_117 rfl rfl ?_
          refine J_gfr F (ci := 4) 0 rfl inX4 y0 (by decide) (by decide) rfl lf_X4_9 rfl dX4_give_118 ?_
          refine J_il F 2 dX4_give_121 rfl ?_
          refine J_ic F dX4_give_123 ki_1 ?_
          refine J_ixor F dX4_give_124 ?_
          refine J_ic F dX4_give_125 ki_0 ?_
          obtain ⟨h_7, h⟩ := h
          refine J_iast F (lay_space y0).1 h_7 dX4_give_126 ?_
          refine J_st (fun σ_8 eσ_8 => ?_)
          have h := h σ_8 eσ_8
          refine J_il F 2 dX4_give_127 rfl ?_
          refine J_ic F dX4_give_129 ki_1 ?_
          refine J_ishr F dX4_give_130 ?_
          refine J_top (fun x5_9 ex5_9 => ?_)
          have h := h x5_9 ex5_9
          refine J_is F (L' := [(5, .int x5_9), (0, .ref (gb G + a0)), (2, .int x2), (6, .int x6)]) dX4_give_131 (by decide) rfl ?_
          refine J_aln F 1 dX4_give_133 rfl rfl ?_
          refine J_gfr F (ci := 4) 0 rfl inX4 y0 (by decide) (by decide) rfl lf_X4_9 rfl dX4_give_134 ?_
          refine J_il F 0 dX4_give_137 rfl ?_
          refine J_iln F 2 dX4_give_139 rfl rfl ?_
          refine J_ic F dX4_give_140 ki_1 ?_
          refine J_iadd F dX4_give_141 ?_
          obtain ⟨h_10, h⟩ := h
          refine J_iast F (lay_space y0).1 h_10 dX4_give_142 ?_
          refine J_st (fun σ_11 eσ_11 => ?_)
          have h := h σ_11 eσ_11
          refine J_aln F 1 dX4_give_143 rfl rfl ?_
          refine J_gfr F (ci := 4) 2 rfl inX4 y0 (by decide) (by decide) rfl lf_X4_18 rfl dX4_give_144 ?_
          refine J_iln F 2 dX4_give_147 rfl rfl ?_
          refine J_dup2 F dX4_give_148 rfl rfl ?_
          obtain ⟨h_12, h⟩ := h
          refine J_iald F (lay_space y0).2.2 h_12 dX4_give_149 ?_
          refine J_ic F dX4_give_150 ki_1 ?_
          refine J_isub F dX4_give_151 ?_
          obtain ⟨h_13, h⟩ := h
          refine J_iast F (lay_space y0).2.2 h_13 dX4_give_152 ?_
          refine J_st (fun σ_14 eσ_14 => ?_)
          have h := h σ_14 eσ_14
          obtain ⟨x6_15, ex6_15⟩ : ∃ z : Int32, z = x6 + (nI 1) := ⟨_, rfl⟩
          have h := h x6_15 ex6_15
          refine J_iinc F (v := x6_15) (L' := [(6, .int x6_15), (5, .int x5_9), (0, .ref (gb G + a0)), (2, .int x2)]) 3 dX4_give_153 rfl (by rw [ki_1, ex6_15]) (by decide) rfl ?_
          refine J_goto F (tgt := 81) dX4_give_156 (by decide) ?_
          refine J_sub [2, 3, 1, 0] rfl ?_
          exact i81 _ _ _ h
set_option maxRecDepth 20000 in
set_option maxHeartbeats 4000000 in
theorem wk_X4_give_46 {p : Program} {l : Launch} {e : Env} {s : State} {m : MethodId} {args : Array Value} {below : List Frame} {meth : Method} {c : Code} {G : Gp} {σ : St} {a0 : Nat} {x1 : Int32} {x2 : Int32} {x3 : Int32}  {Q : St → Prop} (F : FX p s m args meth c cX4_give 7 none RX4 G) (y0 : lay a0 = (4, 0))  (h : wp_X4_give_46 σ a0 x1 x2 x3 Q) : J p l e (rmF 1 21) s m args below meth c 7 G (MQ below (QQ G (qV Q)) args s 0 0 (fr G)) 0 0 46 [(0, .ref (gb G + a0)), (1, .int x1), (2, .int x2), (3, .int x3)] [] σ := by
  unfold wp_X4_give_46 at h
  refine J_aln F 0 dX4_give_46 rfl rfl ?_
  refine J_gfr F (ci := 4) 1 rfl inX4 y0 (by decide) (by decide) rfl lf_X4_15 rfl dX4_give_47 ?_
  refine J_iln F 2 dX4_give_50 rfl rfl ?_
  refine J_dup2 F dX4_give_51 rfl rfl ?_
  obtain ⟨h_16, h⟩ := h
  refine J_iald F (lay_space y0).2.1 h_16 dX4_give_52 ?_
  refine J_iln F 3 dX4_give_53 rfl rfl ?_
  refine J_iadd F dX4_give_54 ?_
  obtain ⟨h_17, h⟩ := h
  refine J_iast F (lay_space y0).2.1 h_17 dX4_give_55 ?_
  refine J_st (fun σ_18 eσ_18 => ?_)
  have h := h σ_18 eσ_18
  refine J_aln F 0 dX4_give_56 rfl rfl ?_
  refine J_gfr F (ci := 4) 2 rfl inX4 y0 (by decide) (by decide) rfl lf_X4_18 rfl dX4_give_57 ?_
  refine J_iln F 2 dX4_give_60 rfl rfl ?_
  refine J_dup2 F dX4_give_61 rfl rfl ?_
  obtain ⟨h_19, h⟩ := h
  refine J_iald F (lay_space y0).2.2 h_19 dX4_give_62 ?_
  refine J_ic F dX4_give_63 ki_1 ?_
  refine J_iadd F dX4_give_64 ?_
  obtain ⟨h_20, h⟩ := h
  refine J_iast F (lay_space y0).2.2 h_20 dX4_give_65 ?_
  refine J_st (fun σ_21 eσ_21 => ?_)
  have h := h σ_21 eσ_21
  refine J_aln F 0 dX4_give_66 rfl rfl ?_
  refine J_gfr F (ci := 4) 0 rfl inX4 y0 (by decide) (by decide) rfl lf_X4_9 rfl dX4_give_67 ?_
  refine J_iln F 1 dX4_give_70 rfl rfl ?_
  refine J_iln F 2 dX4_give_71 rfl rfl ?_
  refine J_ic F dX4_give_72 ki_1 ?_
  refine J_iadd F dX4_give_73 ?_
  obtain ⟨h_22, h⟩ := h
  refine J_iast F (lay_space y0).1 h_22 dX4_give_74 ?_
  refine J_st (fun σ_23 eσ_23 => ?_)
  have h := h σ_23 eσ_23
  refine J_iln F 1 dX4_give_75 rfl rfl ?_
  refine J_is F (L' := [(5, .int x1), (0, .ref (gb G + a0)), (1, .int x1), (2, .int x2), (3, .int x3)]) dX4_give_76 (by decide) rfl ?_
  refine J_ic F dX4_give_78 ki_0 ?_
  refine J_is F (L' := [(6, .int (nI 0)), (5, .int x1), (0, .ref (gb G + a0)), (1, .int x1), (2, .int x2), (3, .int x3)]) dX4_give_79 (by decide) rfl ?_
  refine J_sub [2, 4, 1, 0] rfl ?_
  obtain ⟨n9, h⟩ := h
  exact wk_X4_give_81 F y0 n9 _ _ _ h
set_option maxRecDepth 20000 in
set_option maxHeartbeats 4000000 in
theorem C_X4_give (l : Launch) (G : Gp) (a0 : Nat) (x1 : Int32) (x2 : Int32) (y0 : lay a0 = (4, 0)) {σ : St} {Q : St → Prop} (h : wp_X4_give σ a0 x1 x2 Q) : Cn l yX4_give cX4_give 7 none 1 21 G [.ref (gb G + a0), .int x1, .int x2] σ (qV Q) := by
  refine Cn_of (L := [(0, .ref (gb G + a0)), (1, .int x1), (2, .int x2)]) RX4 (by decide) rfl (Nat.le_of_ble_eq_true rfl) rfl ?_
  intro p e s m below meth c F
  unfold wp_X4_give at h
  refine J_si F dX4_give_0 ks_1024 ?_
  refine J_iln F 1 dX4_give_3 rfl rfl ?_
  refine J_callSi F (As := [.int x1]) (st := [.int (nI 1024)]) (C_X4_depthOf l G x1  h) lm_X4_52 li_X4_depthOf ini_X4 lc_X4_depthOf hd_X4_depthOf (by decide) (Nat.le_of_ble_eq_true rfl) (by decide) rfl dX4_give_4 (fun r_24 σ_25 hh => ?_)
  clear h
  obtain ⟨e9, h⟩ := hh
  subst σ_25
  refine J_ishr F dX4_give_7 ?_
  refine J_top (fun x3_26 ex3_26 => ?_)
  have h := h x3_26 ex3_26
  refine J_isn F (L' := [(3, .int x3_26), (0, .ref (gb G + a0)), (1, .int x1), (2, .int x2)]) dX4_give_8 rfl (by decide) rfl ?_
  refine J_aln F 1 dX4_give_9 rfl rfl ?_
  refine J_gfr F (ci := 4) 0 rfl inX4 y0 (by decide) (by decide) rfl lf_X4_9 rfl dX4_give_10 ?_
  refine J_iln F 2 dX4_give_13 rfl rfl ?_
  obtain ⟨h_27, h⟩ := h
  refine J_iald F (lay_space y0).1 h_27 dX4_give_14 ?_
  refine J_ic F dX4_give_15 ki_1 ?_
  refine J_isub F dX4_give_16 ?_
  refine J_top (fun x4_28 ex4_28 => ?_)
  have h := h x4_28 ex4_28
  refine J_is F (L' := [(4, .int x4_28), (3, .int x3_26), (0, .ref (gb G + a0)), (1, .int x1), (2, .int x2)]) dX4_give_17 (by decide) rfl ?_
  refine J_il F 0 dX4_give_19 rfl ?_
  refine J_zlt F (tgt := 46) dX4_give_21 (by decide) (fun c_29 => ?_) (fun c_29 => ?_)
  · have h := h.1 c_29
    refine J_sub [2, 3, 4, 1] rfl ?_
    exact wk_X4_give_46 F y0 h
  · have h := h.2 c_29
    refine J_aln F 2 dX4_give_24 rfl rfl ?_
    refine J_gfr F (ci := 4) 1 rfl inX4 y0 (by decide) (by decide) rfl lf_X4_15 rfl dX4_give_25 ?_
    refine J_il F 0 dX4_give_28 rfl ?_
    refine J_dup2 F dX4_give_30 rfl rfl ?_
    obtain ⟨h_30, h⟩ := h
    refine J_iald F (lay_space y0).2.1 h_30 dX4_give_31 ?_
    refine J_iln F 1 dX4_give_32 rfl rfl ?_
    refine J_isub F dX4_give_33 ?_
    obtain ⟨h_31, h⟩ := h
    refine J_iast F (lay_space y0).2.1 h_31 dX4_give_34 ?_
    refine J_st (fun σ_32 eσ_32 => ?_)
    have h := h σ_32 eσ_32
    refine J_aln F 2 dX4_give_35 rfl rfl ?_
    refine J_gfr F (ci := 4) 2 rfl inX4 y0 (by decide) (by decide) rfl lf_X4_18 rfl dX4_give_36 ?_
    refine J_il F 0 dX4_give_39 rfl ?_
    refine J_dup2 F dX4_give_41 rfl rfl ?_
    obtain ⟨h_33, h⟩ := h
    refine J_iald F (lay_space y0).2.2 h_33 dX4_give_42 ?_
    refine J_ic F dX4_give_43 ki_1 ?_
    refine J_isub F dX4_give_44 ?_
    obtain ⟨h_34, h⟩ := h
    refine J_iast F (lay_space y0).2.2 h_34 dX4_give_45 ?_
    refine J_st (fun σ_35 eσ_35 => ?_)
    have h := h σ_35 eσ_35
    refine J_sub [2, 3, 4, 1] rfl ?_
    exact wk_X4_give_46 F y0 h
theorem dX4_split_0 : decode cX4_split 0 = .ok (.aload_n 0, 1) := by decide +kernel
theorem dX4_split_1 : decode cX4_split 1 = .ok (.iload_n 1, 1) := by decide +kernel
theorem dX4_split_2 : decode cX4_split 2 = .ok (.iload_n 2, 1) := by decide +kernel
theorem dX4_split_3 : decode cX4_split 3 = .ok (.invokevirtual 40, 3) := by decide +kernel
theorem dX4_split_6 : decode cX4_split 6 = .ok (.istore 4, 2) := by decide +kernel
theorem dX4_split_8 : decode cX4_split 8 = .ok (.iload 4, 2) := by decide +kernel
theorem dX4_split_10 : decode cX4_split 10 = .ok (.ifCond .ne 12, 3) := by decide +kernel
theorem dX4_split_13 : decode cX4_split 13 = .ok (.aload_n 0, 1) := by decide +kernel
theorem dX4_split_14 : decode cX4_split 14 = .ok (.iconst 1, 1) := by decide +kernel
theorem dX4_split_15 : decode cX4_split 15 = .ok (.iload_n 3, 1) := by decide +kernel
theorem dX4_split_16 : decode cX4_split 16 = .ok (.invokevirtual 67, 3) := by decide +kernel
theorem dX4_split_19 : decode cX4_split 19 = .ok (.goto 82, 3) := by decide +kernel
theorem dX4_split_22 : decode cX4_split 22 = .ok (.iload 4, 2) := by decide +kernel
theorem dX4_split_24 : decode cX4_split 24 = .ok (.sipush 1024, 3) := by decide +kernel
theorem dX4_split_27 : decode cX4_split 27 = .ok (.if_icmp .ge 74, 3) := by decide +kernel
theorem dX4_split_30 : decode cX4_split 30 = .ok (.aload_n 0, 1) := by decide +kernel
theorem dX4_split_31 : decode cX4_split 31 = .ok (.getfield 18, 3) := by decide +kernel
theorem dX4_split_34 : decode cX4_split 34 = .ok (.aload_n 0, 1) := by decide +kernel
theorem dX4_split_35 : decode cX4_split 35 = .ok (.getfield 9, 3) := by decide +kernel
theorem dX4_split_38 : decode cX4_split 38 = .ok (.iload 4, 2) := by decide +kernel
theorem dX4_split_40 : decode cX4_split 40 = .ok (.iaload, 1) := by decide +kernel
theorem dX4_split_41 : decode cX4_split 41 = .ok (.iconst 1, 1) := by decide +kernel
theorem dX4_split_42 : decode cX4_split 42 = .ok (.isub, 1) := by decide +kernel
theorem dX4_split_43 : decode cX4_split 43 = .ok (.dup2, 1) := by decide +kernel
theorem dX4_split_44 : decode cX4_split 44 = .ok (.iaload, 1) := by decide +kernel
theorem dX4_split_45 : decode cX4_split 45 = .ok (.iconst 1, 1) := by decide +kernel
theorem dX4_split_46 : decode cX4_split 46 = .ok (.iadd, 1) := by decide +kernel
theorem dX4_split_47 : decode cX4_split 47 = .ok (.iastore, 1) := by decide +kernel
theorem dX4_split_48 : decode cX4_split 48 = .ok (.aload_n 0, 1) := by decide +kernel
theorem dX4_split_49 : decode cX4_split 49 = .ok (.getfield 9, 3) := by decide +kernel
theorem dX4_split_52 : decode cX4_split 52 = .ok (.iconst 2, 1) := by decide +kernel
theorem dX4_split_53 : decode cX4_split 53 = .ok (.iload 4, 2) := by decide +kernel
theorem dX4_split_55 : decode cX4_split 55 = .ok (.imul, 1) := by decide +kernel
theorem dX4_split_56 : decode cX4_split 56 = .ok (.aload_n 0, 1) := by decide +kernel
theorem dX4_split_57 : decode cX4_split 57 = .ok (.getfield 9, 3) := by decide +kernel
theorem dX4_split_60 : decode cX4_split 60 = .ok (.iload 4, 2) := by decide +kernel
theorem dX4_split_62 : decode cX4_split 62 = .ok (.iaload, 1) := by decide +kernel
theorem dX4_split_63 : decode cX4_split 63 = .ok (.iastore, 1) := by decide +kernel
theorem dX4_split_64 : decode cX4_split 64 = .ok (.aload_n 0, 1) := by decide +kernel
theorem dX4_split_65 : decode cX4_split 65 = .ok (.getfield 9, 3) := by decide +kernel
theorem dX4_split_68 : decode cX4_split 68 = .ok (.iconst 2, 1) := by decide +kernel
theorem dX4_split_69 : decode cX4_split 69 = .ok (.iload 4, 2) := by decide +kernel
theorem dX4_split_71 : decode cX4_split 71 = .ok (.imul, 1) := by decide +kernel
theorem dX4_split_72 : decode cX4_split 72 = .ok (.iconst 1, 1) := by decide +kernel
theorem dX4_split_73 : decode cX4_split 73 = .ok (.iadd, 1) := by decide +kernel
theorem dX4_split_74 : decode cX4_split 74 = .ok (.aload_n 0, 1) := by decide +kernel
theorem dX4_split_75 : decode cX4_split 75 = .ok (.getfield 9, 3) := by decide +kernel
theorem dX4_split_78 : decode cX4_split 78 = .ok (.iload 4, 2) := by decide +kernel
theorem dX4_split_80 : decode cX4_split 80 = .ok (.iaload, 1) := by decide +kernel
theorem dX4_split_81 : decode cX4_split 81 = .ok (.iastore, 1) := by decide +kernel
theorem dX4_split_82 : decode cX4_split 82 = .ok (.aload_n 0, 1) := by decide +kernel
theorem dX4_split_83 : decode cX4_split 83 = .ok (.getfield 9, 3) := by decide +kernel
theorem dX4_split_86 : decode cX4_split 86 = .ok (.iload 4, 2) := by decide +kernel
theorem dX4_split_88 : decode cX4_split 88 = .ok (.iconst 0, 1) := by decide +kernel
theorem dX4_split_89 : decode cX4_split 89 = .ok (.iastore, 1) := by decide +kernel
theorem dX4_split_90 : decode cX4_split 90 = .ok (.aload_n 0, 1) := by decide +kernel
theorem dX4_split_91 : decode cX4_split 91 = .ok (.aload_n 0, 1) := by decide +kernel
theorem dX4_split_92 : decode cX4_split 92 = .ok (.iload_n 1, 1) := by decide +kernel
theorem dX4_split_93 : decode cX4_split 93 = .ok (.iload_n 2, 1) := by decide +kernel
theorem dX4_split_94 : decode cX4_split 94 = .ok (.invokevirtual 40, 3) := by decide +kernel
theorem dX4_split_97 : decode cX4_split 97 = .ok (.iload_n 3, 1) := by decide +kernel
theorem dX4_split_98 : decode cX4_split 98 = .ok (.invokevirtual 67, 3) := by decide +kernel
theorem dX4_split_101 : decode cX4_split 101 = .ok (.return_, 1) := by decide +kernel
set_option maxRecDepth 20000 in
set_option maxHeartbeats 4000000 in
theorem C_X4_split (l : Launch) (G : Gp) (a0 : Nat) (x1 : Int32) (x2 : Int32) (x3 : Int32) (y0 : lay a0 = (4, 0)) {σ : St} {Q : St → Prop} (h : wp_X4_split σ a0 x1 x2 x3 Q) : Cn l yX4_split cX4_split 5 none 2 47 G [.ref (gb G + a0), .int x1, .int x2, .int x3] σ (qV Q) := by
  refine Cn_of (L := [(0, .ref (gb G + a0)), (1, .int x1), (2, .int x2), (3, .int x3)]) RX4 (by decide) rfl (Nat.le_of_ble_eq_true rfl) rfl ?_
  intro p e s m below meth c F
  unfold wp_X4_split at h
  refine J_aln F 0 dX4_split_0 rfl rfl ?_
  refine J_iln F 1 dX4_split_1 rfl rfl ?_
  refine J_iln F 2 dX4_split_2 rfl rfl ?_
  refine J_callVi F (As := [.int x1, .int x2]) (st := []) (C_X4_zoneAt l G a0 x1 x2 y0 h) (ci := 4) y0 (by decide) rfl rfl lm_X4_40 li_X4_zoneAt ls_X4_zoneAt ini_X4 lc_X4_zoneAt hd_X4_zoneAt (by decide) (Nat.le_of_ble_eq_true rfl) (by decide) rfl dX4_split_3 (fun r_1 σ_2 hh => ?_)
  clear h
  obtain ⟨e9, h⟩ := hh
  subst σ_2
  refine J_is F (L' := [(4, .int r_1), (0, .ref (gb G + a0)), (1, .int x1), (2, .int x2), (3, .int x3)]) dX4_split_6 (by decide) rfl ?_
  refine J_il F 0 dX4_split_8 rfl ?_
  refine J_zne F (tgt := 22) dX4_split_10 (by decide) (fun c_3 => ?_) (fun c_3 => ?_)
  · have h := h.1 c_3
    refine J_il F 0 dX4_split_22 rfl ?_
    refine J_si F dX4_split_24 ks_1024 ?_
    refine J_cge F (tgt := 101) dX4_split_27 (by decide) (fun c_4 => ?_) (fun c_4 => ?_)
    · have h := h.1 c_4
      exact J_retv F ⟨rfl, h⟩ dX4_split_101
    · have h := h.2 c_4
      refine J_aln F 1 dX4_split_30 rfl rfl ?_
      refine J_gfr F (ci := 4) 2 rfl inX4 y0 (by decide) (by decide) rfl lf_X4_18 rfl dX4_split_31 ?_
      refine J_aln F 1 dX4_split_34 rfl rfl ?_
      refine J_gfr F (ci := 4) 0 rfl inX4 y0 (by decide) (by decide) rfl lf_X4_9 rfl dX4_split_35 ?_
      refine J_il F 0 dX4_split_38 rfl ?_
      obtain ⟨h_5, h⟩ := h
      refine J_iald F (lay_space y0).1 h_5 dX4_split_40 ?_
      refine J_ic F dX4_split_41 ki_1 ?_
      refine J_isub F dX4_split_42 ?_
      refine J_dup2 F dX4_split_43 rfl rfl ?_
      obtain ⟨h_6, h⟩ := h
      refine J_iald F (lay_space y0).2.2 h_6 dX4_split_44 ?_
      refine J_ic F dX4_split_45 ki_1 ?_
      refine J_iadd F dX4_split_46 ?_
      obtain ⟨h_7, h⟩ := h
      refine J_iast F (lay_space y0).2.2 h_7 dX4_split_47 ?_
      refine J_st (fun σ_8 eσ_8 => ?_)
      have h := h σ_8 eσ_8
      refine J_aln F 1 dX4_split_48 rfl rfl ?_
      refine J_gfr F (ci := 4) 0 rfl inX4 y0 (by decide) (by decide) rfl lf_X4_9 rfl dX4_split_49 ?_
      refine J_ic F dX4_split_52 ki_2 ?_
      refine J_il F 0 dX4_split_53 rfl ?_
      refine J_imul F dX4_split_55 ?_
      refine J_aln F 1 dX4_split_56 rfl rfl ?_
      refine J_gfr F (ci := 4) 0 rfl inX4 y0 (by decide) (by decide) rfl lf_X4_9 rfl dX4_split_57 ?_
      refine J_il F 0 dX4_split_60 rfl ?_
      obtain ⟨h_9, h⟩ := h
      refine J_iald F (lay_space y0).1 h_9 dX4_split_62 ?_
      obtain ⟨h_10, h⟩ := h
      refine J_iast F (lay_space y0).1 h_10 dX4_split_63 ?_
      refine J_st (fun σ_11 eσ_11 => ?_)
      have h := h σ_11 eσ_11
      refine J_aln F 1 dX4_split_64 rfl rfl ?_
      refine J_gfr F (ci := 4) 0 rfl inX4 y0 (by decide) (by decide) rfl lf_X4_9 rfl dX4_split_65 ?_
      refine J_ic F dX4_split_68 ki_2 ?_
      refine J_il F 0 dX4_split_69 rfl ?_
      refine J_imul F dX4_split_71 ?_
      refine J_ic F dX4_split_72 ki_1 ?_
      refine J_iadd F dX4_split_73 ?_
      refine J_aln F 1 dX4_split_74 rfl rfl ?_
      refine J_gfr F (ci := 4) 0 rfl inX4 y0 (by decide) (by decide) rfl lf_X4_9 rfl dX4_split_75 ?_
      refine J_il F 0 dX4_split_78 rfl ?_
      obtain ⟨h_12, h⟩ := h
      refine J_iald F (lay_space y0).1 h_12 dX4_split_80 ?_
      obtain ⟨h_13, h⟩ := h
      refine J_iast F (lay_space y0).1 h_13 dX4_split_81 ?_
      refine J_st (fun σ_14 eσ_14 => ?_)
      have h := h σ_14 eσ_14
      refine J_aln F 1 dX4_split_82 rfl rfl ?_
      refine J_gfr F (ci := 4) 0 rfl inX4 y0 (by decide) (by decide) rfl lf_X4_9 rfl dX4_split_83 ?_
      refine J_il F 0 dX4_split_86 rfl ?_
      refine J_ic F dX4_split_88 ki_0 ?_
      obtain ⟨h_15, h⟩ := h
      refine J_iast F (lay_space y0).1 h_15 dX4_split_89 ?_
      refine J_st (fun σ_16 eσ_16 => ?_)
      have h := h σ_16 eσ_16
      refine J_aln F 1 dX4_split_90 rfl rfl ?_
      refine J_aln F 1 dX4_split_91 rfl rfl ?_
      refine J_iln F 2 dX4_split_92 rfl rfl ?_
      refine J_iln F 3 dX4_split_93 rfl rfl ?_
      refine J_callVi F (As := [.int x1, .int x2]) (st := [.ref (gb G + a0)]) (C_X4_zoneAt l G a0 x1 x2 y0 h) (ci := 4) y0 (by decide) rfl rfl lm_X4_40 li_X4_zoneAt ls_X4_zoneAt ini_X4 lc_X4_zoneAt hd_X4_zoneAt (by decide) (Nat.le_of_ble_eq_true rfl) (by decide) rfl dX4_split_94 (fun r_17 σ_18 hh => ?_)
      clear h
      obtain ⟨e9, h⟩ := hh
      subst σ_18
      refine J_iln F 4 dX4_split_97 rfl rfl ?_
      refine J_callVv F (As := [.int r_17, .int x3]) (st := []) (C_X4_give l G a0 r_17 x3 y0 h) (ci := 4) y0 (by decide) rfl rfl lm_X4_67 li_X4_give ls_X4_give ini_X4 lc_X4_give hd_X4_give (by decide) (Nat.le_of_ble_eq_true rfl) (by decide) rfl dX4_split_98 (fun σ_19 h => ?_)
      exact J_retv F ⟨rfl, h⟩ dX4_split_101
  · have h := h.2 c_3
    refine J_aln F 1 dX4_split_13 rfl rfl ?_
    refine J_ic F dX4_split_14 ki_1 ?_
    refine J_iln F 4 dX4_split_15 rfl rfl ?_
    refine J_callVv F (As := [.int (nI 1), .int x3]) (st := []) (C_X4_give l G a0 (nI 1) x3 y0 h) (ci := 4) y0 (by decide) rfl rfl lm_X4_67 li_X4_give ls_X4_give ini_X4 lc_X4_give hd_X4_give (by decide) (Nat.le_of_ble_eq_true rfl) (by decide) rfl dX4_split_16 (fun σ_20 h => ?_)
    refine J_goto F (tgt := 101) dX4_split_19 (by decide) ?_
    exact J_retv F ⟨rfl, h⟩ dX4_split_101
theorem dX4_wide_0 : decode cX4_wide 0 = .ok (.bipush 32, 2) := by decide +kernel
theorem dX4_wide_2 : decode cX4_wide 2 = .ok (.iload_n 0, 1) := by decide +kernel
theorem dX4_wide_3 : decode cX4_wide 3 = .ok (.iconst 1, 1) := by decide +kernel
theorem dX4_wide_4 : decode cX4_wide 4 = .ok (.iadd, 1) := by decide +kernel
theorem dX4_wide_5 : decode cX4_wide 5 = .ok (.iconst 2, 1) := by decide +kernel
theorem dX4_wide_6 : decode cX4_wide 6 = .ok (.idiv, 1) := by decide +kernel
theorem dX4_wide_7 : decode cX4_wide 7 = .ok (.ishr, 1) := by decide +kernel
theorem dX4_wide_8 : decode cX4_wide 8 = .ok (.ireturn, 1) := by decide +kernel
set_option maxRecDepth 20000 in
set_option maxHeartbeats 4000000 in
theorem C_X4_wide (l : Launch) (G : Gp) (x0 : Int32)  {σ : St} {Q : Int32 → Prop} (h : wp_X4_wide σ x0 Q) : Cn l yX4_wide cX4_wide 1 (some .int) 0 0 G [.int x0] σ (qI (fun r σ' => σ' = σ ∧ Q r)) := by
  refine Cn_of (L := [(0, .int x0)]) RX4 (by decide) rfl (Nat.le_of_ble_eq_true rfl) rfl ?_
  intro p e s m below meth c F
  unfold wp_X4_wide at h
  refine J_bi F dX4_wide_0 kb_32 ?_
  refine J_iln F 0 dX4_wide_2 rfl rfl ?_
  refine J_ic F dX4_wide_3 ki_1 ?_
  refine J_iadd F dX4_wide_4 ?_
  refine J_ic F dX4_wide_5 ki_2 ?_
  refine J_idiv F dX4_wide_6 nz_2 ?_
  refine J_ishr F dX4_wide_7 ?_
  exact J_reti F ⟨_, rfl, rfl, h⟩ dX4_wide_8
theorem dX4_high_0 : decode cX4_high 0 = .ok (.bipush 32, 2) := by decide +kernel
theorem dX4_high_2 : decode cX4_high 2 = .ok (.iload_n 0, 1) := by decide +kernel
theorem dX4_high_3 : decode cX4_high 3 = .ok (.iconst 2, 1) := by decide +kernel
theorem dX4_high_4 : decode cX4_high 4 = .ok (.idiv, 1) := by decide +kernel
theorem dX4_high_5 : decode cX4_high 5 = .ok (.ishr, 1) := by decide +kernel
theorem dX4_high_6 : decode cX4_high 6 = .ok (.ireturn, 1) := by decide +kernel
set_option maxRecDepth 20000 in
set_option maxHeartbeats 4000000 in
theorem C_X4_high (l : Launch) (G : Gp) (x0 : Int32)  {σ : St} {Q : Int32 → Prop} (h : wp_X4_high σ x0 Q) : Cn l yX4_high cX4_high 1 (some .int) 0 0 G [.int x0] σ (qI (fun r σ' => σ' = σ ∧ Q r)) := by
  refine Cn_of (L := [(0, .int x0)]) RX4 (by decide) rfl (Nat.le_of_ble_eq_true rfl) rfl ?_
  intro p e s m below meth c F
  unfold wp_X4_high at h
  refine J_bi F dX4_high_0 kb_32 ?_
  refine J_iln F 0 dX4_high_2 rfl rfl ?_
  refine J_ic F dX4_high_3 ki_2 ?_
  refine J_idiv F dX4_high_4 nz_2 ?_
  refine J_ishr F dX4_high_5 ?_
  exact J_reti F ⟨_, rfl, rfl, h⟩ dX4_high_6
theorem dX4_everyOtherBit_0 : decode cX4_everyOtherBit 0 = .ok (.iload_n 0, 1) := by decide +kernel
theorem dX4_everyOtherBit_1 : decode cX4_everyOtherBit 1 = .ok (.sipush 341, 3) := by decide +kernel
theorem dX4_everyOtherBit_4 : decode cX4_everyOtherBit 4 = .ok (.iand, 1) := by decide +kernel
theorem dX4_everyOtherBit_5 : decode cX4_everyOtherBit 5 = .ok (.istore_n 1, 1) := by decide +kernel
theorem dX4_everyOtherBit_6 : decode cX4_everyOtherBit 6 = .ok (.iload_n 1, 1) := by decide +kernel
theorem dX4_everyOtherBit_7 : decode cX4_everyOtherBit 7 = .ok (.iload_n 1, 1) := by decide +kernel
theorem dX4_everyOtherBit_8 : decode cX4_everyOtherBit 8 = .ok (.iconst 1, 1) := by decide +kernel
theorem dX4_everyOtherBit_9 : decode cX4_everyOtherBit 9 = .ok (.ishr, 1) := by decide +kernel
theorem dX4_everyOtherBit_10 : decode cX4_everyOtherBit 10 = .ok (.ior, 1) := by decide +kernel
theorem dX4_everyOtherBit_11 : decode cX4_everyOtherBit 11 = .ok (.sipush 307, 3) := by decide +kernel
theorem dX4_everyOtherBit_14 : decode cX4_everyOtherBit 14 = .ok (.iand, 1) := by decide +kernel
theorem dX4_everyOtherBit_15 : decode cX4_everyOtherBit 15 = .ok (.istore_n 1, 1) := by decide +kernel
theorem dX4_everyOtherBit_16 : decode cX4_everyOtherBit 16 = .ok (.iload_n 1, 1) := by decide +kernel
theorem dX4_everyOtherBit_17 : decode cX4_everyOtherBit 17 = .ok (.iload_n 1, 1) := by decide +kernel
theorem dX4_everyOtherBit_18 : decode cX4_everyOtherBit 18 = .ok (.iconst 2, 1) := by decide +kernel
theorem dX4_everyOtherBit_19 : decode cX4_everyOtherBit 19 = .ok (.ishr, 1) := by decide +kernel
theorem dX4_everyOtherBit_20 : decode cX4_everyOtherBit 20 = .ok (.ior, 1) := by decide +kernel
theorem dX4_everyOtherBit_21 : decode cX4_everyOtherBit 21 = .ok (.sipush 271, 3) := by decide +kernel
theorem dX4_everyOtherBit_24 : decode cX4_everyOtherBit 24 = .ok (.iand, 1) := by decide +kernel
theorem dX4_everyOtherBit_25 : decode cX4_everyOtherBit 25 = .ok (.istore_n 1, 1) := by decide +kernel
theorem dX4_everyOtherBit_26 : decode cX4_everyOtherBit 26 = .ok (.iload_n 1, 1) := by decide +kernel
theorem dX4_everyOtherBit_27 : decode cX4_everyOtherBit 27 = .ok (.iload_n 1, 1) := by decide +kernel
theorem dX4_everyOtherBit_28 : decode cX4_everyOtherBit 28 = .ok (.iconst 4, 1) := by decide +kernel
theorem dX4_everyOtherBit_29 : decode cX4_everyOtherBit 29 = .ok (.ishr, 1) := by decide +kernel
theorem dX4_everyOtherBit_30 : decode cX4_everyOtherBit 30 = .ok (.ior, 1) := by decide +kernel
theorem dX4_everyOtherBit_31 : decode cX4_everyOtherBit 31 = .ok (.bipush 31, 2) := by decide +kernel
theorem dX4_everyOtherBit_33 : decode cX4_everyOtherBit 33 = .ok (.iand, 1) := by decide +kernel
theorem dX4_everyOtherBit_34 : decode cX4_everyOtherBit 34 = .ok (.ireturn, 1) := by decide +kernel
set_option maxRecDepth 20000 in
set_option maxHeartbeats 4000000 in
theorem C_X4_everyOtherBit (l : Launch) (G : Gp) (x0 : Int32)  {σ : St} {Q : Int32 → Prop} (h : wp_X4_everyOtherBit σ x0 Q) : Cn l yX4_everyOtherBit cX4_everyOtherBit 2 (some .int) 0 0 G [.int x0] σ (qI (fun r σ' => σ' = σ ∧ Q r)) := by
  refine Cn_of (L := [(0, .int x0)]) RX4 (by decide) rfl (Nat.le_of_ble_eq_true rfl) rfl ?_
  intro p e s m below meth c F
  unfold wp_X4_everyOtherBit at h
  refine J_iln F 0 dX4_everyOtherBit_0 rfl rfl ?_
  refine J_si F dX4_everyOtherBit_1 ks_341 ?_
  refine J_iand F dX4_everyOtherBit_4 ?_
  refine J_top (fun x1_1 ex1_1 => ?_)
  have h := h x1_1 ex1_1
  refine J_isn F (L' := [(1, .int x1_1), (0, .int x0)]) dX4_everyOtherBit_5 rfl (by decide) rfl ?_
  refine J_iln F 0 dX4_everyOtherBit_6 rfl rfl ?_
  refine J_iln F 0 dX4_everyOtherBit_7 rfl rfl ?_
  refine J_ic F dX4_everyOtherBit_8 ki_1 ?_
  refine J_ishr F dX4_everyOtherBit_9 ?_
  refine J_ior F dX4_everyOtherBit_10 ?_
  refine J_si F dX4_everyOtherBit_11 ks_307 ?_
  refine J_iand F dX4_everyOtherBit_14 ?_
  refine J_top (fun x1_2 ex1_2 => ?_)
  have h := h x1_2 ex1_2
  refine J_isn F (L' := [(1, .int x1_2), (0, .int x0)]) dX4_everyOtherBit_15 rfl (by decide) rfl ?_
  refine J_iln F 0 dX4_everyOtherBit_16 rfl rfl ?_
  refine J_iln F 0 dX4_everyOtherBit_17 rfl rfl ?_
  refine J_ic F dX4_everyOtherBit_18 ki_2 ?_
  refine J_ishr F dX4_everyOtherBit_19 ?_
  refine J_ior F dX4_everyOtherBit_20 ?_
  refine J_si F dX4_everyOtherBit_21 ks_271 ?_
  refine J_iand F dX4_everyOtherBit_24 ?_
  refine J_top (fun x1_3 ex1_3 => ?_)
  have h := h x1_3 ex1_3
  refine J_isn F (L' := [(1, .int x1_3), (0, .int x0)]) dX4_everyOtherBit_25 rfl (by decide) rfl ?_
  refine J_iln F 0 dX4_everyOtherBit_26 rfl rfl ?_
  refine J_iln F 0 dX4_everyOtherBit_27 rfl rfl ?_
  refine J_ic F dX4_everyOtherBit_28 ki_4 ?_
  refine J_ishr F dX4_everyOtherBit_29 ?_
  refine J_ior F dX4_everyOtherBit_30 ?_
  refine J_bi F dX4_everyOtherBit_31 kb_31 ?_
  refine J_iand F dX4_everyOtherBit_33 ?_
  exact J_reti F ⟨_, rfl, rfl, h⟩ dX4_everyOtherBit_34
theorem dX4_leastX_0 : decode cX4_leastX 0 = .ok (.iload_n 0, 1) := by decide +kernel
theorem dX4_leastX_1 : decode cX4_leastX 1 = .ok (.bipush 10, 2) := by decide +kernel
theorem dX4_leastX_3 : decode cX4_leastX 3 = .ok (.iload_n 1, 1) := by decide +kernel
theorem dX4_leastX_4 : decode cX4_leastX 4 = .ok (.isub, 1) := by decide +kernel
theorem dX4_leastX_5 : decode cX4_leastX 5 = .ok (.ishl, 1) := by decide +kernel
theorem dX4_leastX_6 : decode cX4_leastX 6 = .ok (.iconst 1, 1) := by decide +kernel
theorem dX4_leastX_7 : decode cX4_leastX 7 = .ok (.ishr, 1) := by decide +kernel
theorem dX4_leastX_8 : decode cX4_leastX 8 = .ok (.invokestatic 33, 3) := by decide +kernel
theorem dX4_leastX_11 : decode cX4_leastX 11 = .ok (.ireturn, 1) := by decide +kernel
set_option maxRecDepth 20000 in
set_option maxHeartbeats 4000000 in
theorem C_X4_leastX (l : Launch) (G : Gp) (x0 : Int32) (x1 : Int32)  {σ : St} {Q : Int32 → Prop} (h : wp_X4_leastX σ x0 x1 Q) : Cn l yX4_leastX cX4_leastX 2 (some .int) 1 21 G [.int x0, .int x1] σ (qI (fun r σ' => σ' = σ ∧ Q r)) := by
  refine Cn_of (L := [(0, .int x0), (1, .int x1)]) RX4 (by decide) rfl (Nat.le_of_ble_eq_true rfl) rfl ?_
  intro p e s m below meth c F
  unfold wp_X4_leastX at h
  refine J_iln F 0 dX4_leastX_0 rfl rfl ?_
  refine J_bi F dX4_leastX_1 kb_10 ?_
  refine J_iln F 1 dX4_leastX_3 rfl rfl ?_
  refine J_isub F dX4_leastX_4 ?_
  refine J_ishl F dX4_leastX_5 ?_
  refine J_ic F dX4_leastX_6 ki_1 ?_
  refine J_ishr F dX4_leastX_7 ?_
  refine J_callSi F (As := [.int ((x0 <<< (((nI 10) - x1) &&& 31)) >>> ((nI 1) &&& 31))]) (st := []) (C_X4_everyOtherBit l G ((x0 <<< (((nI 10) - x1) &&& 31)) >>> ((nI 1) &&& 31))  h) lm_X4_33 li_X4_everyOtherBit ini_X4 lc_X4_everyOtherBit hd_X4_everyOtherBit (by decide) (Nat.le_of_ble_eq_true rfl) (by decide) rfl dX4_leastX_8 (fun r_1 σ_2 hh => ?_)
  clear h
  obtain ⟨e9, h⟩ := hh
  subst σ_2
  exact J_reti F ⟨_, rfl, rfl, h⟩ dX4_leastX_11
theorem dX4_leastY_0 : decode cX4_leastY 0 = .ok (.iload_n 0, 1) := by decide +kernel
theorem dX4_leastY_1 : decode cX4_leastY 1 = .ok (.bipush 10, 2) := by decide +kernel
theorem dX4_leastY_3 : decode cX4_leastY 3 = .ok (.iload_n 1, 1) := by decide +kernel
theorem dX4_leastY_4 : decode cX4_leastY 4 = .ok (.isub, 1) := by decide +kernel
theorem dX4_leastY_5 : decode cX4_leastY 5 = .ok (.ishl, 1) := by decide +kernel
theorem dX4_leastY_6 : decode cX4_leastY 6 = .ok (.invokestatic 33, 3) := by decide +kernel
theorem dX4_leastY_9 : decode cX4_leastY 9 = .ok (.ireturn, 1) := by decide +kernel
set_option maxRecDepth 20000 in
set_option maxHeartbeats 4000000 in
theorem C_X4_leastY (l : Launch) (G : Gp) (x0 : Int32) (x1 : Int32)  {σ : St} {Q : Int32 → Prop} (h : wp_X4_leastY σ x0 x1 Q) : Cn l yX4_leastY cX4_leastY 2 (some .int) 1 21 G [.int x0, .int x1] σ (qI (fun r σ' => σ' = σ ∧ Q r)) := by
  refine Cn_of (L := [(0, .int x0), (1, .int x1)]) RX4 (by decide) rfl (Nat.le_of_ble_eq_true rfl) rfl ?_
  intro p e s m below meth c F
  unfold wp_X4_leastY at h
  refine J_iln F 0 dX4_leastY_0 rfl rfl ?_
  refine J_bi F dX4_leastY_1 kb_10 ?_
  refine J_iln F 1 dX4_leastY_3 rfl rfl ?_
  refine J_isub F dX4_leastY_4 ?_
  refine J_ishl F dX4_leastY_5 ?_
  refine J_callSi F (As := [.int (x0 <<< (((nI 10) - x1) &&& 31))]) (st := []) (C_X4_everyOtherBit l G (x0 <<< (((nI 10) - x1) &&& 31))  h) lm_X4_33 li_X4_everyOtherBit ini_X4 lc_X4_everyOtherBit hd_X4_everyOtherBit (by decide) (Nat.le_of_ble_eq_true rfl) (by decide) rfl dX4_leastY_6 (fun r_1 σ_2 hh => ?_)
  clear h
  obtain ⟨e9, h⟩ := hh
  subst σ_2
  exact J_reti F ⟨_, rfl, rfl, h⟩ dX4_leastY_9
theorem dX4_besideOf_0 : decode cX4_besideOf 0 = .ok (.iload_n 1, 1) := by decide +kernel
theorem dX4_besideOf_1 : decode cX4_besideOf 1 = .ok (.invokestatic 52, 3) := by decide +kernel
theorem dX4_besideOf_4 : decode cX4_besideOf 4 = .ok (.istore_n 2, 1) := by decide +kernel
theorem dX4_besideOf_5 : decode cX4_besideOf 5 = .ok (.iload_n 2, 1) := by decide +kernel
theorem dX4_besideOf_6 : decode cX4_besideOf 6 = .ok (.invokestatic 55, 3) := by decide +kernel
theorem dX4_besideOf_9 : decode cX4_besideOf 9 = .ok (.istore_n 3, 1) := by decide +kernel
theorem dX4_besideOf_10 : decode cX4_besideOf 10 = .ok (.iload_n 2, 1) := by decide +kernel
theorem dX4_besideOf_11 : decode cX4_besideOf 11 = .ok (.invokestatic 58, 3) := by decide +kernel
theorem dX4_besideOf_14 : decode cX4_besideOf 14 = .ok (.istore 4, 2) := by decide +kernel
theorem dX4_besideOf_16 : decode cX4_besideOf 16 = .ok (.iload_n 1, 1) := by decide +kernel
theorem dX4_besideOf_17 : decode cX4_besideOf 17 = .ok (.iload_n 2, 1) := by decide +kernel
theorem dX4_besideOf_18 : decode cX4_besideOf 18 = .ok (.invokestatic 61, 3) := by decide +kernel
theorem dX4_besideOf_21 : decode cX4_besideOf 21 = .ok (.istore 5, 2) := by decide +kernel
theorem dX4_besideOf_23 : decode cX4_besideOf 23 = .ok (.iload_n 1, 1) := by decide +kernel
theorem dX4_besideOf_24 : decode cX4_besideOf 24 = .ok (.iload_n 2, 1) := by decide +kernel
theorem dX4_besideOf_25 : decode cX4_besideOf 25 = .ok (.invokestatic 64, 3) := by decide +kernel
theorem dX4_besideOf_28 : decode cX4_besideOf 28 = .ok (.istore 6, 2) := by decide +kernel
theorem dX4_besideOf_30 : decode cX4_besideOf 30 = .ok (.iconst 0, 1) := by decide +kernel
theorem dX4_besideOf_31 : decode cX4_besideOf 31 = .ok (.istore 7, 2) := by decide +kernel
theorem dX4_besideOf_33 : decode cX4_besideOf 33 = .ok (.iconst 0, 1) := by decide +kernel
theorem dX4_besideOf_34 : decode cX4_besideOf 34 = .ok (.istore 8, 2) := by decide +kernel
theorem dX4_besideOf_36 : decode cX4_besideOf 36 = .ok (.iload 8, 2) := by decide +kernel
theorem dX4_besideOf_38 : decode cX4_besideOf 38 = .ok (.iload_n 3, 1) := by decide +kernel
theorem dX4_besideOf_39 : decode cX4_besideOf 39 = .ok (.if_icmp .ge 60, 3) := by decide +kernel
theorem dX4_besideOf_42 : decode cX4_besideOf 42 = .ok (.iload 7, 2) := by decide +kernel
theorem dX4_besideOf_44 : decode cX4_besideOf 44 = .ok (.iconst 1, 1) := by decide +kernel
theorem dX4_besideOf_45 : decode cX4_besideOf 45 = .ok (.aload_n 0, 1) := by decide +kernel
theorem dX4_besideOf_46 : decode cX4_besideOf 46 = .ok (.getfield 9, 3) := by decide +kernel
theorem dX4_besideOf_49 : decode cX4_besideOf 49 = .ok (.aload_n 0, 1) := by decide +kernel
theorem dX4_besideOf_50 : decode cX4_besideOf 50 = .ok (.iload 5, 2) := by decide +kernel
theorem dX4_besideOf_52 : decode cX4_besideOf 52 = .ok (.iload 8, 2) := by decide +kernel
theorem dX4_besideOf_54 : decode cX4_besideOf 54 = .ok (.iadd, 1) := by decide +kernel
theorem dX4_besideOf_55 : decode cX4_besideOf 55 = .ok (.iload 6, 2) := by decide +kernel
theorem dX4_besideOf_57 : decode cX4_besideOf 57 = .ok (.iconst 1, 1) := by decide +kernel
theorem dX4_besideOf_58 : decode cX4_besideOf 58 = .ok (.isub, 1) := by decide +kernel
theorem dX4_besideOf_59 : decode cX4_besideOf 59 = .ok (.invokevirtual 40, 3) := by decide +kernel
theorem dX4_besideOf_62 : decode cX4_besideOf 62 = .ok (.iaload, 1) := by decide +kernel
theorem dX4_besideOf_63 : decode cX4_besideOf 63 = .ok (.ishl, 1) := by decide +kernel
theorem dX4_besideOf_64 : decode cX4_besideOf 64 = .ok (.ior, 1) := by decide +kernel
theorem dX4_besideOf_65 : decode cX4_besideOf 65 = .ok (.istore 7, 2) := by decide +kernel
theorem dX4_besideOf_67 : decode cX4_besideOf 67 = .ok (.iload 7, 2) := by decide +kernel
theorem dX4_besideOf_69 : decode cX4_besideOf 69 = .ok (.iconst 1, 1) := by decide +kernel
theorem dX4_besideOf_70 : decode cX4_besideOf 70 = .ok (.aload_n 0, 1) := by decide +kernel
theorem dX4_besideOf_71 : decode cX4_besideOf 71 = .ok (.getfield 9, 3) := by decide +kernel
theorem dX4_besideOf_74 : decode cX4_besideOf 74 = .ok (.aload_n 0, 1) := by decide +kernel
theorem dX4_besideOf_75 : decode cX4_besideOf 75 = .ok (.iload 5, 2) := by decide +kernel
theorem dX4_besideOf_77 : decode cX4_besideOf 77 = .ok (.iload 8, 2) := by decide +kernel
theorem dX4_besideOf_79 : decode cX4_besideOf 79 = .ok (.iadd, 1) := by decide +kernel
theorem dX4_besideOf_80 : decode cX4_besideOf 80 = .ok (.iload 6, 2) := by decide +kernel
theorem dX4_besideOf_82 : decode cX4_besideOf 82 = .ok (.iload 4, 2) := by decide +kernel
theorem dX4_besideOf_84 : decode cX4_besideOf 84 = .ok (.iadd, 1) := by decide +kernel
theorem dX4_besideOf_85 : decode cX4_besideOf 85 = .ok (.invokevirtual 40, 3) := by decide +kernel
theorem dX4_besideOf_88 : decode cX4_besideOf 88 = .ok (.iaload, 1) := by decide +kernel
theorem dX4_besideOf_89 : decode cX4_besideOf 89 = .ok (.ishl, 1) := by decide +kernel
theorem dX4_besideOf_90 : decode cX4_besideOf 90 = .ok (.ior, 1) := by decide +kernel
theorem dX4_besideOf_91 : decode cX4_besideOf 91 = .ok (.istore 7, 2) := by decide +kernel
theorem dX4_besideOf_93 : decode cX4_besideOf 93 = .ok (.iinc 8 1, 3) := by decide +kernel
theorem dX4_besideOf_96 : decode cX4_besideOf 96 = .ok (.goto (-60), 3) := by decide +kernel
theorem dX4_besideOf_99 : decode cX4_besideOf 99 = .ok (.iconst 0, 1) := by decide +kernel
theorem dX4_besideOf_100 : decode cX4_besideOf 100 = .ok (.istore 8, 2) := by decide +kernel
theorem dX4_besideOf_102 : decode cX4_besideOf 102 = .ok (.iload 8, 2) := by decide +kernel
theorem dX4_besideOf_104 : decode cX4_besideOf 104 = .ok (.iload 4, 2) := by decide +kernel
theorem dX4_besideOf_106 : decode cX4_besideOf 106 = .ok (.if_icmp .ge 59, 3) := by decide +kernel
theorem dX4_besideOf_109 : decode cX4_besideOf 109 = .ok (.iload 7, 2) := by decide +kernel
theorem dX4_besideOf_111 : decode cX4_besideOf 111 = .ok (.iconst 1, 1) := by decide +kernel
theorem dX4_besideOf_112 : decode cX4_besideOf 112 = .ok (.aload_n 0, 1) := by decide +kernel
theorem dX4_besideOf_113 : decode cX4_besideOf 113 = .ok (.getfield 9, 3) := by decide +kernel
theorem dX4_besideOf_116 : decode cX4_besideOf 116 = .ok (.aload_n 0, 1) := by decide +kernel
theorem dX4_besideOf_117 : decode cX4_besideOf 117 = .ok (.iload 5, 2) := by decide +kernel
theorem dX4_besideOf_119 : decode cX4_besideOf 119 = .ok (.iconst 1, 1) := by decide +kernel
theorem dX4_besideOf_120 : decode cX4_besideOf 120 = .ok (.isub, 1) := by decide +kernel
theorem dX4_besideOf_121 : decode cX4_besideOf 121 = .ok (.iload 6, 2) := by decide +kernel
theorem dX4_besideOf_123 : decode cX4_besideOf 123 = .ok (.iload 8, 2) := by decide +kernel
theorem dX4_besideOf_125 : decode cX4_besideOf 125 = .ok (.iadd, 1) := by decide +kernel
theorem dX4_besideOf_126 : decode cX4_besideOf 126 = .ok (.invokevirtual 40, 3) := by decide +kernel
theorem dX4_besideOf_129 : decode cX4_besideOf 129 = .ok (.iaload, 1) := by decide +kernel
theorem dX4_besideOf_130 : decode cX4_besideOf 130 = .ok (.ishl, 1) := by decide +kernel
theorem dX4_besideOf_131 : decode cX4_besideOf 131 = .ok (.ior, 1) := by decide +kernel
theorem dX4_besideOf_132 : decode cX4_besideOf 132 = .ok (.istore 7, 2) := by decide +kernel
theorem dX4_besideOf_134 : decode cX4_besideOf 134 = .ok (.iload 7, 2) := by decide +kernel
theorem dX4_besideOf_136 : decode cX4_besideOf 136 = .ok (.iconst 1, 1) := by decide +kernel
theorem dX4_besideOf_137 : decode cX4_besideOf 137 = .ok (.aload_n 0, 1) := by decide +kernel
theorem dX4_besideOf_138 : decode cX4_besideOf 138 = .ok (.getfield 9, 3) := by decide +kernel
theorem dX4_besideOf_141 : decode cX4_besideOf 141 = .ok (.aload_n 0, 1) := by decide +kernel
theorem dX4_besideOf_142 : decode cX4_besideOf 142 = .ok (.iload 5, 2) := by decide +kernel
theorem dX4_besideOf_144 : decode cX4_besideOf 144 = .ok (.iload_n 3, 1) := by decide +kernel
theorem dX4_besideOf_145 : decode cX4_besideOf 145 = .ok (.iadd, 1) := by decide +kernel
theorem dX4_besideOf_146 : decode cX4_besideOf 146 = .ok (.iload 6, 2) := by decide +kernel
theorem dX4_besideOf_148 : decode cX4_besideOf 148 = .ok (.iload 8, 2) := by decide +kernel
theorem dX4_besideOf_150 : decode cX4_besideOf 150 = .ok (.iadd, 1) := by decide +kernel
theorem dX4_besideOf_151 : decode cX4_besideOf 151 = .ok (.invokevirtual 40, 3) := by decide +kernel
theorem dX4_besideOf_154 : decode cX4_besideOf 154 = .ok (.iaload, 1) := by decide +kernel
theorem dX4_besideOf_155 : decode cX4_besideOf 155 = .ok (.ishl, 1) := by decide +kernel
theorem dX4_besideOf_156 : decode cX4_besideOf 156 = .ok (.ior, 1) := by decide +kernel
theorem dX4_besideOf_157 : decode cX4_besideOf 157 = .ok (.istore 7, 2) := by decide +kernel
theorem dX4_besideOf_159 : decode cX4_besideOf 159 = .ok (.iinc 8 1, 3) := by decide +kernel
theorem dX4_besideOf_162 : decode cX4_besideOf 162 = .ok (.goto (-60), 3) := by decide +kernel
theorem dX4_besideOf_165 : decode cX4_besideOf 165 = .ok (.iload 7, 2) := by decide +kernel
theorem dX4_besideOf_167 : decode cX4_besideOf 167 = .ok (.iconst 1, 1) := by decide +kernel
theorem dX4_besideOf_168 : decode cX4_besideOf 168 = .ok (.ishr, 1) := by decide +kernel
theorem dX4_besideOf_169 : decode cX4_besideOf 169 = .ok (.ireturn, 1) := by decide +kernel
set_option maxRecDepth 20000 in
set_option maxHeartbeats 4000000 in
theorem wk_X4_besideOf_102 {p : Program} {l : Launch} {e : Env} {s : State} {m : MethodId} {args : Array Value} {below : List Frame} {meth : Method} {c : Code} {G : Gp} {σ : St} {a0 : Nat} {x3 : Int32} {x4 : Int32} {x5 : Int32} {x6 : Int32}  {Q : Int32 → Prop} (F : FX p s m args meth c cX4_besideOf 9 (some .int) RX4 G) (y0 : lay a0 = (4, 0))  : ∀ (n9 : Nat) (x7 : Int32) (x8 : Int32), LP2 (wp_X4_besideOf_102 σ a0 x3 x4 x5 x6 Q) n9 x7 x8 → J p l e (rmF 2 42) s m args below meth c 9 G (MQ below (QQ G (qI (fun r σ' => σ' = σ ∧ Q r))) args s 0 0 (fr G)) 0 0 102 [(0, .ref (gb G + a0)), (3, .int x3), (4, .int x4), (5, .int x5), (6, .int x6), (7, .int x7), (8, .int x8)] [] σ := by
  intro n9
  induction n9 with
  | zero => intro x7 x8 h; exact h.elim
  | succ n9 i102 =>
    intro x7 x8 h
    have h : wp_X4_besideOf_102 σ a0 x3 x4 x5 x6 Q (LP2 (wp_X4_besideOf_102 σ a0 x3 x4 x5 x6 Q) n9) x7 x8 := h
    unfold wp_X4_besideOf_102 at h
    refine J_il F 6 dX4_besideOf_102 rfl ?_
    refine J_il F 2 dX4_besideOf_104 rfl ?_
    refine J_cge F (tgt := 165) dX4_besideOf_106 (by decide) (fun c_1 => ?_) (fun c_1 => ?_)
    · have h := h.1 c_1
      refine J_il F 5 dX4_besideOf_165 rfl ?_
      refine J_ic F dX4_besideOf_167 ki_1 ?_
      refine J_ishr F dX4_besideOf_168 ?_
      exact J_reti F ⟨_, rfl, rfl, h⟩ dX4_besideOf_169
    · have h := h.2 c_1
      refine J_il F 5 dX4_besideOf_109 rfl ?_
      refine J_ic F dX4_besideOf_111 ki_1 ?_
      refine J_aln F 0 dX4_besideOf_112 rfl rfl ?_
      refine J_gfr F (ci := 4) 0 rfl inX4 y0 (by decide) (by decide) rfl lf_X4_9 rfl dX4_besideOf_113 ?_
      refine J_aln F 0 dX4_besideOf_116 rfl rfl ?_
      refine J_il F 3 dX4_besideOf_117 rfl ?_
      refine J_ic F dX4_besideOf_119 ki_1 ?_
      refine J_isub F dX4_besideOf_120 ?_
      refine J_il F 4 dX4_besideOf_121 rfl ?_
      refine J_il F 6 dX4_besideOf_123 rfl ?_
      refine J_iadd F dX4_besideOf_125 ?_
      refine J_callVi F (As := [.int (x5 - (nI 1)), .int (x6 + x8)]) (st := [.ref (gb G + (a0 + 1)), .int (nI 1), .int x7]) (C_X4_zoneAt l G a0 (x5 - (nI 1)) (x6 + x8) y0 h) (ci := 4) y0 (by decide) rfl rfl lm_X4_40 li_X4_zoneAt ls_X4_zoneAt ini_X4 lc_X4_zoneAt hd_X4_zoneAt (by decide) (Nat.le_of_ble_eq_true rfl) (by decide) rfl dX4_besideOf_126 (fun r_2 σ_3 hh => ?_)
      clear h
      obtain ⟨e9, h⟩ := hh
      subst σ_3
      obtain ⟨h_4, h⟩ := h
      refine J_iald F (lay_space y0).1 h_4 dX4_besideOf_129 ?_
      refine J_ishl F dX4_besideOf_130 ?_
      refine J_ior F dX4_besideOf_131 ?_
      refine J_top (fun x7_5 ex7_5 => ?_)
      have h := h x7_5 ex7_5
      refine J_is F (L' := [(7, .int x7_5), (0, .ref (gb G + a0)), (3, .int x3), (4, .int x4), (5, .int x5), (6, .int x6), (8, .int x8)]) dX4_besideOf_132 (by decide) rfl ?_
      refine J_il F 0 dX4_besideOf_134 rfl ?_
      refine J_ic F dX4_besideOf_136 ki_1 ?_
      refine J_aln F 1 dX4_besideOf_137 rfl rfl ?_
      refine J_gfr F (ci := 4) 0 rfl inX4 y0 (by decide) (by decide) rfl lf_X4_9 rfl dX4_besideOf_138 ?_
      refine J_aln F 1 dX4_besideOf_141 rfl rfl ?_
      refine J_il F 4 dX4_besideOf_142 rfl ?_
      refine J_iln F 2 dX4_besideOf_144 rfl rfl ?_
      refine J_iadd F dX4_besideOf_145 ?_
      refine J_il F 5 dX4_besideOf_146 rfl ?_
      refine J_il F 6 dX4_besideOf_148 rfl ?_
      refine J_iadd F dX4_besideOf_150 ?_
      refine J_callVi F (As := [.int (x5 + x3), .int (x6 + x8)]) (st := [.ref (gb G + (a0 + 1)), .int (nI 1), .int x7_5]) (C_X4_zoneAt l G a0 (x5 + x3) (x6 + x8) y0 h) (ci := 4) y0 (by decide) rfl rfl lm_X4_40 li_X4_zoneAt ls_X4_zoneAt ini_X4 lc_X4_zoneAt hd_X4_zoneAt (by decide) (Nat.le_of_ble_eq_true rfl) (by decide) rfl dX4_besideOf_151 (fun r_6 σ_7 hh => ?_)
      clear h
      obtain ⟨e9, h⟩ := hh
      subst σ_7
      obtain ⟨h_8, h⟩ := h
      refine J_iald F (lay_space y0).1 h_8 dX4_besideOf_154 ?_
      refine J_ishl F dX4_besideOf_155 ?_
      refine J_ior F dX4_besideOf_156 ?_
      refine J_top (fun x7_9 ex7_9 => ?_)
      have h := h x7_9 ex7_9
      refine J_is F (L' := [(7, .int x7_9), (0, .ref (gb G + a0)), (3, .int x3), (4, .int x4), (5, .int x5), (6, .int x6), (8, .int x8)]) dX4_besideOf_157 (by decide) rfl ?_
      obtain ⟨x8_10, ex8_10⟩ : ∃ z : Int32, z = x8 + (nI 1) := ⟨_, rfl⟩
      have h := h x8_10 ex8_10
      refine J_iinc F (v := x8_10) (L' := [(8, .int x8_10), (7, .int x7_9), (0, .ref (gb G + a0)), (3, .int x3), (4, .int x4), (5, .int x5), (6, .int x6)]) 6 dX4_besideOf_159 rfl (by rw [ki_1, ex8_10]) (by decide) rfl ?_
      refine J_goto F (tgt := 102) dX4_besideOf_162 (by decide) ?_
      refine J_sub [2, 3, 4, 5, 6, 1, 0] rfl ?_
      exact i102 _ _ h
set_option maxRecDepth 20000 in
set_option maxHeartbeats 4000000 in
theorem wk_X4_besideOf_36 {p : Program} {l : Launch} {e : Env} {s : State} {m : MethodId} {args : Array Value} {below : List Frame} {meth : Method} {c : Code} {G : Gp} {σ : St} {a0 : Nat} {x3 : Int32} {x4 : Int32} {x5 : Int32} {x6 : Int32}  {Q : Int32 → Prop} (F : FX p s m args meth c cX4_besideOf 9 (some .int) RX4 G) (y0 : lay a0 = (4, 0))  : ∀ (n9 : Nat) (x7 : Int32) (x8 : Int32), LP2 (wp_X4_besideOf_36 σ a0 x3 x4 x5 x6 Q) n9 x7 x8 → J p l e (rmF 2 42) s m args below meth c 9 G (MQ below (QQ G (qI (fun r σ' => σ' = σ ∧ Q r))) args s 0 0 (fr G)) 0 0 36 [(0, .ref (gb G + a0)), (3, .int x3), (4, .int x4), (5, .int x5), (6, .int x6), (7, .int x7), (8, .int x8)] [] σ := by
  intro n9
  induction n9 with
  | zero => intro x7 x8 h; exact h.elim
  | succ n9 i36 =>
    intro x7 x8 h
    have h : wp_X4_besideOf_36 σ a0 x3 x4 x5 x6 Q (LP2 (wp_X4_besideOf_36 σ a0 x3 x4 x5 x6 Q) n9) x7 x8 := h
    unfold wp_X4_besideOf_36 at h
    refine J_il F 6 dX4_besideOf_36 rfl ?_
    refine J_iln F 1 dX4_besideOf_38 rfl rfl ?_
    refine J_cge F (tgt := 99) dX4_besideOf_39 (by decide) (fun c_11 => ?_) (fun c_11 => ?_)
    · have h := h.1 c_11
      refine J_ic F dX4_besideOf_99 ki_0 ?_
      refine J_is F (L' := [(8, .int (nI 0)), (0, .ref (gb G + a0)), (3, .int x3), (4, .int x4), (5, .int x5), (6, .int x6), (7, .int x7)]) dX4_besideOf_100 (by decide) rfl ?_
      refine J_sub [1, 2, 3, 4, 5, 6, 0] rfl ?_
      obtain ⟨n9, h⟩ := h
      exact wk_X4_besideOf_102 F y0 n9 _ _ h
    · have h := h.2 c_11
      refine J_il F 5 dX4_besideOf_42 rfl ?_
      refine J_ic F dX4_besideOf_44 ki_1 ?_
      refine J_aln F 0 dX4_besideOf_45 rfl rfl ?_
      refine J_gfr F (ci := 4) 0 rfl inX4 y0 (by decide) (by decide) rfl lf_X4_9 rfl dX4_besideOf_46 ?_
      refine J_aln F 0 dX4_besideOf_49 rfl rfl ?_
      refine J_il F 3 dX4_besideOf_50 rfl ?_
      refine J_il F 6 dX4_besideOf_52 rfl ?_
      refine J_iadd F dX4_besideOf_54 ?_
      refine J_il F 4 dX4_besideOf_55 rfl ?_
      refine J_ic F dX4_besideOf_57 ki_1 ?_
      refine J_isub F dX4_besideOf_58 ?_
      refine J_callVi F (As := [.int (x5 + x8), .int (x6 - (nI 1))]) (st := [.ref (gb G + (a0 + 1)), .int (nI 1), .int x7]) (C_X4_zoneAt l G a0 (x5 + x8) (x6 - (nI 1)) y0 h) (ci := 4) y0 (by decide) rfl rfl lm_X4_40 li_X4_zoneAt ls_X4_zoneAt ini_X4 lc_X4_zoneAt hd_X4_zoneAt (by decide) (Nat.le_of_ble_eq_true rfl) (by decide) rfl dX4_besideOf_59 (fun r_12 σ_13 hh => ?_)
      clear h
      obtain ⟨e9, h⟩ := hh
      subst σ_13
      obtain ⟨h_14, h⟩ := h
      refine J_iald F (lay_space y0).1 h_14 dX4_besideOf_62 ?_
      refine J_ishl F dX4_besideOf_63 ?_
      refine J_ior F dX4_besideOf_64 ?_
      refine J_top (fun x7_15 ex7_15 => ?_)
      have h := h x7_15 ex7_15
      refine J_is F (L' := [(7, .int x7_15), (0, .ref (gb G + a0)), (3, .int x3), (4, .int x4), (5, .int x5), (6, .int x6), (8, .int x8)]) dX4_besideOf_65 (by decide) rfl ?_
      refine J_il F 0 dX4_besideOf_67 rfl ?_
      refine J_ic F dX4_besideOf_69 ki_1 ?_
      refine J_aln F 1 dX4_besideOf_70 rfl rfl ?_
      refine J_gfr F (ci := 4) 0 rfl inX4 y0 (by decide) (by decide) rfl lf_X4_9 rfl dX4_besideOf_71 ?_
      refine J_aln F 1 dX4_besideOf_74 rfl rfl ?_
      refine J_il F 4 dX4_besideOf_75 rfl ?_
      refine J_il F 6 dX4_besideOf_77 rfl ?_
      refine J_iadd F dX4_besideOf_79 ?_
      refine J_il F 5 dX4_besideOf_80 rfl ?_
      refine J_il F 3 dX4_besideOf_82 rfl ?_
      refine J_iadd F dX4_besideOf_84 ?_
      refine J_callVi F (As := [.int (x5 + x8), .int (x6 + x4)]) (st := [.ref (gb G + (a0 + 1)), .int (nI 1), .int x7_15]) (C_X4_zoneAt l G a0 (x5 + x8) (x6 + x4) y0 h) (ci := 4) y0 (by decide) rfl rfl lm_X4_40 li_X4_zoneAt ls_X4_zoneAt ini_X4 lc_X4_zoneAt hd_X4_zoneAt (by decide) (Nat.le_of_ble_eq_true rfl) (by decide) rfl dX4_besideOf_85 (fun r_16 σ_17 hh => ?_)
      clear h
      obtain ⟨e9, h⟩ := hh
      subst σ_17
      obtain ⟨h_18, h⟩ := h
      refine J_iald F (lay_space y0).1 h_18 dX4_besideOf_88 ?_
      refine J_ishl F dX4_besideOf_89 ?_
      refine J_ior F dX4_besideOf_90 ?_
      refine J_top (fun x7_19 ex7_19 => ?_)
      have h := h x7_19 ex7_19
      refine J_is F (L' := [(7, .int x7_19), (0, .ref (gb G + a0)), (3, .int x3), (4, .int x4), (5, .int x5), (6, .int x6), (8, .int x8)]) dX4_besideOf_91 (by decide) rfl ?_
      obtain ⟨x8_20, ex8_20⟩ : ∃ z : Int32, z = x8 + (nI 1) := ⟨_, rfl⟩
      have h := h x8_20 ex8_20
      refine J_iinc F (v := x8_20) (L' := [(8, .int x8_20), (7, .int x7_19), (0, .ref (gb G + a0)), (3, .int x3), (4, .int x4), (5, .int x5), (6, .int x6)]) 6 dX4_besideOf_93 rfl (by rw [ki_1, ex8_20]) (by decide) rfl ?_
      refine J_goto F (tgt := 36) dX4_besideOf_96 (by decide) ?_
      refine J_sub [2, 3, 4, 5, 6, 1, 0] rfl ?_
      exact i36 _ _ h
set_option maxRecDepth 20000 in
set_option maxHeartbeats 4000000 in
theorem C_X4_besideOf (l : Launch) (G : Gp) (a0 : Nat) (x1 : Int32) (y0 : lay a0 = (4, 0)) {σ : St} {Q : Int32 → Prop} (h : wp_X4_besideOf σ a0 x1 Q) : Cn l yX4_besideOf cX4_besideOf 9 (some .int) 2 42 G [.ref (gb G + a0), .int x1] σ (qI (fun r σ' => σ' = σ ∧ Q r)) := by
  refine Cn_of (L := [(0, .ref (gb G + a0)), (1, .int x1)]) RX4 (by decide) rfl (Nat.le_of_ble_eq_true rfl) rfl ?_
  intro p e s m below meth c F
  unfold wp_X4_besideOf at h
  refine J_iln F 1 dX4_besideOf_0 rfl rfl ?_
  refine J_callSi F (As := [.int x1]) (st := []) (C_X4_depthOf l G x1  h) lm_X4_52 li_X4_depthOf ini_X4 lc_X4_depthOf hd_X4_depthOf (by decide) (Nat.le_of_ble_eq_true rfl) (by decide) rfl dX4_besideOf_1 (fun r_21 σ_22 hh => ?_)
  clear h
  obtain ⟨e9, h⟩ := hh
  subst σ_22
  refine J_isn F (L' := [(2, .int r_21), (0, .ref (gb G + a0)), (1, .int x1)]) dX4_besideOf_4 rfl (by decide) rfl ?_
  refine J_iln F 0 dX4_besideOf_5 rfl rfl ?_
  refine J_callSi F (As := [.int r_21]) (st := []) (C_X4_wide l G r_21  h) lm_X4_55 li_X4_wide ini_X4 lc_X4_wide hd_X4_wide (by decide) (Nat.le_of_ble_eq_true rfl) (by decide) rfl dX4_besideOf_6 (fun r_23 σ_24 hh => ?_)
  clear h
  obtain ⟨e9, h⟩ := hh
  subst σ_24
  refine J_isn F (L' := [(3, .int r_23), (2, .int r_21), (0, .ref (gb G + a0)), (1, .int x1)]) dX4_besideOf_9 rfl (by decide) rfl ?_
  refine J_iln F 1 dX4_besideOf_10 rfl rfl ?_
  refine J_callSi F (As := [.int r_21]) (st := []) (C_X4_high l G r_21  h) lm_X4_58 li_X4_high ini_X4 lc_X4_high hd_X4_high (by decide) (Nat.le_of_ble_eq_true rfl) (by decide) rfl dX4_besideOf_11 (fun r_25 σ_26 hh => ?_)
  clear h
  obtain ⟨e9, h⟩ := hh
  subst σ_26
  refine J_is F (L' := [(4, .int r_25), (3, .int r_23), (2, .int r_21), (0, .ref (gb G + a0)), (1, .int x1)]) dX4_besideOf_14 (by decide) rfl ?_
  refine J_iln F 4 dX4_besideOf_16 rfl rfl ?_
  refine J_iln F 2 dX4_besideOf_17 rfl rfl ?_
  refine J_callSi F (As := [.int x1, .int r_21]) (st := []) (C_X4_leastX l G x1 r_21  h) lm_X4_61 li_X4_leastX ini_X4 lc_X4_leastX hd_X4_leastX (by decide) (Nat.le_of_ble_eq_true rfl) (by decide) rfl dX4_besideOf_18 (fun r_27 σ_28 hh => ?_)
  clear h
  obtain ⟨e9, h⟩ := hh
  subst σ_28
  refine J_is F (L' := [(5, .int r_27), (4, .int r_25), (3, .int r_23), (2, .int r_21), (0, .ref (gb G + a0)), (1, .int x1)]) dX4_besideOf_21 (by decide) rfl ?_
  refine J_iln F 5 dX4_besideOf_23 rfl rfl ?_
  refine J_iln F 3 dX4_besideOf_24 rfl rfl ?_
  refine J_callSi F (As := [.int x1, .int r_21]) (st := []) (C_X4_leastY l G x1 r_21  h) lm_X4_64 li_X4_leastY ini_X4 lc_X4_leastY hd_X4_leastY (by decide) (Nat.le_of_ble_eq_true rfl) (by decide) rfl dX4_besideOf_25 (fun r_29 σ_30 hh => ?_)
  clear h
  obtain ⟨e9, h⟩ := hh
  subst σ_30
  refine J_is F (L' := [(6, .int r_29), (5, .int r_27), (4, .int r_25), (3, .int r_23), (2, .int r_21), (0, .ref (gb G + a0)), (1, .int x1)]) dX4_besideOf_28 (by decide) rfl ?_
  refine J_ic F dX4_besideOf_30 ki_0 ?_
  refine J_is F (L' := [(7, .int (nI 0)), (6, .int r_29), (5, .int r_27), (4, .int r_25), (3, .int r_23), (2, .int r_21), (0, .ref (gb G + a0)), (1, .int x1)]) dX4_besideOf_31 (by decide) rfl ?_
  refine J_ic F dX4_besideOf_33 ki_0 ?_
  refine J_is F (L' := [(8, .int (nI 0)), (7, .int (nI 0)), (6, .int r_29), (5, .int r_27), (4, .int r_25), (3, .int r_23), (2, .int r_21), (0, .ref (gb G + a0)), (1, .int x1)]) dX4_besideOf_34 (by decide) rfl ?_
  refine J_sub [7, 5, 4, 3, 2, 1, 0] rfl ?_
  obtain ⟨n9, h⟩ := h
  exact wk_X4_besideOf_36 F y0 n9 _ _ h
theorem dX4_leastOf_0 : decode cX4_leastOf 0 = .ok (.iconst (-1), 1) := by decide +kernel
theorem dX4_leastOf_1 : decode cX4_leastOf 1 = .ok (.istore_n 2, 1) := by decide +kernel
theorem dX4_leastOf_2 : decode cX4_leastOf 2 = .ok (.iconst 0, 1) := by decide +kernel
theorem dX4_leastOf_3 : decode cX4_leastOf 3 = .ok (.istore_n 3, 1) := by decide +kernel
theorem dX4_leastOf_4 : decode cX4_leastOf 4 = .ok (.iload_n 3, 1) := by decide +kernel
theorem dX4_leastOf_5 : decode cX4_leastOf 5 = .ok (.bipush 10, 2) := by decide +kernel
theorem dX4_leastOf_7 : decode cX4_leastOf 7 = .ok (.if_icmp .ge 39, 3) := by decide +kernel
theorem dX4_leastOf_10 : decode cX4_leastOf 10 = .ok (.iload_n 1, 1) := by decide +kernel
theorem dX4_leastOf_11 : decode cX4_leastOf 11 = .ok (.iload_n 3, 1) := by decide +kernel
theorem dX4_leastOf_12 : decode cX4_leastOf 12 = .ok (.ishr, 1) := by decide +kernel
theorem dX4_leastOf_13 : decode cX4_leastOf 13 = .ok (.iconst 1, 1) := by decide +kernel
theorem dX4_leastOf_14 : decode cX4_leastOf 14 = .ok (.iand, 1) := by decide +kernel
theorem dX4_leastOf_15 : decode cX4_leastOf 15 = .ok (.ifCond .eq 25, 3) := by decide +kernel
theorem dX4_leastOf_18 : decode cX4_leastOf 18 = .ok (.iload_n 2, 1) := by decide +kernel
theorem dX4_leastOf_19 : decode cX4_leastOf 19 = .ok (.iconst (-1), 1) := by decide +kernel
theorem dX4_leastOf_20 : decode cX4_leastOf 20 = .ok (.if_icmp .eq 18, 3) := by decide +kernel
theorem dX4_leastOf_23 : decode cX4_leastOf 23 = .ok (.aload_n 0, 1) := by decide +kernel
theorem dX4_leastOf_24 : decode cX4_leastOf 24 = .ok (.getfield 15, 3) := by decide +kernel
theorem dX4_leastOf_27 : decode cX4_leastOf 27 = .ok (.iload_n 3, 1) := by decide +kernel
theorem dX4_leastOf_28 : decode cX4_leastOf 28 = .ok (.iaload, 1) := by decide +kernel
theorem dX4_leastOf_29 : decode cX4_leastOf 29 = .ok (.aload_n 0, 1) := by decide +kernel
theorem dX4_leastOf_30 : decode cX4_leastOf 30 = .ok (.getfield 15, 3) := by decide +kernel
theorem dX4_leastOf_33 : decode cX4_leastOf 33 = .ok (.iload_n 2, 1) := by decide +kernel
theorem dX4_leastOf_34 : decode cX4_leastOf 34 = .ok (.iaload, 1) := by decide +kernel
theorem dX4_leastOf_35 : decode cX4_leastOf 35 = .ok (.if_icmp .ge 5, 3) := by decide +kernel
theorem dX4_leastOf_38 : decode cX4_leastOf 38 = .ok (.iload_n 3, 1) := by decide +kernel
theorem dX4_leastOf_39 : decode cX4_leastOf 39 = .ok (.istore_n 2, 1) := by decide +kernel
theorem dX4_leastOf_40 : decode cX4_leastOf 40 = .ok (.iinc 3 1, 3) := by decide +kernel
theorem dX4_leastOf_43 : decode cX4_leastOf 43 = .ok (.goto (-39), 3) := by decide +kernel
theorem dX4_leastOf_46 : decode cX4_leastOf 46 = .ok (.iload_n 2, 1) := by decide +kernel
theorem dX4_leastOf_47 : decode cX4_leastOf 47 = .ok (.ireturn, 1) := by decide +kernel
set_option maxRecDepth 20000 in
set_option maxHeartbeats 4000000 in
theorem wk_X4_leastOf_4 {p : Program} {l : Launch} {e : Env} {s : State} {m : MethodId} {args : Array Value} {below : List Frame} {meth : Method} {c : Code} {G : Gp} {σ : St} {a0 : Nat} {x1 : Int32}  {Q : Int32 → Prop} (F : FX p s m args meth c cX4_leastOf 4 (some .int) RX4 G) (y0 : lay a0 = (4, 0))  : ∀ (n9 : Nat) (x2 : Int32) (x3 : Int32), LP2 (wp_X4_leastOf_4 σ a0 x1 Q) n9 x2 x3 → J p l e (rmF 0 0) s m args below meth c 4 G (MQ below (QQ G (qI (fun r σ' => σ' = σ ∧ Q r))) args s 0 0 (fr G)) 0 0 4 [(0, .ref (gb G + a0)), (1, .int x1), (2, .int x2), (3, .int x3)] [] σ := by
  intro n9
  induction n9 with
  | zero => intro x2 x3 h; exact h.elim
  | succ n9 i4 =>
    intro x2 x3 h
    have h : wp_X4_leastOf_4 σ a0 x1 Q (LP2 (wp_X4_leastOf_4 σ a0 x1 Q) n9) x2 x3 := h
    unfold wp_X4_leastOf_4 at h
    refine J_iln F 3 dX4_leastOf_4 rfl rfl ?_
    refine J_bi F dX4_leastOf_5 kb_10 ?_
    refine J_cge F (tgt := 46) dX4_leastOf_7 (by decide) (fun c_1 => ?_) (fun c_1 => ?_)
    · have h := h.1 c_1
      refine J_iln F 2 dX4_leastOf_46 rfl rfl ?_
      exact J_reti F ⟨_, rfl, rfl, h⟩ dX4_leastOf_47
    · have h := h.2 c_1
      refine J_iln F 1 dX4_leastOf_10 rfl rfl ?_
      refine J_iln F 3 dX4_leastOf_11 rfl rfl ?_
      refine J_ishr F dX4_leastOf_12 ?_
      refine J_ic F dX4_leastOf_13 ki_1 ?_
      refine J_iand F dX4_leastOf_14 ?_
      refine J_zeq F (tgt := 40) dX4_leastOf_15 (by decide) (fun c_2 => ?_) (fun c_2 => ?_)
      · have h := h.1 c_2
        obtain ⟨x3_3, ex3_3⟩ : ∃ z : Int32, z = x3 + (nI 1) := ⟨_, rfl⟩
        have h := h x3_3 ex3_3
        refine J_iinc F (v := x3_3) (L' := [(3, .int x3_3), (0, .ref (gb G + a0)), (1, .int x1), (2, .int x2)]) 3 dX4_leastOf_40 rfl (by rw [ki_1, ex3_3]) (by decide) rfl ?_
        refine J_goto F (tgt := 4) dX4_leastOf_43 (by decide) ?_
        refine J_sub [1, 2, 3, 0] rfl ?_
        exact i4 _ _ h
      · have h := h.2 c_2
        refine J_iln F 2 dX4_leastOf_18 rfl rfl ?_
        refine J_ic F dX4_leastOf_19 ki_m1 ?_
        refine J_ceq F (tgt := 38) dX4_leastOf_20 (by decide) (fun c_4 => ?_) (fun c_4 => ?_)
        · have h := h.1 c_4
          refine J_iln F 3 dX4_leastOf_38 rfl rfl ?_
          refine J_isn F (L' := [(2, .int x3), (0, .ref (gb G + a0)), (1, .int x1), (3, .int x3)]) dX4_leastOf_39 rfl (by decide) rfl ?_
          obtain ⟨x3_5, ex3_5⟩ : ∃ z : Int32, z = x3 + (nI 1) := ⟨_, rfl⟩
          have h := h x3_5 ex3_5
          refine J_iinc F (v := x3_5) (L' := [(3, .int x3_5), (2, .int x3), (0, .ref (gb G + a0)), (1, .int x1)]) 3 dX4_leastOf_40 rfl (by rw [ki_1, ex3_5]) (by decide) rfl ?_
          refine J_goto F (tgt := 4) dX4_leastOf_43 (by decide) ?_
          refine J_sub [2, 3, 1, 0] rfl ?_
          exact i4 _ _ h
        · have h := h.2 c_4
          refine J_aln F 0 dX4_leastOf_23 rfl rfl ?_
          refine J_gfr F (ci := 4) 1 rfl inX4 y0 (by decide) (by decide) rfl lf_X4_15 rfl dX4_leastOf_24 ?_
          refine J_iln F 3 dX4_leastOf_27 rfl rfl ?_
          obtain ⟨h_6, h⟩ := h
          refine J_iald F (lay_space y0).2.1 h_6 dX4_leastOf_28 ?_
          refine J_aln F 0 dX4_leastOf_29 rfl rfl ?_
          refine J_gfr F (ci := 4) 1 rfl inX4 y0 (by decide) (by decide) rfl lf_X4_15 rfl dX4_leastOf_30 ?_
          refine J_iln F 2 dX4_leastOf_33 rfl rfl ?_
          obtain ⟨h_7, h⟩ := h
          refine J_iald F (lay_space y0).2.1 h_7 dX4_leastOf_34 ?_
          refine J_cge F (tgt := 40) dX4_leastOf_35 (by decide) (fun c_8 => ?_) (fun c_8 => ?_)
          · have h := h.1 c_8
            obtain ⟨x3_9, ex3_9⟩ : ∃ z : Int32, z = x3 + (nI 1) := ⟨_, rfl⟩
            have h := h x3_9 ex3_9
            refine J_iinc F (v := x3_9) (L' := [(3, .int x3_9), (0, .ref (gb G + a0)), (1, .int x1), (2, .int x2)]) 3 dX4_leastOf_40 rfl (by rw [ki_1, ex3_9]) (by decide) rfl ?_
            refine J_goto F (tgt := 4) dX4_leastOf_43 (by decide) ?_
            refine J_sub [1, 2, 3, 0] rfl ?_
            exact i4 _ _ h
          · have h := h.2 c_8
            refine J_iln F 3 dX4_leastOf_38 rfl rfl ?_
            refine J_isn F (L' := [(2, .int x3), (0, .ref (gb G + a0)), (1, .int x1), (3, .int x3)]) dX4_leastOf_39 rfl (by decide) rfl ?_
            obtain ⟨x3_10, ex3_10⟩ : ∃ z : Int32, z = x3 + (nI 1) := ⟨_, rfl⟩
            have h := h x3_10 ex3_10
            refine J_iinc F (v := x3_10) (L' := [(3, .int x3_10), (2, .int x3), (0, .ref (gb G + a0)), (1, .int x1)]) 3 dX4_leastOf_40 rfl (by rw [ki_1, ex3_10]) (by decide) rfl ?_
            refine J_goto F (tgt := 4) dX4_leastOf_43 (by decide) ?_
            refine J_sub [2, 3, 1, 0] rfl ?_
            exact i4 _ _ h
set_option maxRecDepth 20000 in
set_option maxHeartbeats 4000000 in
theorem C_X4_leastOf (l : Launch) (G : Gp) (a0 : Nat) (x1 : Int32) (y0 : lay a0 = (4, 0)) {σ : St} {Q : Int32 → Prop} (h : wp_X4_leastOf σ a0 x1 Q) : Cn l yX4_leastOf cX4_leastOf 4 (some .int) 0 0 G [.ref (gb G + a0), .int x1] σ (qI (fun r σ' => σ' = σ ∧ Q r)) := by
  refine Cn_of (L := [(0, .ref (gb G + a0)), (1, .int x1)]) RX4 (by decide) rfl (Nat.le_of_ble_eq_true rfl) rfl ?_
  intro p e s m below meth c F
  unfold wp_X4_leastOf at h
  refine J_ic F dX4_leastOf_0 ki_m1 ?_
  refine J_isn F (L' := [(2, .int (-1)), (0, .ref (gb G + a0)), (1, .int x1)]) dX4_leastOf_1 rfl (by decide) rfl ?_
  refine J_ic F dX4_leastOf_2 ki_0 ?_
  refine J_isn F (L' := [(3, .int (nI 0)), (2, .int (-1)), (0, .ref (gb G + a0)), (1, .int x1)]) dX4_leastOf_3 rfl (by decide) rfl ?_
  refine J_sub [2, 3, 1, 0] rfl ?_
  obtain ⟨n9, h⟩ := h
  exact wk_X4_leastOf_4 F y0 n9 _ _ h
theorem dX4_heirOf_0 : decode cX4_heirOf 0 = .ok (.aload_n 0, 1) := by decide +kernel
theorem dX4_heirOf_1 : decode cX4_heirOf 1 = .ok (.getfield 9, 3) := by decide +kernel
theorem dX4_heirOf_4 : decode cX4_heirOf 4 = .ok (.iload_n 1, 1) := by decide +kernel
theorem dX4_heirOf_5 : decode cX4_heirOf 5 = .ok (.iconst 1, 1) := by decide +kernel
theorem dX4_heirOf_6 : decode cX4_heirOf 6 = .ok (.ixor, 1) := by decide +kernel
theorem dX4_heirOf_7 : decode cX4_heirOf 7 = .ok (.iaload, 1) := by decide +kernel
theorem dX4_heirOf_8 : decode cX4_heirOf 8 = .ok (.iconst 1, 1) := by decide +kernel
theorem dX4_heirOf_9 : decode cX4_heirOf 9 = .ok (.isub, 1) := by decide +kernel
theorem dX4_heirOf_10 : decode cX4_heirOf 10 = .ok (.istore_n 3, 1) := by decide +kernel
theorem dX4_heirOf_11 : decode cX4_heirOf 11 = .ok (.iload_n 3, 1) := by decide +kernel
theorem dX4_heirOf_12 : decode cX4_heirOf 12 = .ok (.ifCond .lt 13, 3) := by decide +kernel
theorem dX4_heirOf_15 : decode cX4_heirOf 15 = .ok (.iload_n 2, 1) := by decide +kernel
theorem dX4_heirOf_16 : decode cX4_heirOf 16 = .ok (.iload_n 3, 1) := by decide +kernel
theorem dX4_heirOf_17 : decode cX4_heirOf 17 = .ok (.ishr, 1) := by decide +kernel
theorem dX4_heirOf_18 : decode cX4_heirOf 18 = .ok (.iconst 1, 1) := by decide +kernel
theorem dX4_heirOf_19 : decode cX4_heirOf 19 = .ok (.iand, 1) := by decide +kernel
theorem dX4_heirOf_20 : decode cX4_heirOf 20 = .ok (.ifCond .eq 5, 3) := by decide +kernel
theorem dX4_heirOf_23 : decode cX4_heirOf 23 = .ok (.iload_n 3, 1) := by decide +kernel
theorem dX4_heirOf_24 : decode cX4_heirOf 24 = .ok (.ireturn, 1) := by decide +kernel
theorem dX4_heirOf_25 : decode cX4_heirOf 25 = .ok (.aload_n 0, 1) := by decide +kernel
theorem dX4_heirOf_26 : decode cX4_heirOf 26 = .ok (.iload_n 1, 1) := by decide +kernel
theorem dX4_heirOf_27 : decode cX4_heirOf 27 = .ok (.invokevirtual 74, 3) := by decide +kernel
theorem dX4_heirOf_30 : decode cX4_heirOf 30 = .ok (.iload_n 2, 1) := by decide +kernel
theorem dX4_heirOf_31 : decode cX4_heirOf 31 = .ok (.iand, 1) := by decide +kernel
theorem dX4_heirOf_32 : decode cX4_heirOf 32 = .ok (.istore 4, 2) := by decide +kernel
theorem dX4_heirOf_34 : decode cX4_heirOf 34 = .ok (.aload_n 0, 1) := by decide +kernel
theorem dX4_heirOf_35 : decode cX4_heirOf 35 = .ok (.iload 4, 2) := by decide +kernel
theorem dX4_heirOf_37 : decode cX4_heirOf 37 = .ok (.ifCond .eq 8, 3) := by decide +kernel
theorem dX4_heirOf_40 : decode cX4_heirOf 40 = .ok (.iload 4, 2) := by decide +kernel
theorem dX4_heirOf_42 : decode cX4_heirOf 42 = .ok (.goto 4, 3) := by decide +kernel
theorem dX4_heirOf_45 : decode cX4_heirOf 45 = .ok (.iload_n 2, 1) := by decide +kernel
theorem dX4_heirOf_46 : decode cX4_heirOf 46 = .ok (.invokevirtual 77, 3) := by decide +kernel
theorem dX4_heirOf_49 : decode cX4_heirOf 49 = .ok (.ireturn, 1) := by decide +kernel
set_option maxRecDepth 20000 in
set_option maxHeartbeats 4000000 in
theorem wk_X4_heirOf_46 {p : Program} {l : Launch} {e : Env} {s : State} {m : MethodId} {args : Array Value} {below : List Frame} {meth : Method} {c : Code} {G : Gp} {σ : St} {b0 : Nat} {t1 : Int32}  {Q : Int32 → Prop} (F : FX p s m args meth c cX4_heirOf 5 (some .int) RX4 G) (z0 : lay b0 = (4, 0))  (h : wp_X4_heirOf_46 σ b0 t1 Q) : J p l e (rmF 3 70) s m args below meth c 5 G (MQ below (QQ G (qI (fun r σ' => σ' = σ ∧ Q r))) args s 0 0 (fr G)) 0 0 46 [] [.int t1, .ref (gb G + b0)] σ := by
  unfold wp_X4_heirOf_46 at h
  refine J_callVi F (As := [.int t1]) (st := []) (C_X4_leastOf l G b0 t1 z0 h) (ci := 4) z0 (by decide) rfl rfl lm_X4_77 li_X4_leastOf ls_X4_leastOf ini_X4 lc_X4_leastOf hd_X4_leastOf (by decide) (Nat.le_of_ble_eq_true rfl) (by decide) rfl dX4_heirOf_46 (fun r_1 σ_2 hh => ?_)
  clear h
  obtain ⟨e9, h⟩ := hh
  subst σ_2
  exact J_reti F ⟨_, rfl, rfl, h⟩ dX4_heirOf_49
set_option maxRecDepth 20000 in
set_option maxHeartbeats 4000000 in
theorem wk_X4_heirOf_25 {p : Program} {l : Launch} {e : Env} {s : State} {m : MethodId} {args : Array Value} {below : List Frame} {meth : Method} {c : Code} {G : Gp} {σ : St} {a0 : Nat} {x1 : Int32} {x2 : Int32}  {Q : Int32 → Prop} (F : FX p s m args meth c cX4_heirOf 5 (some .int) RX4 G) (y0 : lay a0 = (4, 0))  (h : wp_X4_heirOf_25 σ a0 x1 x2 Q) : J p l e (rmF 3 70) s m args below meth c 5 G (MQ below (QQ G (qI (fun r σ' => σ' = σ ∧ Q r))) args s 0 0 (fr G)) 0 0 25 [(0, .ref (gb G + a0)), (1, .int x1), (2, .int x2)] [] σ := by
  unfold wp_X4_heirOf_25 at h
  refine J_aln F 0 dX4_heirOf_25 rfl rfl ?_
  refine J_iln F 1 dX4_heirOf_26 rfl rfl ?_
  refine J_callVi F (As := [.int x1]) (st := []) (C_X4_besideOf l G a0 x1 y0 h) (ci := 4) y0 (by decide) rfl rfl lm_X4_74 li_X4_besideOf ls_X4_besideOf ini_X4 lc_X4_besideOf hd_X4_besideOf (by decide) (Nat.le_of_ble_eq_true rfl) (by decide) rfl dX4_heirOf_27 (fun r_3 σ_4 hh => ?_)
  clear h
  obtain ⟨e9, h⟩ := hh
  subst σ_4
  refine J_iln F 2 dX4_heirOf_30 rfl rfl ?_
  refine J_iand F dX4_heirOf_31 ?_
  refine J_top (fun x4_5 ex4_5 => ?_)
  have h := h x4_5 ex4_5
  refine J_is F (L' := [(4, .int x4_5), (0, .ref (gb G + a0)), (1, .int x1), (2, .int x2)]) dX4_heirOf_32 (by decide) rfl ?_
  refine J_aln F 1 dX4_heirOf_34 rfl rfl ?_
  refine J_il F 0 dX4_heirOf_35 rfl ?_
  refine J_zeq F (tgt := 45) dX4_heirOf_37 (by decide) (fun c_6 => ?_) (fun c_6 => ?_)
  · have h := h.1 c_6
    refine J_iln F 3 dX4_heirOf_45 rfl rfl ?_
    refine J_sub [] rfl ?_
    exact wk_X4_heirOf_46 F y0 h
  · have h := h.2 c_6
    refine J_il F 0 dX4_heirOf_40 rfl ?_
    refine J_goto F (tgt := 46) dX4_heirOf_42 (by decide) ?_
    refine J_sub [] rfl ?_
    exact wk_X4_heirOf_46 F y0 h
set_option maxRecDepth 20000 in
set_option maxHeartbeats 4000000 in
theorem C_X4_heirOf (l : Launch) (G : Gp) (a0 : Nat) (x1 : Int32) (x2 : Int32) (y0 : lay a0 = (4, 0)) {σ : St} {Q : Int32 → Prop} (h : wp_X4_heirOf σ a0 x1 x2 Q) : Cn l yX4_heirOf cX4_heirOf 5 (some .int) 3 70 G [.ref (gb G + a0), .int x1, .int x2] σ (qI (fun r σ' => σ' = σ ∧ Q r)) := by
  refine Cn_of (L := [(0, .ref (gb G + a0)), (1, .int x1), (2, .int x2)]) RX4 (by decide) rfl (Nat.le_of_ble_eq_true rfl) rfl ?_
  intro p e s m below meth c F
  unfold wp_X4_heirOf at h
  refine J_aln F 0 dX4_heirOf_0 rfl rfl ?_
  refine J_gfr F (ci := 4) 0 rfl inX4 y0 (by decide) (by decide) rfl lf_X4_9 rfl dX4_heirOf_1 ?_
  refine J_iln F 1 dX4_heirOf_4 rfl rfl ?_
  refine J_ic F dX4_heirOf_5 ki_1 ?_
  refine J_ixor F dX4_heirOf_6 ?_
  obtain ⟨h_7, h⟩ := h
  refine J_iald F (lay_space y0).1 h_7 dX4_heirOf_7 ?_
  refine J_ic F dX4_heirOf_8 ki_1 ?_
  refine J_isub F dX4_heirOf_9 ?_
  refine J_top (fun x3_8 ex3_8 => ?_)
  have h := h x3_8 ex3_8
  refine J_isn F (L' := [(3, .int x3_8), (0, .ref (gb G + a0)), (1, .int x1), (2, .int x2)]) dX4_heirOf_10 rfl (by decide) rfl ?_
  refine J_iln F 0 dX4_heirOf_11 rfl rfl ?_
  refine J_zlt F (tgt := 25) dX4_heirOf_12 (by decide) (fun c_9 => ?_) (fun c_9 => ?_)
  · have h := h.1 c_9
    refine J_sub [1, 2, 3] rfl ?_
    exact wk_X4_heirOf_25 F y0 h
  · have h := h.2 c_9
    refine J_iln F 3 dX4_heirOf_15 rfl rfl ?_
    refine J_iln F 0 dX4_heirOf_16 rfl rfl ?_
    refine J_ishr F dX4_heirOf_17 ?_
    refine J_ic F dX4_heirOf_18 ki_1 ?_
    refine J_iand F dX4_heirOf_19 ?_
    refine J_zeq F (tgt := 25) dX4_heirOf_20 (by decide) (fun c_10 => ?_) (fun c_10 => ?_)
    · have h := h.1 c_10
      refine J_sub [1, 2, 3] rfl ?_
      exact wk_X4_heirOf_25 F y0 h
    · have h := h.2 c_10
      refine J_iln F 0 dX4_heirOf_23 rfl rfl ?_
      exact J_reti F ⟨_, rfl, rfl, h⟩ dX4_heirOf_24
theorem dX4_handAll_0 : decode cX4_handAll 0 = .ok (.aload_n 0, 1) := by decide +kernel
theorem dX4_handAll_1 : decode cX4_handAll 1 = .ok (.getfield 18, 3) := by decide +kernel
theorem dX4_handAll_4 : decode cX4_handAll 4 = .ok (.iload_n 1, 1) := by decide +kernel
theorem dX4_handAll_5 : decode cX4_handAll 5 = .ok (.iaload, 1) := by decide +kernel
theorem dX4_handAll_6 : decode cX4_handAll 6 = .ok (.istore_n 3, 1) := by decide +kernel
theorem dX4_handAll_7 : decode cX4_handAll 7 = .ok (.iconst 1, 1) := by decide +kernel
theorem dX4_handAll_8 : decode cX4_handAll 8 = .ok (.istore 4, 2) := by decide +kernel
theorem dX4_handAll_10 : decode cX4_handAll 10 = .ok (.iload 4, 2) := by decide +kernel
theorem dX4_handAll_12 : decode cX4_handAll 12 = .ok (.sipush 2048, 3) := by decide +kernel
theorem dX4_handAll_15 : decode cX4_handAll 15 = .ok (.if_icmp .ge 52, 3) := by decide +kernel
theorem dX4_handAll_18 : decode cX4_handAll 18 = .ok (.iload_n 3, 1) := by decide +kernel
theorem dX4_handAll_19 : decode cX4_handAll 19 = .ok (.ifCond .le 48, 3) := by decide +kernel
theorem dX4_handAll_22 : decode cX4_handAll 22 = .ok (.aload_n 0, 1) := by decide +kernel
theorem dX4_handAll_23 : decode cX4_handAll 23 = .ok (.getfield 9, 3) := by decide +kernel
theorem dX4_handAll_26 : decode cX4_handAll 26 = .ok (.iload 4, 2) := by decide +kernel
theorem dX4_handAll_28 : decode cX4_handAll 28 = .ok (.iaload, 1) := by decide +kernel
theorem dX4_handAll_29 : decode cX4_handAll 29 = .ok (.iload_n 1, 1) := by decide +kernel
theorem dX4_handAll_30 : decode cX4_handAll 30 = .ok (.iconst 1, 1) := by decide +kernel
theorem dX4_handAll_31 : decode cX4_handAll 31 = .ok (.iadd, 1) := by decide +kernel
theorem dX4_handAll_32 : decode cX4_handAll 32 = .ok (.if_icmp .ne 29, 3) := by decide +kernel
theorem dX4_handAll_35 : decode cX4_handAll 35 = .ok (.iinc 3 (-1), 3) := by decide +kernel
theorem dX4_handAll_38 : decode cX4_handAll 38 = .ok (.aload_n 0, 1) := by decide +kernel
theorem dX4_handAll_39 : decode cX4_handAll 39 = .ok (.iload 4, 2) := by decide +kernel
theorem dX4_handAll_41 : decode cX4_handAll 41 = .ok (.iload_n 2, 1) := by decide +kernel
theorem dX4_handAll_42 : decode cX4_handAll 42 = .ok (.invokevirtual 71, 3) := by decide +kernel
theorem dX4_handAll_45 : decode cX4_handAll 45 = .ok (.istore 5, 2) := by decide +kernel
theorem dX4_handAll_47 : decode cX4_handAll 47 = .ok (.iload 5, 2) := by decide +kernel
theorem dX4_handAll_49 : decode cX4_handAll 49 = .ok (.iconst (-1), 1) := by decide +kernel
theorem dX4_handAll_50 : decode cX4_handAll 50 = .ok (.if_icmp .eq 11, 3) := by decide +kernel
theorem dX4_handAll_53 : decode cX4_handAll 53 = .ok (.aload_n 0, 1) := by decide +kernel
theorem dX4_handAll_54 : decode cX4_handAll 54 = .ok (.iload 4, 2) := by decide +kernel
theorem dX4_handAll_56 : decode cX4_handAll 56 = .ok (.iload 5, 2) := by decide +kernel
theorem dX4_handAll_58 : decode cX4_handAll 58 = .ok (.invokevirtual 67, 3) := by decide +kernel
theorem dX4_handAll_61 : decode cX4_handAll 61 = .ok (.iinc 4 1, 3) := by decide +kernel
theorem dX4_handAll_64 : decode cX4_handAll 64 = .ok (.goto (-54), 3) := by decide +kernel
theorem dX4_handAll_67 : decode cX4_handAll 67 = .ok (.return_, 1) := by decide +kernel
set_option maxRecDepth 20000 in
set_option maxHeartbeats 4000000 in
theorem wk_X4_handAll_10 {p : Program} {l : Launch} {e : Env} {s : State} {m : MethodId} {args : Array Value} {below : List Frame} {meth : Method} {c : Code} {G : Gp} {a0 : Nat} {x1 : Int32} {x2 : Int32}  {Q : St → Prop} (F : FX p s m args meth c cX4_handAll 6 none RX4 G) (y0 : lay a0 = (4, 0))  : ∀ (n9 : Nat) (σ : St) (x3 : Int32) (x4 : Int32), LP3 (wp_X4_handAll_10 a0 x1 x2 Q) n9 σ x3 x4 → J p l e (rmF 4 94) s m args below meth c 6 G (MQ below (QQ G (qV Q)) args s 0 0 (fr G)) 0 0 10 [(0, .ref (gb G + a0)), (1, .int x1), (2, .int x2), (3, .int x3), (4, .int x4)] [] σ := by
  intro n9
  induction n9 with
  | zero => intro σ x3 x4 h; exact h.elim
  | succ n9 i10 =>
    intro σ x3 x4 h
    have h : wp_X4_handAll_10 a0 x1 x2 Q (LP3 (wp_X4_handAll_10 a0 x1 x2 Q) n9) σ x3 x4 := h
    unfold wp_X4_handAll_10 at h
    refine J_il F 4 dX4_handAll_10 rfl ?_
    refine J_si F dX4_handAll_12 ks_2048 ?_
    refine J_cge F (tgt := 67) dX4_handAll_15 (by decide) (fun c_1 => ?_) (fun c_1 => ?_)
    · have h := h.1 c_1
      exact J_retv F ⟨rfl, h⟩ dX4_handAll_67
    · have h := h.2 c_1
      refine J_iln F 3 dX4_handAll_18 rfl rfl ?_
      refine J_zle F (tgt := 67) dX4_handAll_19 (by decide) (fun c_2 => ?_) (fun c_2 => ?_)
      · have h := h.1 c_2
        exact J_retv F ⟨rfl, h⟩ dX4_handAll_67
      · have h := h.2 c_2
        refine J_aln F 0 dX4_handAll_22 rfl rfl ?_
        refine J_gfr F (ci := 4) 0 rfl inX4 y0 (by decide) (by decide) rfl lf_X4_9 rfl dX4_handAll_23 ?_
        refine J_il F 4 dX4_handAll_26 rfl ?_
        obtain ⟨h_3, h⟩ := h
        refine J_iald F (lay_space y0).1 h_3 dX4_handAll_28 ?_
        refine J_iln F 1 dX4_handAll_29 rfl rfl ?_
        refine J_ic F dX4_handAll_30 ki_1 ?_
        refine J_iadd F dX4_handAll_31 ?_
        refine J_cne F (tgt := 61) dX4_handAll_32 (by decide) (fun c_4 => ?_) (fun c_4 => ?_)
        · have h := h.1 c_4
          obtain ⟨x4_5, ex4_5⟩ : ∃ z : Int32, z = x4 + (nI 1) := ⟨_, rfl⟩
          have h := h x4_5 ex4_5
          refine J_iinc F (v := x4_5) (L' := [(4, .int x4_5), (0, .ref (gb G + a0)), (1, .int x1), (2, .int x2), (3, .int x3)]) 4 dX4_handAll_61 rfl (by rw [ki_1, ex4_5]) (by decide) rfl ?_
          refine J_goto F (tgt := 10) dX4_handAll_64 (by decide) ?_
          refine J_sub [1, 2, 3, 4, 0] rfl ?_
          exact i10 _ _ _ h
        · have h := h.2 c_4
          obtain ⟨x3_6, ex3_6⟩ : ∃ z : Int32, z = x3 + (-1) := ⟨_, rfl⟩
          have h := h x3_6 ex3_6
          refine J_iinc F (v := x3_6) (L' := [(3, .int x3_6), (0, .ref (gb G + a0)), (1, .int x1), (2, .int x2), (4, .int x4)]) 3 dX4_handAll_35 rfl (by rw [ki_m1, ex3_6]) (by decide) rfl ?_
          refine J_aln F 1 dX4_handAll_38 rfl rfl ?_
          refine J_il F 4 dX4_handAll_39 rfl ?_
          refine J_iln F 3 dX4_handAll_41 rfl rfl ?_
          refine J_callVi F (As := [.int x4, .int x2]) (st := []) (C_X4_heirOf l G a0 x4 x2 y0 h) (ci := 4) y0 (by decide) rfl rfl lm_X4_71 li_X4_heirOf ls_X4_heirOf ini_X4 lc_X4_heirOf hd_X4_heirOf (by decide) (Nat.le_of_ble_eq_true rfl) (by decide) rfl dX4_handAll_42 (fun r_7 σ_8 hh => ?_)
          clear h
          obtain ⟨e9, h⟩ := hh
          subst σ_8
          refine J_is F (L' := [(5, .int r_7), (3, .int x3_6), (0, .ref (gb G + a0)), (1, .int x1), (2, .int x2), (4, .int x4)]) dX4_handAll_45 (by decide) rfl ?_
          refine J_il F 0 dX4_handAll_47 rfl ?_
          refine J_ic F dX4_handAll_49 ki_m1 ?_
          refine J_ceq F (tgt := 61) dX4_handAll_50 (by decide) (fun c_9 => ?_) (fun c_9 => ?_)
          · have h := h.1 c_9
            obtain ⟨x4_10, ex4_10⟩ : ∃ z : Int32, z = x4 + (nI 1) := ⟨_, rfl⟩
            have h := h x4_10 ex4_10
            refine J_iinc F (v := x4_10) (L' := [(4, .int x4_10), (5, .int r_7), (3, .int x3_6), (0, .ref (gb G + a0)), (1, .int x1), (2, .int x2)]) 5 dX4_handAll_61 rfl (by rw [ki_1, ex4_10]) (by decide) rfl ?_
            refine J_goto F (tgt := 10) dX4_handAll_64 (by decide) ?_
            refine J_sub [3, 4, 5, 2, 0] rfl ?_
            exact i10 _ _ _ h
          · have h := h.2 c_9
            refine J_aln F 2 dX4_handAll_53 rfl rfl ?_
            refine J_il F 5 dX4_handAll_54 rfl ?_
            refine J_il F 0 dX4_handAll_56 rfl ?_
            refine J_callVv F (As := [.int x4, .int r_7]) (st := []) (C_X4_give l G a0 x4 r_7 y0 h) (ci := 4) y0 (by decide) rfl rfl lm_X4_67 li_X4_give ls_X4_give ini_X4 lc_X4_give hd_X4_give (by decide) (Nat.le_of_ble_eq_true rfl) (by decide) rfl dX4_handAll_58 (fun σ_11 h => ?_)
            obtain ⟨x4_12, ex4_12⟩ : ∃ z : Int32, z = x4 + (nI 1) := ⟨_, rfl⟩
            have h := h x4_12 ex4_12
            refine J_iinc F (v := x4_12) (L' := [(4, .int x4_12), (5, .int r_7), (3, .int x3_6), (0, .ref (gb G + a0)), (1, .int x1), (2, .int x2)]) 5 dX4_handAll_61 rfl (by rw [ki_1, ex4_12]) (by decide) rfl ?_
            refine J_goto F (tgt := 10) dX4_handAll_64 (by decide) ?_
            refine J_sub [3, 4, 5, 2, 0] rfl ?_
            exact i10 _ _ _ h
set_option maxRecDepth 20000 in
set_option maxHeartbeats 4000000 in
theorem C_X4_handAll (l : Launch) (G : Gp) (a0 : Nat) (x1 : Int32) (x2 : Int32) (y0 : lay a0 = (4, 0)) {σ : St} {Q : St → Prop} (h : wp_X4_handAll σ a0 x1 x2 Q) : Cn l yX4_handAll cX4_handAll 6 none 4 94 G [.ref (gb G + a0), .int x1, .int x2] σ (qV Q) := by
  refine Cn_of (L := [(0, .ref (gb G + a0)), (1, .int x1), (2, .int x2)]) RX4 (by decide) rfl (Nat.le_of_ble_eq_true rfl) rfl ?_
  intro p e s m below meth c F
  unfold wp_X4_handAll at h
  refine J_aln F 0 dX4_handAll_0 rfl rfl ?_
  refine J_gfr F (ci := 4) 2 rfl inX4 y0 (by decide) (by decide) rfl lf_X4_18 rfl dX4_handAll_1 ?_
  refine J_iln F 1 dX4_handAll_4 rfl rfl ?_
  obtain ⟨h_13, h⟩ := h
  refine J_iald F (lay_space y0).2.2 h_13 dX4_handAll_5 ?_
  refine J_top (fun x3_14 ex3_14 => ?_)
  have h := h x3_14 ex3_14
  refine J_isn F (L' := [(3, .int x3_14), (0, .ref (gb G + a0)), (1, .int x1), (2, .int x2)]) dX4_handAll_6 rfl (by decide) rfl ?_
  refine J_ic F dX4_handAll_7 ki_1 ?_
  refine J_is F (L' := [(4, .int (nI 1)), (3, .int x3_14), (0, .ref (gb G + a0)), (1, .int x1), (2, .int x2)]) dX4_handAll_8 (by decide) rfl ?_
  refine J_sub [2, 3, 4, 1, 0] rfl ?_
  obtain ⟨n9, h⟩ := h
  exact wk_X4_handAll_10 F y0 n9 _ _ _ h
theorem dJ6_bitCount_0f7a4_0 : decode cJ6_bitCount_0f7a4 0 = .ok (.iload_n 0, 1) := by decide +kernel
theorem dJ6_bitCount_0f7a4_1 : decode cJ6_bitCount_0f7a4 1 = .ok (.iload_n 0, 1) := by decide +kernel
theorem dJ6_bitCount_0f7a4_2 : decode cJ6_bitCount_0f7a4 2 = .ok (.iconst 1, 1) := by decide +kernel
theorem dJ6_bitCount_0f7a4_3 : decode cJ6_bitCount_0f7a4 3 = .ok (.iushr, 1) := by decide +kernel
theorem dJ6_bitCount_0f7a4_4 : decode cJ6_bitCount_0f7a4 4 = .ok (.ldc_w 265, 3) := by decide +kernel
theorem dJ6_bitCount_0f7a4_7 : decode cJ6_bitCount_0f7a4 7 = .ok (.iand, 1) := by decide +kernel
theorem dJ6_bitCount_0f7a4_8 : decode cJ6_bitCount_0f7a4 8 = .ok (.isub, 1) := by decide +kernel
theorem dJ6_bitCount_0f7a4_9 : decode cJ6_bitCount_0f7a4 9 = .ok (.istore_n 0, 1) := by decide +kernel
theorem dJ6_bitCount_0f7a4_10 : decode cJ6_bitCount_0f7a4 10 = .ok (.iload_n 0, 1) := by decide +kernel
theorem dJ6_bitCount_0f7a4_11 : decode cJ6_bitCount_0f7a4 11 = .ok (.ldc_w 266, 3) := by decide +kernel
theorem dJ6_bitCount_0f7a4_14 : decode cJ6_bitCount_0f7a4 14 = .ok (.iand, 1) := by decide +kernel
theorem dJ6_bitCount_0f7a4_15 : decode cJ6_bitCount_0f7a4 15 = .ok (.iload_n 0, 1) := by decide +kernel
theorem dJ6_bitCount_0f7a4_16 : decode cJ6_bitCount_0f7a4 16 = .ok (.iconst 2, 1) := by decide +kernel
theorem dJ6_bitCount_0f7a4_17 : decode cJ6_bitCount_0f7a4 17 = .ok (.iushr, 1) := by decide +kernel
theorem dJ6_bitCount_0f7a4_18 : decode cJ6_bitCount_0f7a4 18 = .ok (.ldc_w 266, 3) := by decide +kernel
theorem dJ6_bitCount_0f7a4_21 : decode cJ6_bitCount_0f7a4 21 = .ok (.iand, 1) := by decide +kernel
theorem dJ6_bitCount_0f7a4_22 : decode cJ6_bitCount_0f7a4 22 = .ok (.iadd, 1) := by decide +kernel
theorem dJ6_bitCount_0f7a4_23 : decode cJ6_bitCount_0f7a4 23 = .ok (.istore_n 0, 1) := by decide +kernel
theorem dJ6_bitCount_0f7a4_24 : decode cJ6_bitCount_0f7a4 24 = .ok (.iload_n 0, 1) := by decide +kernel
theorem dJ6_bitCount_0f7a4_25 : decode cJ6_bitCount_0f7a4 25 = .ok (.iload_n 0, 1) := by decide +kernel
theorem dJ6_bitCount_0f7a4_26 : decode cJ6_bitCount_0f7a4 26 = .ok (.iconst 4, 1) := by decide +kernel
theorem dJ6_bitCount_0f7a4_27 : decode cJ6_bitCount_0f7a4 27 = .ok (.iushr, 1) := by decide +kernel
theorem dJ6_bitCount_0f7a4_28 : decode cJ6_bitCount_0f7a4 28 = .ok (.iadd, 1) := by decide +kernel
theorem dJ6_bitCount_0f7a4_29 : decode cJ6_bitCount_0f7a4 29 = .ok (.ldc_w 267, 3) := by decide +kernel
theorem dJ6_bitCount_0f7a4_32 : decode cJ6_bitCount_0f7a4 32 = .ok (.iand, 1) := by decide +kernel
theorem dJ6_bitCount_0f7a4_33 : decode cJ6_bitCount_0f7a4 33 = .ok (.istore_n 0, 1) := by decide +kernel
theorem dJ6_bitCount_0f7a4_34 : decode cJ6_bitCount_0f7a4 34 = .ok (.iload_n 0, 1) := by decide +kernel
theorem dJ6_bitCount_0f7a4_35 : decode cJ6_bitCount_0f7a4 35 = .ok (.iload_n 0, 1) := by decide +kernel
theorem dJ6_bitCount_0f7a4_36 : decode cJ6_bitCount_0f7a4 36 = .ok (.bipush 8, 2) := by decide +kernel
theorem dJ6_bitCount_0f7a4_38 : decode cJ6_bitCount_0f7a4 38 = .ok (.iushr, 1) := by decide +kernel
theorem dJ6_bitCount_0f7a4_39 : decode cJ6_bitCount_0f7a4 39 = .ok (.iadd, 1) := by decide +kernel
theorem dJ6_bitCount_0f7a4_40 : decode cJ6_bitCount_0f7a4 40 = .ok (.istore_n 0, 1) := by decide +kernel
theorem dJ6_bitCount_0f7a4_41 : decode cJ6_bitCount_0f7a4 41 = .ok (.iload_n 0, 1) := by decide +kernel
theorem dJ6_bitCount_0f7a4_42 : decode cJ6_bitCount_0f7a4 42 = .ok (.iload_n 0, 1) := by decide +kernel
theorem dJ6_bitCount_0f7a4_43 : decode cJ6_bitCount_0f7a4 43 = .ok (.bipush 16, 2) := by decide +kernel
theorem dJ6_bitCount_0f7a4_45 : decode cJ6_bitCount_0f7a4 45 = .ok (.iushr, 1) := by decide +kernel
theorem dJ6_bitCount_0f7a4_46 : decode cJ6_bitCount_0f7a4 46 = .ok (.iadd, 1) := by decide +kernel
theorem dJ6_bitCount_0f7a4_47 : decode cJ6_bitCount_0f7a4 47 = .ok (.istore_n 0, 1) := by decide +kernel
theorem dJ6_bitCount_0f7a4_48 : decode cJ6_bitCount_0f7a4 48 = .ok (.iload_n 0, 1) := by decide +kernel
theorem dJ6_bitCount_0f7a4_49 : decode cJ6_bitCount_0f7a4 49 = .ok (.bipush 63, 2) := by decide +kernel
theorem dJ6_bitCount_0f7a4_51 : decode cJ6_bitCount_0f7a4 51 = .ok (.iand, 1) := by decide +kernel
theorem dJ6_bitCount_0f7a4_52 : decode cJ6_bitCount_0f7a4 52 = .ok (.ireturn, 1) := by decide +kernel
set_option maxRecDepth 20000 in
set_option maxHeartbeats 4000000 in
theorem C_J6_bitCount_0f7a4 (l : Launch) (G : Gp) (x0 : Int32)  {σ : St} {Q : Int32 → Prop} (h : wp_J6_bitCount_0f7a4 σ x0 Q) : Cn l yJ6_bitCount_0f7a4 cJ6_bitCount_0f7a4 1 (some .int) 0 0 G [.int x0] σ (qI (fun r σ' => σ' = σ ∧ Q r)) := by
  refine Cn_of (L := [(0, .int x0)]) RJ6 (by decide) rfl (Nat.le_of_ble_eq_true rfl) rfl ?_
  intro p e s m below meth c F
  unfold wp_J6_bitCount_0f7a4 at h
  refine J_iln F 0 dJ6_bitCount_0f7a4_0 rfl rfl ?_
  refine J_iln F 0 dJ6_bitCount_0f7a4_1 rfl rfl ?_
  refine J_ic F dJ6_bitCount_0f7a4_2 ki_1 ?_
  refine J_iushr F dJ6_bitCount_0f7a4_3 ?_
  refine J_ldcw F dJ6_bitCount_0f7a4_4 lk_J6_265 ?_
  refine J_iand F dJ6_bitCount_0f7a4_7 ?_
  refine J_isub F dJ6_bitCount_0f7a4_8 ?_
  refine J_top (fun x0_1 ex0_1 => ?_)
  have h := h x0_1 ex0_1
  refine J_isn F (L' := [(0, .int x0_1)]) dJ6_bitCount_0f7a4_9 rfl (by decide) rfl ?_
  refine J_iln F 0 dJ6_bitCount_0f7a4_10 rfl rfl ?_
  refine J_ldcw F dJ6_bitCount_0f7a4_11 lk_J6_266 ?_
  refine J_iand F dJ6_bitCount_0f7a4_14 ?_
  refine J_iln F 0 dJ6_bitCount_0f7a4_15 rfl rfl ?_
  refine J_ic F dJ6_bitCount_0f7a4_16 ki_2 ?_
  refine J_iushr F dJ6_bitCount_0f7a4_17 ?_
  refine J_ldcw F dJ6_bitCount_0f7a4_18 lk_J6_266 ?_
  refine J_iand F dJ6_bitCount_0f7a4_21 ?_
  refine J_iadd F dJ6_bitCount_0f7a4_22 ?_
  refine J_top (fun x0_2 ex0_2 => ?_)
  have h := h x0_2 ex0_2
  refine J_isn F (L' := [(0, .int x0_2)]) dJ6_bitCount_0f7a4_23 rfl (by decide) rfl ?_
  refine J_iln F 0 dJ6_bitCount_0f7a4_24 rfl rfl ?_
  refine J_iln F 0 dJ6_bitCount_0f7a4_25 rfl rfl ?_
  refine J_ic F dJ6_bitCount_0f7a4_26 ki_4 ?_
  refine J_iushr F dJ6_bitCount_0f7a4_27 ?_
  refine J_iadd F dJ6_bitCount_0f7a4_28 ?_
  refine J_ldcw F dJ6_bitCount_0f7a4_29 lk_J6_267 ?_
  refine J_iand F dJ6_bitCount_0f7a4_32 ?_
  refine J_top (fun x0_3 ex0_3 => ?_)
  have h := h x0_3 ex0_3
  refine J_isn F (L' := [(0, .int x0_3)]) dJ6_bitCount_0f7a4_33 rfl (by decide) rfl ?_
  refine J_iln F 0 dJ6_bitCount_0f7a4_34 rfl rfl ?_
  refine J_iln F 0 dJ6_bitCount_0f7a4_35 rfl rfl ?_
  refine J_bi F dJ6_bitCount_0f7a4_36 kb_8 ?_
  refine J_iushr F dJ6_bitCount_0f7a4_38 ?_
  refine J_iadd F dJ6_bitCount_0f7a4_39 ?_
  refine J_top (fun x0_4 ex0_4 => ?_)
  have h := h x0_4 ex0_4
  refine J_isn F (L' := [(0, .int x0_4)]) dJ6_bitCount_0f7a4_40 rfl (by decide) rfl ?_
  refine J_iln F 0 dJ6_bitCount_0f7a4_41 rfl rfl ?_
  refine J_iln F 0 dJ6_bitCount_0f7a4_42 rfl rfl ?_
  refine J_bi F dJ6_bitCount_0f7a4_43 kb_16 ?_
  refine J_iushr F dJ6_bitCount_0f7a4_45 ?_
  refine J_iadd F dJ6_bitCount_0f7a4_46 ?_
  refine J_top (fun x0_5 ex0_5 => ?_)
  have h := h x0_5 ex0_5
  refine J_isn F (L' := [(0, .int x0_5)]) dJ6_bitCount_0f7a4_47 rfl (by decide) rfl ?_
  refine J_iln F 0 dJ6_bitCount_0f7a4_48 rfl rfl ?_
  refine J_bi F dJ6_bitCount_0f7a4_49 kb_63 ?_
  refine J_iand F dJ6_bitCount_0f7a4_51 ?_
  exact J_reti F ⟨_, rfl, rfl, h⟩ dJ6_bitCount_0f7a4_52
theorem dX4_zonesOfAll_0 : decode cX4_zonesOfAll 0 = .ok (.iconst 0, 1) := by decide +kernel
theorem dX4_zonesOfAll_1 : decode cX4_zonesOfAll 1 = .ok (.istore_n 1, 1) := by decide +kernel
theorem dX4_zonesOfAll_2 : decode cX4_zonesOfAll 2 = .ok (.iconst 0, 1) := by decide +kernel
theorem dX4_zonesOfAll_3 : decode cX4_zonesOfAll 3 = .ok (.istore_n 2, 1) := by decide +kernel
theorem dX4_zonesOfAll_4 : decode cX4_zonesOfAll 4 = .ok (.iload_n 2, 1) := by decide +kernel
theorem dX4_zonesOfAll_5 : decode cX4_zonesOfAll 5 = .ok (.bipush 10, 2) := by decide +kernel
theorem dX4_zonesOfAll_7 : decode cX4_zonesOfAll 7 = .ok (.if_icmp .ge 18, 3) := by decide +kernel
theorem dX4_zonesOfAll_10 : decode cX4_zonesOfAll 10 = .ok (.iload_n 1, 1) := by decide +kernel
theorem dX4_zonesOfAll_11 : decode cX4_zonesOfAll 11 = .ok (.aload_n 0, 1) := by decide +kernel
theorem dX4_zonesOfAll_12 : decode cX4_zonesOfAll 12 = .ok (.getfield 18, 3) := by decide +kernel
theorem dX4_zonesOfAll_15 : decode cX4_zonesOfAll 15 = .ok (.iload_n 2, 1) := by decide +kernel
theorem dX4_zonesOfAll_16 : decode cX4_zonesOfAll 16 = .ok (.iaload, 1) := by decide +kernel
theorem dX4_zonesOfAll_17 : decode cX4_zonesOfAll 17 = .ok (.iadd, 1) := by decide +kernel
theorem dX4_zonesOfAll_18 : decode cX4_zonesOfAll 18 = .ok (.istore_n 1, 1) := by decide +kernel
theorem dX4_zonesOfAll_19 : decode cX4_zonesOfAll 19 = .ok (.iinc 2 1, 3) := by decide +kernel
theorem dX4_zonesOfAll_22 : decode cX4_zonesOfAll 22 = .ok (.goto (-18), 3) := by decide +kernel
theorem dX4_zonesOfAll_25 : decode cX4_zonesOfAll 25 = .ok (.iload_n 1, 1) := by decide +kernel
theorem dX4_zonesOfAll_26 : decode cX4_zonesOfAll 26 = .ok (.ireturn, 1) := by decide +kernel
set_option maxRecDepth 20000 in
set_option maxHeartbeats 4000000 in
theorem wk_X4_zonesOfAll_4 {p : Program} {l : Launch} {e : Env} {s : State} {m : MethodId} {args : Array Value} {below : List Frame} {meth : Method} {c : Code} {G : Gp} {σ : St} {a0 : Nat}  {Q : Int32 → Prop} (F : FX p s m args meth c cX4_zonesOfAll 3 (some .int) RX4 G) (y0 : lay a0 = (4, 0))  : ∀ (n9 : Nat) (x1 : Int32) (x2 : Int32), LP2 (wp_X4_zonesOfAll_4 σ a0 Q) n9 x1 x2 → J p l e (rmF 0 0) s m args below meth c 3 G (MQ below (QQ G (qI (fun r σ' => σ' = σ ∧ Q r))) args s 0 0 (fr G)) 0 0 4 [(0, .ref (gb G + a0)), (1, .int x1), (2, .int x2)] [] σ := by
  intro n9
  induction n9 with
  | zero => intro x1 x2 h; exact h.elim
  | succ n9 i4 =>
    intro x1 x2 h
    have h : wp_X4_zonesOfAll_4 σ a0 Q (LP2 (wp_X4_zonesOfAll_4 σ a0 Q) n9) x1 x2 := h
    unfold wp_X4_zonesOfAll_4 at h
    refine J_iln F 2 dX4_zonesOfAll_4 rfl rfl ?_
    refine J_bi F dX4_zonesOfAll_5 kb_10 ?_
    refine J_cge F (tgt := 25) dX4_zonesOfAll_7 (by decide) (fun c_1 => ?_) (fun c_1 => ?_)
    · have h := h.1 c_1
      refine J_iln F 1 dX4_zonesOfAll_25 rfl rfl ?_
      exact J_reti F ⟨_, rfl, rfl, h⟩ dX4_zonesOfAll_26
    · have h := h.2 c_1
      refine J_iln F 1 dX4_zonesOfAll_10 rfl rfl ?_
      refine J_aln F 0 dX4_zonesOfAll_11 rfl rfl ?_
      refine J_gfr F (ci := 4) 2 rfl inX4 y0 (by decide) (by decide) rfl lf_X4_18 rfl dX4_zonesOfAll_12 ?_
      refine J_iln F 2 dX4_zonesOfAll_15 rfl rfl ?_
      obtain ⟨h_2, h⟩ := h
      refine J_iald F (lay_space y0).2.2 h_2 dX4_zonesOfAll_16 ?_
      refine J_iadd F dX4_zonesOfAll_17 ?_
      refine J_top (fun x1_3 ex1_3 => ?_)
      have h := h x1_3 ex1_3
      refine J_isn F (L' := [(1, .int x1_3), (0, .ref (gb G + a0)), (2, .int x2)]) dX4_zonesOfAll_18 rfl (by decide) rfl ?_
      obtain ⟨x2_4, ex2_4⟩ : ∃ z : Int32, z = x2 + (nI 1) := ⟨_, rfl⟩
      have h := h x2_4 ex2_4
      refine J_iinc F (v := x2_4) (L' := [(2, .int x2_4), (1, .int x1_3), (0, .ref (gb G + a0))]) 2 dX4_zonesOfAll_19 rfl (by rw [ki_1, ex2_4]) (by decide) rfl ?_
      refine J_goto F (tgt := 4) dX4_zonesOfAll_22 (by decide) ?_
      refine J_sub [2, 1, 0] rfl ?_
      exact i4 _ _ h
set_option maxRecDepth 20000 in
set_option maxHeartbeats 4000000 in
theorem C_X4_zonesOfAll (l : Launch) (G : Gp) (a0 : Nat) (y0 : lay a0 = (4, 0)) {σ : St} {Q : Int32 → Prop} (h : wp_X4_zonesOfAll σ a0 Q) : Cn l yX4_zonesOfAll cX4_zonesOfAll 3 (some .int) 0 0 G [.ref (gb G + a0)] σ (qI (fun r σ' => σ' = σ ∧ Q r)) := by
  refine Cn_of (L := [(0, .ref (gb G + a0))]) RX4 (by decide) rfl (Nat.le_of_ble_eq_true rfl) rfl ?_
  intro p e s m below meth c F
  unfold wp_X4_zonesOfAll at h
  refine J_ic F dX4_zonesOfAll_0 ki_0 ?_
  refine J_isn F (L' := [(1, .int (nI 0)), (0, .ref (gb G + a0))]) dX4_zonesOfAll_1 rfl (by decide) rfl ?_
  refine J_ic F dX4_zonesOfAll_2 ki_0 ?_
  refine J_isn F (L' := [(2, .int (nI 0)), (1, .int (nI 0)), (0, .ref (gb G + a0))]) dX4_zonesOfAll_3 rfl (by decide) rfl ?_
  refine J_sub [2, 1, 0] rfl ?_
  obtain ⟨n9, h⟩ := h
  exact wk_X4_zonesOfAll_4 F y0 n9 _ _ h
theorem dX4_leastScattered_0 : decode cX4_leastScattered 0 = .ok (.iconst 0, 1) := by decide +kernel
theorem dX4_leastScattered_1 : decode cX4_leastScattered 1 = .ok (.istore_n 1, 1) := by decide +kernel
theorem dX4_leastScattered_2 : decode cX4_leastScattered 2 = .ok (.iload_n 1, 1) := by decide +kernel
theorem dX4_leastScattered_3 : decode cX4_leastScattered 3 = .ok (.bipush 10, 2) := by decide +kernel
theorem dX4_leastScattered_5 : decode cX4_leastScattered 5 = .ok (.if_icmp .ge 21, 3) := by decide +kernel
theorem dX4_leastScattered_8 : decode cX4_leastScattered 8 = .ok (.aload_n 0, 1) := by decide +kernel
theorem dX4_leastScattered_9 : decode cX4_leastScattered 9 = .ok (.getfield 18, 3) := by decide +kernel
theorem dX4_leastScattered_12 : decode cX4_leastScattered 12 = .ok (.iload_n 1, 1) := by decide +kernel
theorem dX4_leastScattered_13 : decode cX4_leastScattered 13 = .ok (.iaload, 1) := by decide +kernel
theorem dX4_leastScattered_14 : decode cX4_leastScattered 14 = .ok (.iconst 1, 1) := by decide +kernel
theorem dX4_leastScattered_15 : decode cX4_leastScattered 15 = .ok (.if_icmp .le 5, 3) := by decide +kernel
theorem dX4_leastScattered_18 : decode cX4_leastScattered 18 = .ok (.iload_n 1, 1) := by decide +kernel
theorem dX4_leastScattered_19 : decode cX4_leastScattered 19 = .ok (.ireturn, 1) := by decide +kernel
theorem dX4_leastScattered_20 : decode cX4_leastScattered 20 = .ok (.iinc 1 1, 3) := by decide +kernel
theorem dX4_leastScattered_23 : decode cX4_leastScattered 23 = .ok (.goto (-21), 3) := by decide +kernel
theorem dX4_leastScattered_26 : decode cX4_leastScattered 26 = .ok (.iconst (-1), 1) := by decide +kernel
theorem dX4_leastScattered_27 : decode cX4_leastScattered 27 = .ok (.ireturn, 1) := by decide +kernel
set_option maxRecDepth 20000 in
set_option maxHeartbeats 4000000 in
theorem wk_X4_leastScattered_2 {p : Program} {l : Launch} {e : Env} {s : State} {m : MethodId} {args : Array Value} {below : List Frame} {meth : Method} {c : Code} {G : Gp} {σ : St} {a0 : Nat}  {Q : Int32 → Prop} (F : FX p s m args meth c cX4_leastScattered 2 (some .int) RX4 G) (y0 : lay a0 = (4, 0))  : ∀ (n9 : Nat) (x1 : Int32), LP1 (wp_X4_leastScattered_2 σ a0 Q) n9 x1 → J p l e (rmF 0 0) s m args below meth c 2 G (MQ below (QQ G (qI (fun r σ' => σ' = σ ∧ Q r))) args s 0 0 (fr G)) 0 0 2 [(0, .ref (gb G + a0)), (1, .int x1)] [] σ := by
  intro n9
  induction n9 with
  | zero => intro x1 h; exact h.elim
  | succ n9 i2 =>
    intro x1 h
    have h : wp_X4_leastScattered_2 σ a0 Q (LP1 (wp_X4_leastScattered_2 σ a0 Q) n9) x1 := h
    unfold wp_X4_leastScattered_2 at h
    refine J_iln F 1 dX4_leastScattered_2 rfl rfl ?_
    refine J_bi F dX4_leastScattered_3 kb_10 ?_
    refine J_cge F (tgt := 26) dX4_leastScattered_5 (by decide) (fun c_1 => ?_) (fun c_1 => ?_)
    · have h := h.1 c_1
      refine J_ic F dX4_leastScattered_26 ki_m1 ?_
      exact J_reti F ⟨_, rfl, rfl, h⟩ dX4_leastScattered_27
    · have h := h.2 c_1
      refine J_aln F 0 dX4_leastScattered_8 rfl rfl ?_
      refine J_gfr F (ci := 4) 2 rfl inX4 y0 (by decide) (by decide) rfl lf_X4_18 rfl dX4_leastScattered_9 ?_
      refine J_iln F 1 dX4_leastScattered_12 rfl rfl ?_
      obtain ⟨h_2, h⟩ := h
      refine J_iald F (lay_space y0).2.2 h_2 dX4_leastScattered_13 ?_
      refine J_ic F dX4_leastScattered_14 ki_1 ?_
      refine J_cle F (tgt := 20) dX4_leastScattered_15 (by decide) (fun c_3 => ?_) (fun c_3 => ?_)
      · have h := h.1 c_3
        obtain ⟨x1_4, ex1_4⟩ : ∃ z : Int32, z = x1 + (nI 1) := ⟨_, rfl⟩
        have h := h x1_4 ex1_4
        refine J_iinc F (v := x1_4) (L' := [(1, .int x1_4), (0, .ref (gb G + a0))]) 1 dX4_leastScattered_20 rfl (by rw [ki_1, ex1_4]) (by decide) rfl ?_
        refine J_goto F (tgt := 2) dX4_leastScattered_23 (by decide) ?_
        refine J_sub [1, 0] rfl ?_
        exact i2 _ h
      · have h := h.2 c_3
        refine J_iln F 1 dX4_leastScattered_18 rfl rfl ?_
        exact J_reti F ⟨_, rfl, rfl, h⟩ dX4_leastScattered_19
set_option maxRecDepth 20000 in
set_option maxHeartbeats 4000000 in
theorem C_X4_leastScattered (l : Launch) (G : Gp) (a0 : Nat) (y0 : lay a0 = (4, 0)) {σ : St} {Q : Int32 → Prop} (h : wp_X4_leastScattered σ a0 Q) : Cn l yX4_leastScattered cX4_leastScattered 2 (some .int) 0 0 G [.ref (gb G + a0)] σ (qI (fun r σ' => σ' = σ ∧ Q r)) := by
  refine Cn_of (L := [(0, .ref (gb G + a0))]) RX4 (by decide) rfl (Nat.le_of_ble_eq_true rfl) rfl ?_
  intro p e s m below meth c F
  unfold wp_X4_leastScattered at h
  refine J_ic F dX4_leastScattered_0 ki_0 ?_
  refine J_isn F (L' := [(1, .int (nI 0)), (0, .ref (gb G + a0))]) dX4_leastScattered_1 rfl (by decide) rfl ?_
  refine J_sub [1, 0] rfl ?_
  obtain ⟨n9, h⟩ := h
  exact wk_X4_leastScattered_2 F y0 n9 _ h
theorem dX4_zoneOf_0 : decode cX4_zoneOf 0 = .ok (.iload_n 2, 1) := by decide +kernel
theorem dX4_zoneOf_1 : decode cX4_zoneOf 1 = .ok (.ifCond .lt 13, 3) := by decide +kernel
theorem dX4_zoneOf_4 : decode cX4_zoneOf 4 = .ok (.iload_n 2, 1) := by decide +kernel
theorem dX4_zoneOf_5 : decode cX4_zoneOf 5 = .ok (.aload_n 0, 1) := by decide +kernel
theorem dX4_zoneOf_6 : decode cX4_zoneOf 6 = .ok (.getfield 18, 3) := by decide +kernel
theorem dX4_zoneOf_9 : decode cX4_zoneOf 9 = .ok (.iload_n 1, 1) := by decide +kernel
theorem dX4_zoneOf_10 : decode cX4_zoneOf 10 = .ok (.iaload, 1) := by decide +kernel
theorem dX4_zoneOf_11 : decode cX4_zoneOf 11 = .ok (.if_icmp .lt 5, 3) := by decide +kernel
theorem dX4_zoneOf_14 : decode cX4_zoneOf 14 = .ok (.iconst (-1), 1) := by decide +kernel
theorem dX4_zoneOf_15 : decode cX4_zoneOf 15 = .ok (.ireturn, 1) := by decide +kernel
theorem dX4_zoneOf_16 : decode cX4_zoneOf 16 = .ok (.iconst 0, 1) := by decide +kernel
theorem dX4_zoneOf_17 : decode cX4_zoneOf 17 = .ok (.istore_n 3, 1) := by decide +kernel
theorem dX4_zoneOf_18 : decode cX4_zoneOf 18 = .ok (.iconst 1, 1) := by decide +kernel
theorem dX4_zoneOf_19 : decode cX4_zoneOf 19 = .ok (.istore 4, 2) := by decide +kernel
theorem dX4_zoneOf_21 : decode cX4_zoneOf 21 = .ok (.iload 4, 2) := by decide +kernel
theorem dX4_zoneOf_23 : decode cX4_zoneOf 23 = .ok (.sipush 2048, 3) := by decide +kernel
theorem dX4_zoneOf_26 : decode cX4_zoneOf 26 = .ok (.if_icmp .ge 33, 3) := by decide +kernel
theorem dX4_zoneOf_29 : decode cX4_zoneOf 29 = .ok (.aload_n 0, 1) := by decide +kernel
theorem dX4_zoneOf_30 : decode cX4_zoneOf 30 = .ok (.getfield 9, 3) := by decide +kernel
theorem dX4_zoneOf_33 : decode cX4_zoneOf 33 = .ok (.iload 4, 2) := by decide +kernel
theorem dX4_zoneOf_35 : decode cX4_zoneOf 35 = .ok (.iaload, 1) := by decide +kernel
theorem dX4_zoneOf_36 : decode cX4_zoneOf 36 = .ok (.iload_n 1, 1) := by decide +kernel
theorem dX4_zoneOf_37 : decode cX4_zoneOf 37 = .ok (.iconst 1, 1) := by decide +kernel
theorem dX4_zoneOf_38 : decode cX4_zoneOf 38 = .ok (.iadd, 1) := by decide +kernel
theorem dX4_zoneOf_39 : decode cX4_zoneOf 39 = .ok (.if_icmp .ne 14, 3) := by decide +kernel
theorem dX4_zoneOf_42 : decode cX4_zoneOf 42 = .ok (.iload_n 3, 1) := by decide +kernel
theorem dX4_zoneOf_43 : decode cX4_zoneOf 43 = .ok (.iload_n 2, 1) := by decide +kernel
theorem dX4_zoneOf_44 : decode cX4_zoneOf 44 = .ok (.if_icmp .ne 6, 3) := by decide +kernel
theorem dX4_zoneOf_47 : decode cX4_zoneOf 47 = .ok (.iload 4, 2) := by decide +kernel
theorem dX4_zoneOf_49 : decode cX4_zoneOf 49 = .ok (.ireturn, 1) := by decide +kernel
theorem dX4_zoneOf_50 : decode cX4_zoneOf 50 = .ok (.iinc 3 1, 3) := by decide +kernel
theorem dX4_zoneOf_53 : decode cX4_zoneOf 53 = .ok (.iinc 4 1, 3) := by decide +kernel
theorem dX4_zoneOf_56 : decode cX4_zoneOf 56 = .ok (.goto (-35), 3) := by decide +kernel
theorem dX4_zoneOf_59 : decode cX4_zoneOf 59 = .ok (.iconst (-1), 1) := by decide +kernel
theorem dX4_zoneOf_60 : decode cX4_zoneOf 60 = .ok (.ireturn, 1) := by decide +kernel
set_option maxRecDepth 20000 in
set_option maxHeartbeats 4000000 in
theorem wk_X4_zoneOf_21 {p : Program} {l : Launch} {e : Env} {s : State} {m : MethodId} {args : Array Value} {below : List Frame} {meth : Method} {c : Code} {G : Gp} {σ : St} {a0 : Nat} {x1 : Int32} {x2 : Int32}  {Q : Int32 → Prop} (F : FX p s m args meth c cX4_zoneOf 5 (some .int) RX4 G) (y0 : lay a0 = (4, 0))  : ∀ (n9 : Nat) (x3 : Int32) (x4 : Int32), LP2 (wp_X4_zoneOf_21 σ a0 x1 x2 Q) n9 x3 x4 → J p l e (rmF 0 0) s m args below meth c 5 G (MQ below (QQ G (qI (fun r σ' => σ' = σ ∧ Q r))) args s 0 0 (fr G)) 0 0 21 [(0, .ref (gb G + a0)), (1, .int x1), (2, .int x2), (3, .int x3), (4, .int x4)] [] σ := by
  intro n9
  induction n9 with
  | zero => intro x3 x4 h; exact h.elim
  | succ n9 i21 =>
    intro x3 x4 h
    have h : wp_X4_zoneOf_21 σ a0 x1 x2 Q (LP2 (wp_X4_zoneOf_21 σ a0 x1 x2 Q) n9) x3 x4 := h
    unfold wp_X4_zoneOf_21 at h
    refine J_il F 4 dX4_zoneOf_21 rfl ?_
    refine J_si F dX4_zoneOf_23 ks_2048 ?_
    refine J_cge F (tgt := 59) dX4_zoneOf_26 (by decide) (fun c_1 => ?_) (fun c_1 => ?_)
    · have h := h.1 c_1
      refine J_ic F dX4_zoneOf_59 ki_m1 ?_
      exact J_reti F ⟨_, rfl, rfl, h⟩ dX4_zoneOf_60
    · have h := h.2 c_1
      refine J_aln F 0 dX4_zoneOf_29 rfl rfl ?_
      refine J_gfr F (ci := 4) 0 rfl inX4 y0 (by decide) (by decide) rfl lf_X4_9 rfl dX4_zoneOf_30 ?_
      refine J_il F 4 dX4_zoneOf_33 rfl ?_
      obtain ⟨h_2, h⟩ := h
      refine J_iald F (lay_space y0).1 h_2 dX4_zoneOf_35 ?_
      refine J_iln F 1 dX4_zoneOf_36 rfl rfl ?_
      refine J_ic F dX4_zoneOf_37 ki_1 ?_
      refine J_iadd F dX4_zoneOf_38 ?_
      refine J_cne F (tgt := 53) dX4_zoneOf_39 (by decide) (fun c_3 => ?_) (fun c_3 => ?_)
      · have h := h.1 c_3
        obtain ⟨x4_4, ex4_4⟩ : ∃ z : Int32, z = x4 + (nI 1) := ⟨_, rfl⟩
        have h := h x4_4 ex4_4
        refine J_iinc F (v := x4_4) (L' := [(4, .int x4_4), (0, .ref (gb G + a0)), (1, .int x1), (2, .int x2), (3, .int x3)]) 4 dX4_zoneOf_53 rfl (by rw [ki_1, ex4_4]) (by decide) rfl ?_
        refine J_goto F (tgt := 21) dX4_zoneOf_56 (by decide) ?_
        refine J_sub [1, 2, 3, 4, 0] rfl ?_
        exact i21 _ _ h
      · have h := h.2 c_3
        refine J_iln F 3 dX4_zoneOf_42 rfl rfl ?_
        refine J_iln F 2 dX4_zoneOf_43 rfl rfl ?_
        refine J_cne F (tgt := 50) dX4_zoneOf_44 (by decide) (fun c_5 => ?_) (fun c_5 => ?_)
        · have h := h.1 c_5
          obtain ⟨x3_6, ex3_6⟩ : ∃ z : Int32, z = x3 + (nI 1) := ⟨_, rfl⟩
          have h := h x3_6 ex3_6
          refine J_iinc F (v := x3_6) (L' := [(3, .int x3_6), (0, .ref (gb G + a0)), (1, .int x1), (2, .int x2), (4, .int x4)]) 3 dX4_zoneOf_50 rfl (by rw [ki_1, ex3_6]) (by decide) rfl ?_
          obtain ⟨x4_7, ex4_7⟩ : ∃ z : Int32, z = x4 + (nI 1) := ⟨_, rfl⟩
          have h := h x4_7 ex4_7
          refine J_iinc F (v := x4_7) (L' := [(4, .int x4_7), (3, .int x3_6), (0, .ref (gb G + a0)), (1, .int x1), (2, .int x2)]) 4 dX4_zoneOf_53 rfl (by rw [ki_1, ex4_7]) (by decide) rfl ?_
          refine J_goto F (tgt := 21) dX4_zoneOf_56 (by decide) ?_
          refine J_sub [2, 3, 4, 1, 0] rfl ?_
          exact i21 _ _ h
        · have h := h.2 c_5
          refine J_il F 4 dX4_zoneOf_47 rfl ?_
          exact J_reti F ⟨_, rfl, rfl, h⟩ dX4_zoneOf_49
set_option maxRecDepth 20000 in
set_option maxHeartbeats 4000000 in
theorem C_X4_zoneOf (l : Launch) (G : Gp) (a0 : Nat) (x1 : Int32) (x2 : Int32) (y0 : lay a0 = (4, 0)) {σ : St} {Q : Int32 → Prop} (h : wp_X4_zoneOf σ a0 x1 x2 Q) : Cn l yX4_zoneOf cX4_zoneOf 5 (some .int) 0 0 G [.ref (gb G + a0), .int x1, .int x2] σ (qI (fun r σ' => σ' = σ ∧ Q r)) := by
  refine Cn_of (L := [(0, .ref (gb G + a0)), (1, .int x1), (2, .int x2)]) RX4 (by decide) rfl (Nat.le_of_ble_eq_true rfl) rfl ?_
  intro p e s m below meth c F
  unfold wp_X4_zoneOf at h
  refine J_iln F 2 dX4_zoneOf_0 rfl rfl ?_
  refine J_zlt F (tgt := 14) dX4_zoneOf_1 (by decide) (fun c_8 => ?_) (fun c_8 => ?_)
  · have h := h.1 c_8
    refine J_ic F dX4_zoneOf_14 ki_m1 ?_
    exact J_reti F ⟨_, rfl, rfl, h⟩ dX4_zoneOf_15
  · have h := h.2 c_8
    refine J_iln F 2 dX4_zoneOf_4 rfl rfl ?_
    refine J_aln F 0 dX4_zoneOf_5 rfl rfl ?_
    refine J_gfr F (ci := 4) 2 rfl inX4 y0 (by decide) (by decide) rfl lf_X4_18 rfl dX4_zoneOf_6 ?_
    refine J_iln F 1 dX4_zoneOf_9 rfl rfl ?_
    obtain ⟨h_9, h⟩ := h
    refine J_iald F (lay_space y0).2.2 h_9 dX4_zoneOf_10 ?_
    refine J_clt F (tgt := 16) dX4_zoneOf_11 (by decide) (fun c_10 => ?_) (fun c_10 => ?_)
    · have h := h.1 c_10
      refine J_ic F dX4_zoneOf_16 ki_0 ?_
      refine J_isn F (L' := [(3, .int (nI 0)), (0, .ref (gb G + a0)), (1, .int x1), (2, .int x2)]) dX4_zoneOf_17 rfl (by decide) rfl ?_
      refine J_ic F dX4_zoneOf_18 ki_1 ?_
      refine J_is F (L' := [(4, .int (nI 1)), (3, .int (nI 0)), (0, .ref (gb G + a0)), (1, .int x1), (2, .int x2)]) dX4_zoneOf_19 (by decide) rfl ?_
      refine J_sub [2, 3, 4, 1, 0] rfl ?_
      obtain ⟨n9, h⟩ := h
      exact wk_X4_zoneOf_21 F y0 n9 _ _ h
    · have h := h.2 c_10
      refine J_ic F dX4_zoneOf_14 ki_m1 ?_
      exact J_reti F ⟨_, rfl, rfl, h⟩ dX4_zoneOf_15
theorem dX4_deepestPair_0 : decode cX4_deepestPair 0 = .ok (.iload_n 1, 1) := by decide +kernel
theorem dX4_deepestPair_1 : decode cX4_deepestPair 1 = .ok (.invokestatic 52, 3) := by decide +kernel
theorem dX4_deepestPair_4 : decode cX4_deepestPair 4 = .ok (.istore_n 2, 1) := by decide +kernel
theorem dX4_deepestPair_5 : decode cX4_deepestPair 5 = .ok (.bipush 9, 2) := by decide +kernel
theorem dX4_deepestPair_7 : decode cX4_deepestPair 7 = .ok (.iload_n 2, 1) := by decide +kernel
theorem dX4_deepestPair_8 : decode cX4_deepestPair 8 = .ok (.isub, 1) := by decide +kernel
theorem dX4_deepestPair_9 : decode cX4_deepestPair 9 = .ok (.istore_n 3, 1) := by decide +kernel
theorem dX4_deepestPair_10 : decode cX4_deepestPair 10 = .ok (.iload_n 3, 1) := by decide +kernel
theorem dX4_deepestPair_11 : decode cX4_deepestPair 11 = .ok (.ifCond .lt 64, 3) := by decide +kernel
theorem dX4_deepestPair_14 : decode cX4_deepestPair 14 = .ok (.iload_n 1, 1) := by decide +kernel
theorem dX4_deepestPair_15 : decode cX4_deepestPair 15 = .ok (.iload_n 3, 1) := by decide +kernel
theorem dX4_deepestPair_16 : decode cX4_deepestPair 16 = .ok (.ishl, 1) := by decide +kernel
theorem dX4_deepestPair_17 : decode cX4_deepestPair 17 = .ok (.istore 4, 2) := by decide +kernel
theorem dX4_deepestPair_19 : decode cX4_deepestPair 19 = .ok (.iload 4, 2) := by decide +kernel
theorem dX4_deepestPair_21 : decode cX4_deepestPair 21 = .ok (.istore 5, 2) := by decide +kernel
theorem dX4_deepestPair_23 : decode cX4_deepestPair 23 = .ok (.iload 5, 2) := by decide +kernel
theorem dX4_deepestPair_25 : decode cX4_deepestPair 25 = .ok (.iload 4, 2) := by decide +kernel
theorem dX4_deepestPair_27 : decode cX4_deepestPair 27 = .ok (.iconst 1, 1) := by decide +kernel
theorem dX4_deepestPair_28 : decode cX4_deepestPair 28 = .ok (.iload_n 3, 1) := by decide +kernel
theorem dX4_deepestPair_29 : decode cX4_deepestPair 29 = .ok (.ishl, 1) := by decide +kernel
theorem dX4_deepestPair_30 : decode cX4_deepestPair 30 = .ok (.iadd, 1) := by decide +kernel
theorem dX4_deepestPair_31 : decode cX4_deepestPair 31 = .ok (.if_icmp .ge 38, 3) := by decide +kernel
theorem dX4_deepestPair_34 : decode cX4_deepestPair 34 = .ok (.aload_n 0, 1) := by decide +kernel
theorem dX4_deepestPair_35 : decode cX4_deepestPair 35 = .ok (.getfield 9, 3) := by decide +kernel
theorem dX4_deepestPair_38 : decode cX4_deepestPair 38 = .ok (.iconst 2, 1) := by decide +kernel
theorem dX4_deepestPair_39 : decode cX4_deepestPair 39 = .ok (.iload 5, 2) := by decide +kernel
theorem dX4_deepestPair_41 : decode cX4_deepestPair 41 = .ok (.imul, 1) := by decide +kernel
theorem dX4_deepestPair_42 : decode cX4_deepestPair 42 = .ok (.iaload, 1) := by decide +kernel
theorem dX4_deepestPair_43 : decode cX4_deepestPair 43 = .ok (.ifCond .eq 20, 3) := by decide +kernel
theorem dX4_deepestPair_46 : decode cX4_deepestPair 46 = .ok (.aload_n 0, 1) := by decide +kernel
theorem dX4_deepestPair_47 : decode cX4_deepestPair 47 = .ok (.getfield 9, 3) := by decide +kernel
theorem dX4_deepestPair_50 : decode cX4_deepestPair 50 = .ok (.iconst 2, 1) := by decide +kernel
theorem dX4_deepestPair_51 : decode cX4_deepestPair 51 = .ok (.iload 5, 2) := by decide +kernel
theorem dX4_deepestPair_53 : decode cX4_deepestPair 53 = .ok (.imul, 1) := by decide +kernel
theorem dX4_deepestPair_54 : decode cX4_deepestPair 54 = .ok (.iconst 1, 1) := by decide +kernel
theorem dX4_deepestPair_55 : decode cX4_deepestPair 55 = .ok (.iadd, 1) := by decide +kernel
theorem dX4_deepestPair_56 : decode cX4_deepestPair 56 = .ok (.iaload, 1) := by decide +kernel
theorem dX4_deepestPair_57 : decode cX4_deepestPair 57 = .ok (.ifCond .eq 6, 3) := by decide +kernel
theorem dX4_deepestPair_60 : decode cX4_deepestPair 60 = .ok (.iload 5, 2) := by decide +kernel
theorem dX4_deepestPair_62 : decode cX4_deepestPair 62 = .ok (.ireturn, 1) := by decide +kernel
theorem dX4_deepestPair_63 : decode cX4_deepestPair 63 = .ok (.iinc 5 1, 3) := by decide +kernel
theorem dX4_deepestPair_66 : decode cX4_deepestPair 66 = .ok (.goto (-43), 3) := by decide +kernel
theorem dX4_deepestPair_69 : decode cX4_deepestPair 69 = .ok (.iinc 3 (-1), 3) := by decide +kernel
theorem dX4_deepestPair_72 : decode cX4_deepestPair 72 = .ok (.goto (-62), 3) := by decide +kernel
theorem dX4_deepestPair_75 : decode cX4_deepestPair 75 = .ok (.iconst (-1), 1) := by decide +kernel
theorem dX4_deepestPair_76 : decode cX4_deepestPair 76 = .ok (.ireturn, 1) := by decide +kernel
set_option maxRecDepth 20000 in
set_option maxHeartbeats 4000000 in
theorem wk_X4_deepestPair_23 {p : Program} {l : Launch} {e : Env} {s : State} {m : MethodId} {args : Array Value} {below : List Frame} {meth : Method} {c : Code} {G : Gp} {σ : St} {a0 : Nat} {x1 : Int32} {x3 : Int32} {x4 : Int32} {ih10 : Int32 → Prop} {Q : Int32 → Prop} (F : FX p s m args meth c cX4_deepestPair 6 (some .int) RX4 G) (y0 : lay a0 = (4, 0)) (i10 : ∀ (x3 : Int32), ih10 x3 → J p l e (rmF 1 21) s m args below meth c 6 G (MQ below (QQ G (qI (fun r σ' => σ' = σ ∧ Q r))) args s 0 0 (fr G)) 0 0 10 [(0, .ref (gb G + a0)), (1, .int x1), (3, .int x3)] [] σ) : ∀ (n9 : Nat) (x5 : Int32), LP1 (wp_X4_deepestPair_23 σ a0 x1 x3 x4 ih10 Q) n9 x5 → J p l e (rmF 1 21) s m args below meth c 6 G (MQ below (QQ G (qI (fun r σ' => σ' = σ ∧ Q r))) args s 0 0 (fr G)) 0 0 23 [(0, .ref (gb G + a0)), (1, .int x1), (3, .int x3), (4, .int x4), (5, .int x5)] [] σ := by
  intro n9
  induction n9 with
  | zero => intro x5 h; exact h.elim
  | succ n9 i23 =>
    intro x5 h
    have h : wp_X4_deepestPair_23 σ a0 x1 x3 x4 ih10 Q (LP1 (wp_X4_deepestPair_23 σ a0 x1 x3 x4 ih10 Q) n9) x5 := h
    unfold wp_X4_deepestPair_23 at h
    refine J_il F 4 dX4_deepestPair_23 rfl ?_
    refine J_il F 3 dX4_deepestPair_25 rfl ?_
    refine J_ic F dX4_deepestPair_27 ki_1 ?_
    refine J_iln F 2 dX4_deepestPair_28 rfl rfl ?_
    refine J_ishl F dX4_deepestPair_29 ?_
    refine J_iadd F dX4_deepestPair_30 ?_
    refine J_cge F (tgt := 69) dX4_deepestPair_31 (by decide) (fun c_1 => ?_) (fun c_1 => ?_)
    · have h := h.1 c_1
      obtain ⟨x3_2, ex3_2⟩ : ∃ z : Int32, z = x3 + (-1) := ⟨_, rfl⟩
      have h := h x3_2 ex3_2
      refine J_iinc F (v := x3_2) (L' := [(3, .int x3_2), (0, .ref (gb G + a0)), (1, .int x1), (4, .int x4), (5, .int x5)]) 2 dX4_deepestPair_69 rfl (by rw [ki_m1, ex3_2]) (by decide) rfl ?_
      refine J_goto F (tgt := 10) dX4_deepestPair_72 (by decide) ?_
      refine J_sub [1, 2, 0] rfl ?_
      exact i10 _ h
    · have h := h.2 c_1
      refine J_aln F 0 dX4_deepestPair_34 rfl rfl ?_
      refine J_gfr F (ci := 4) 0 rfl inX4 y0 (by decide) (by decide) rfl lf_X4_9 rfl dX4_deepestPair_35 ?_
      refine J_ic F dX4_deepestPair_38 ki_2 ?_
      refine J_il F 4 dX4_deepestPair_39 rfl ?_
      refine J_imul F dX4_deepestPair_41 ?_
      obtain ⟨h_3, h⟩ := h
      refine J_iald F (lay_space y0).1 h_3 dX4_deepestPair_42 ?_
      refine J_zeq F (tgt := 63) dX4_deepestPair_43 (by decide) (fun c_4 => ?_) (fun c_4 => ?_)
      · have h := h.1 c_4
        obtain ⟨x5_5, ex5_5⟩ : ∃ z : Int32, z = x5 + (nI 1) := ⟨_, rfl⟩
        have h := h x5_5 ex5_5
        refine J_iinc F (v := x5_5) (L' := [(5, .int x5_5), (0, .ref (gb G + a0)), (1, .int x1), (3, .int x3), (4, .int x4)]) 4 dX4_deepestPair_63 rfl (by rw [ki_1, ex5_5]) (by decide) rfl ?_
        refine J_goto F (tgt := 23) dX4_deepestPair_66 (by decide) ?_
        refine J_sub [1, 2, 3, 4, 0] rfl ?_
        exact i23 _ h
      · have h := h.2 c_4
        refine J_aln F 0 dX4_deepestPair_46 rfl rfl ?_
        refine J_gfr F (ci := 4) 0 rfl inX4 y0 (by decide) (by decide) rfl lf_X4_9 rfl dX4_deepestPair_47 ?_
        refine J_ic F dX4_deepestPair_50 ki_2 ?_
        refine J_il F 4 dX4_deepestPair_51 rfl ?_
        refine J_imul F dX4_deepestPair_53 ?_
        refine J_ic F dX4_deepestPair_54 ki_1 ?_
        refine J_iadd F dX4_deepestPair_55 ?_
        obtain ⟨h_6, h⟩ := h
        refine J_iald F (lay_space y0).1 h_6 dX4_deepestPair_56 ?_
        refine J_zeq F (tgt := 63) dX4_deepestPair_57 (by decide) (fun c_7 => ?_) (fun c_7 => ?_)
        · have h := h.1 c_7
          obtain ⟨x5_8, ex5_8⟩ : ∃ z : Int32, z = x5 + (nI 1) := ⟨_, rfl⟩
          have h := h x5_8 ex5_8
          refine J_iinc F (v := x5_8) (L' := [(5, .int x5_8), (0, .ref (gb G + a0)), (1, .int x1), (3, .int x3), (4, .int x4)]) 4 dX4_deepestPair_63 rfl (by rw [ki_1, ex5_8]) (by decide) rfl ?_
          refine J_goto F (tgt := 23) dX4_deepestPair_66 (by decide) ?_
          refine J_sub [1, 2, 3, 4, 0] rfl ?_
          exact i23 _ h
        · have h := h.2 c_7
          refine J_il F 4 dX4_deepestPair_60 rfl ?_
          exact J_reti F ⟨_, rfl, rfl, h⟩ dX4_deepestPair_62
set_option maxRecDepth 20000 in
set_option maxHeartbeats 4000000 in
theorem wk_X4_deepestPair_10 {p : Program} {l : Launch} {e : Env} {s : State} {m : MethodId} {args : Array Value} {below : List Frame} {meth : Method} {c : Code} {G : Gp} {σ : St} {a0 : Nat} {x1 : Int32}  {Q : Int32 → Prop} (F : FX p s m args meth c cX4_deepestPair 6 (some .int) RX4 G) (y0 : lay a0 = (4, 0))  : ∀ (n9 : Nat) (x3 : Int32), LP1 (wp_X4_deepestPair_10 σ a0 x1 Q) n9 x3 → J p l e (rmF 1 21) s m args below meth c 6 G (MQ below (QQ G (qI (fun r σ' => σ' = σ ∧ Q r))) args s 0 0 (fr G)) 0 0 10 [(0, .ref (gb G + a0)), (1, .int x1), (3, .int x3)] [] σ := by
  intro n9
  induction n9 with
  | zero => intro x3 h; exact h.elim
  | succ n9 i10 =>
    intro x3 h
    have h : wp_X4_deepestPair_10 σ a0 x1 Q (LP1 (wp_X4_deepestPair_10 σ a0 x1 Q) n9) x3 := h
    unfold wp_X4_deepestPair_10 at h
    refine J_iln F 2 dX4_deepestPair_10 rfl rfl ?_
    refine J_zlt F (tgt := 75) dX4_deepestPair_11 (by decide) (fun c_9 => ?_) (fun c_9 => ?_)
    · have h := h.1 c_9
      refine J_ic F dX4_deepestPair_75 ki_m1 ?_
      exact J_reti F ⟨_, rfl, rfl, h⟩ dX4_deepestPair_76
    · have h := h.2 c_9
      refine J_iln F 1 dX4_deepestPair_14 rfl rfl ?_
      refine J_iln F 2 dX4_deepestPair_15 rfl rfl ?_
      refine J_ishl F dX4_deepestPair_16 ?_
      refine J_top (fun x4_10 ex4_10 => ?_)
      have h := h x4_10 ex4_10
      refine J_is F (L' := [(4, .int x4_10), (0, .ref (gb G + a0)), (1, .int x1), (3, .int x3)]) dX4_deepestPair_17 (by decide) rfl ?_
      refine J_il F 0 dX4_deepestPair_19 rfl ?_
      refine J_is F (L' := [(5, .int x4_10), (4, .int x4_10), (0, .ref (gb G + a0)), (1, .int x1), (3, .int x3)]) dX4_deepestPair_21 (by decide) rfl ?_
      refine J_sub [2, 3, 4, 1, 0] rfl ?_
      obtain ⟨n9, h⟩ := h
      exact wk_X4_deepestPair_23 F y0 i10 n9 _ h
set_option maxRecDepth 20000 in
set_option maxHeartbeats 4000000 in
theorem C_X4_deepestPair (l : Launch) (G : Gp) (a0 : Nat) (x1 : Int32) (y0 : lay a0 = (4, 0)) {σ : St} {Q : Int32 → Prop} (h : wp_X4_deepestPair σ a0 x1 Q) : Cn l yX4_deepestPair cX4_deepestPair 6 (some .int) 1 21 G [.ref (gb G + a0), .int x1] σ (qI (fun r σ' => σ' = σ ∧ Q r)) := by
  refine Cn_of (L := [(0, .ref (gb G + a0)), (1, .int x1)]) RX4 (by decide) rfl (Nat.le_of_ble_eq_true rfl) rfl ?_
  intro p e s m below meth c F
  unfold wp_X4_deepestPair at h
  refine J_iln F 1 dX4_deepestPair_0 rfl rfl ?_
  refine J_callSi F (As := [.int x1]) (st := []) (C_X4_depthOf l G x1  h) lm_X4_52 li_X4_depthOf ini_X4 lc_X4_depthOf hd_X4_depthOf (by decide) (Nat.le_of_ble_eq_true rfl) (by decide) rfl dX4_deepestPair_1 (fun r_11 σ_12 hh => ?_)
  clear h
  obtain ⟨e9, h⟩ := hh
  subst σ_12
  refine J_isn F (L' := [(2, .int r_11), (0, .ref (gb G + a0)), (1, .int x1)]) dX4_deepestPair_4 rfl (by decide) rfl ?_
  refine J_bi F dX4_deepestPair_5 kb_9 ?_
  refine J_iln F 0 dX4_deepestPair_7 rfl rfl ?_
  refine J_isub F dX4_deepestPair_8 ?_
  refine J_top (fun x3_13 ex3_13 => ?_)
  have h := h x3_13 ex3_13
  refine J_isn F (L' := [(3, .int x3_13), (2, .int r_11), (0, .ref (gb G + a0)), (1, .int x1)]) dX4_deepestPair_9 rfl (by decide) rfl ?_
  refine J_sub [2, 3, 0] rfl ?_
  obtain ⟨n9, h⟩ := h
  exact wk_X4_deepestPair_10 F y0 n9 _ h
theorem dX4_moveStray_0 : decode cX4_moveStray 0 = .ok (.iload_n 1, 1) := by decide +kernel
theorem dX4_moveStray_1 : decode cX4_moveStray 1 = .ok (.iconst 2, 1) := by decide +kernel
theorem dX4_moveStray_2 : decode cX4_moveStray 2 = .ok (.if_icmp .ge 4, 3) := by decide +kernel
theorem dX4_moveStray_5 : decode cX4_moveStray 5 = .ok (.return_, 1) := by decide +kernel
theorem dX4_moveStray_6 : decode cX4_moveStray 6 = .ok (.iload_n 1, 1) := by decide +kernel
theorem dX4_moveStray_7 : decode cX4_moveStray 7 = .ok (.iconst 1, 1) := by decide +kernel
theorem dX4_moveStray_8 : decode cX4_moveStray 8 = .ok (.ixor, 1) := by decide +kernel
theorem dX4_moveStray_9 : decode cX4_moveStray 9 = .ok (.istore_n 2, 1) := by decide +kernel
theorem dX4_moveStray_10 : decode cX4_moveStray 10 = .ok (.aload_n 0, 1) := by decide +kernel
theorem dX4_moveStray_11 : decode cX4_moveStray 11 = .ok (.getfield 9, 3) := by decide +kernel
theorem dX4_moveStray_14 : decode cX4_moveStray 14 = .ok (.iload_n 2, 1) := by decide +kernel
theorem dX4_moveStray_15 : decode cX4_moveStray 15 = .ok (.iaload, 1) := by decide +kernel
theorem dX4_moveStray_16 : decode cX4_moveStray 16 = .ok (.ifCond .eq 17, 3) := by decide +kernel
theorem dX4_moveStray_19 : decode cX4_moveStray 19 = .ok (.aload_n 0, 1) := by decide +kernel
theorem dX4_moveStray_20 : decode cX4_moveStray 20 = .ok (.iload_n 1, 1) := by decide +kernel
theorem dX4_moveStray_21 : decode cX4_moveStray 21 = .ok (.aload_n 0, 1) := by decide +kernel
theorem dX4_moveStray_22 : decode cX4_moveStray 22 = .ok (.getfield 9, 3) := by decide +kernel
theorem dX4_moveStray_25 : decode cX4_moveStray 25 = .ok (.iload_n 2, 1) := by decide +kernel
theorem dX4_moveStray_26 : decode cX4_moveStray 26 = .ok (.iaload, 1) := by decide +kernel
theorem dX4_moveStray_27 : decode cX4_moveStray 27 = .ok (.iconst 1, 1) := by decide +kernel
theorem dX4_moveStray_28 : decode cX4_moveStray 28 = .ok (.isub, 1) := by decide +kernel
theorem dX4_moveStray_29 : decode cX4_moveStray 29 = .ok (.invokevirtual 67, 3) := by decide +kernel
theorem dX4_moveStray_32 : decode cX4_moveStray 32 = .ok (.return_, 1) := by decide +kernel
theorem dX4_moveStray_33 : decode cX4_moveStray 33 = .ok (.aload_n 0, 1) := by decide +kernel
theorem dX4_moveStray_34 : decode cX4_moveStray 34 = .ok (.iload_n 2, 1) := by decide +kernel
theorem dX4_moveStray_35 : decode cX4_moveStray 35 = .ok (.invokevirtual 91, 3) := by decide +kernel
theorem dX4_moveStray_38 : decode cX4_moveStray 38 = .ok (.istore_n 3, 1) := by decide +kernel
theorem dX4_moveStray_39 : decode cX4_moveStray 39 = .ok (.iload_n 3, 1) := by decide +kernel
theorem dX4_moveStray_40 : decode cX4_moveStray 40 = .ok (.iconst (-1), 1) := by decide +kernel
theorem dX4_moveStray_41 : decode cX4_moveStray 41 = .ok (.if_icmp .ne 4, 3) := by decide +kernel
theorem dX4_moveStray_44 : decode cX4_moveStray 44 = .ok (.return_, 1) := by decide +kernel
theorem dX4_moveStray_45 : decode cX4_moveStray 45 = .ok (.aload_n 0, 1) := by decide +kernel
theorem dX4_moveStray_46 : decode cX4_moveStray 46 = .ok (.getfield 9, 3) := by decide +kernel
theorem dX4_moveStray_49 : decode cX4_moveStray 49 = .ok (.iconst 2, 1) := by decide +kernel
theorem dX4_moveStray_50 : decode cX4_moveStray 50 = .ok (.iload_n 3, 1) := by decide +kernel
theorem dX4_moveStray_51 : decode cX4_moveStray 51 = .ok (.imul, 1) := by decide +kernel
theorem dX4_moveStray_52 : decode cX4_moveStray 52 = .ok (.iaload, 1) := by decide +kernel
theorem dX4_moveStray_53 : decode cX4_moveStray 53 = .ok (.iconst 1, 1) := by decide +kernel
theorem dX4_moveStray_54 : decode cX4_moveStray 54 = .ok (.isub, 1) := by decide +kernel
theorem dX4_moveStray_55 : decode cX4_moveStray 55 = .ok (.istore 4, 2) := by decide +kernel
theorem dX4_moveStray_57 : decode cX4_moveStray 57 = .ok (.aload_n 0, 1) := by decide +kernel
theorem dX4_moveStray_58 : decode cX4_moveStray 58 = .ok (.getfield 9, 3) := by decide +kernel
theorem dX4_moveStray_61 : decode cX4_moveStray 61 = .ok (.iconst 2, 1) := by decide +kernel
theorem dX4_moveStray_62 : decode cX4_moveStray 62 = .ok (.iload_n 3, 1) := by decide +kernel
theorem dX4_moveStray_63 : decode cX4_moveStray 63 = .ok (.imul, 1) := by decide +kernel
theorem dX4_moveStray_64 : decode cX4_moveStray 64 = .ok (.iconst 1, 1) := by decide +kernel
theorem dX4_moveStray_65 : decode cX4_moveStray 65 = .ok (.iadd, 1) := by decide +kernel
theorem dX4_moveStray_66 : decode cX4_moveStray 66 = .ok (.iaload, 1) := by decide +kernel
theorem dX4_moveStray_67 : decode cX4_moveStray 67 = .ok (.iconst 1, 1) := by decide +kernel
theorem dX4_moveStray_68 : decode cX4_moveStray 68 = .ok (.isub, 1) := by decide +kernel
theorem dX4_moveStray_69 : decode cX4_moveStray 69 = .ok (.istore 5, 2) := by decide +kernel
theorem dX4_moveStray_71 : decode cX4_moveStray 71 = .ok (.aload_n 0, 1) := by decide +kernel
theorem dX4_moveStray_72 : decode cX4_moveStray 72 = .ok (.iconst 2, 1) := by decide +kernel
theorem dX4_moveStray_73 : decode cX4_moveStray 73 = .ok (.iload_n 3, 1) := by decide +kernel
theorem dX4_moveStray_74 : decode cX4_moveStray 74 = .ok (.imul, 1) := by decide +kernel
theorem dX4_moveStray_75 : decode cX4_moveStray 75 = .ok (.iconst 1, 1) := by decide +kernel
theorem dX4_moveStray_76 : decode cX4_moveStray 76 = .ok (.iadd, 1) := by decide +kernel
theorem dX4_moveStray_77 : decode cX4_moveStray 77 = .ok (.iload 4, 2) := by decide +kernel
theorem dX4_moveStray_79 : decode cX4_moveStray 79 = .ok (.invokevirtual 67, 3) := by decide +kernel
theorem dX4_moveStray_82 : decode cX4_moveStray 82 = .ok (.aload_n 0, 1) := by decide +kernel
theorem dX4_moveStray_83 : decode cX4_moveStray 83 = .ok (.iload_n 1, 1) := by decide +kernel
theorem dX4_moveStray_84 : decode cX4_moveStray 84 = .ok (.iload 5, 2) := by decide +kernel
theorem dX4_moveStray_86 : decode cX4_moveStray 86 = .ok (.invokevirtual 67, 3) := by decide +kernel
theorem dX4_moveStray_89 : decode cX4_moveStray 89 = .ok (.return_, 1) := by decide +kernel
set_option maxRecDepth 20000 in
set_option maxHeartbeats 4000000 in
theorem C_X4_moveStray (l : Launch) (G : Gp) (a0 : Nat) (x1 : Int32) (y0 : lay a0 = (4, 0)) {σ : St} {Q : St → Prop} (h : wp_X4_moveStray σ a0 x1 Q) : Cn l yX4_moveStray cX4_moveStray 6 none 2 47 G [.ref (gb G + a0), .int x1] σ (qV Q) := by
  refine Cn_of (L := [(0, .ref (gb G + a0)), (1, .int x1)]) RX4 (by decide) rfl (Nat.le_of_ble_eq_true rfl) rfl ?_
  intro p e s m below meth c F
  unfold wp_X4_moveStray at h
  refine J_iln F 1 dX4_moveStray_0 rfl rfl ?_
  refine J_ic F dX4_moveStray_1 ki_2 ?_
  refine J_cge F (tgt := 6) dX4_moveStray_2 (by decide) (fun c_1 => ?_) (fun c_1 => ?_)
  · have h := h.1 c_1
    refine J_iln F 1 dX4_moveStray_6 rfl rfl ?_
    refine J_ic F dX4_moveStray_7 ki_1 ?_
    refine J_ixor F dX4_moveStray_8 ?_
    refine J_top (fun x2_2 ex2_2 => ?_)
    have h := h x2_2 ex2_2
    refine J_isn F (L' := [(2, .int x2_2), (0, .ref (gb G + a0)), (1, .int x1)]) dX4_moveStray_9 rfl (by decide) rfl ?_
    refine J_aln F 1 dX4_moveStray_10 rfl rfl ?_
    refine J_gfr F (ci := 4) 0 rfl inX4 y0 (by decide) (by decide) rfl lf_X4_9 rfl dX4_moveStray_11 ?_
    refine J_iln F 0 dX4_moveStray_14 rfl rfl ?_
    obtain ⟨h_3, h⟩ := h
    refine J_iald F (lay_space y0).1 h_3 dX4_moveStray_15 ?_
    refine J_zeq F (tgt := 33) dX4_moveStray_16 (by decide) (fun c_4 => ?_) (fun c_4 => ?_)
    · have h := h.1 c_4
      refine J_aln F 1 dX4_moveStray_33 rfl rfl ?_
      refine J_iln F 0 dX4_moveStray_34 rfl rfl ?_
      refine J_callVi F (As := [.int x2_2]) (st := []) (C_X4_deepestPair l G a0 x2_2 y0 h) (ci := 4) y0 (by decide) rfl rfl lm_X4_91 li_X4_deepestPair ls_X4_deepestPair ini_X4 lc_X4_deepestPair hd_X4_deepestPair (by decide) (Nat.le_of_ble_eq_true rfl) (by decide) rfl dX4_moveStray_35 (fun r_5 σ_6 hh => ?_)
      clear h
      obtain ⟨e9, h⟩ := hh
      subst σ_6
      refine J_isn F (L' := [(3, .int r_5), (2, .int x2_2), (0, .ref (gb G + a0)), (1, .int x1)]) dX4_moveStray_38 rfl (by decide) rfl ?_
      refine J_iln F 0 dX4_moveStray_39 rfl rfl ?_
      refine J_ic F dX4_moveStray_40 ki_m1 ?_
      refine J_cne F (tgt := 45) dX4_moveStray_41 (by decide) (fun c_7 => ?_) (fun c_7 => ?_)
      · have h := h.1 c_7
        refine J_aln F 2 dX4_moveStray_45 rfl rfl ?_
        refine J_gfr F (ci := 4) 0 rfl inX4 y0 (by decide) (by decide) rfl lf_X4_9 rfl dX4_moveStray_46 ?_
        refine J_ic F dX4_moveStray_49 ki_2 ?_
        refine J_iln F 0 dX4_moveStray_50 rfl rfl ?_
        refine J_imul F dX4_moveStray_51 ?_
        obtain ⟨h_8, h⟩ := h
        refine J_iald F (lay_space y0).1 h_8 dX4_moveStray_52 ?_
        refine J_ic F dX4_moveStray_53 ki_1 ?_
        refine J_isub F dX4_moveStray_54 ?_
        refine J_top (fun x4_9 ex4_9 => ?_)
        have h := h x4_9 ex4_9
        refine J_is F (L' := [(4, .int x4_9), (3, .int r_5), (2, .int x2_2), (0, .ref (gb G + a0)), (1, .int x1)]) dX4_moveStray_55 (by decide) rfl ?_
        refine J_aln F 3 dX4_moveStray_57 rfl rfl ?_
        refine J_gfr F (ci := 4) 0 rfl inX4 y0 (by decide) (by decide) rfl lf_X4_9 rfl dX4_moveStray_58 ?_
        refine J_ic F dX4_moveStray_61 ki_2 ?_
        refine J_iln F 1 dX4_moveStray_62 rfl rfl ?_
        refine J_imul F dX4_moveStray_63 ?_
        refine J_ic F dX4_moveStray_64 ki_1 ?_
        refine J_iadd F dX4_moveStray_65 ?_
        obtain ⟨h_10, h⟩ := h
        refine J_iald F (lay_space y0).1 h_10 dX4_moveStray_66 ?_
        refine J_ic F dX4_moveStray_67 ki_1 ?_
        refine J_isub F dX4_moveStray_68 ?_
        refine J_top (fun x5_11 ex5_11 => ?_)
        have h := h x5_11 ex5_11
        refine J_is F (L' := [(5, .int x5_11), (4, .int x4_9), (3, .int r_5), (2, .int x2_2), (0, .ref (gb G + a0)), (1, .int x1)]) dX4_moveStray_69 (by decide) rfl ?_
        refine J_aln F 4 dX4_moveStray_71 rfl rfl ?_
        refine J_ic F dX4_moveStray_72 ki_2 ?_
        refine J_iln F 2 dX4_moveStray_73 rfl rfl ?_
        refine J_imul F dX4_moveStray_74 ?_
        refine J_ic F dX4_moveStray_75 ki_1 ?_
        refine J_iadd F dX4_moveStray_76 ?_
        refine J_il F 1 dX4_moveStray_77 rfl ?_
        refine J_callVv F (As := [.int (((nI 2) * r_5) + (nI 1)), .int x4_9]) (st := []) (C_X4_give l G a0 (((nI 2) * r_5) + (nI 1)) x4_9 y0 h) (ci := 4) y0 (by decide) rfl rfl lm_X4_67 li_X4_give ls_X4_give ini_X4 lc_X4_give hd_X4_give (by decide) (Nat.le_of_ble_eq_true rfl) (by decide) rfl dX4_moveStray_79 (fun σ_12 h => ?_)
        refine J_aln F 4 dX4_moveStray_82 rfl rfl ?_
        refine J_iln F 5 dX4_moveStray_83 rfl rfl ?_
        refine J_il F 0 dX4_moveStray_84 rfl ?_
        refine J_callVv F (As := [.int x1, .int x5_11]) (st := []) (C_X4_give l G a0 x1 x5_11 y0 h) (ci := 4) y0 (by decide) rfl rfl lm_X4_67 li_X4_give ls_X4_give ini_X4 lc_X4_give hd_X4_give (by decide) (Nat.le_of_ble_eq_true rfl) (by decide) rfl dX4_moveStray_86 (fun σ_13 h => ?_)
        exact J_retv F ⟨rfl, h⟩ dX4_moveStray_89
      · have h := h.2 c_7
        exact J_retv F ⟨rfl, h⟩ dX4_moveStray_44
    · have h := h.2 c_4
      refine J_aln F 1 dX4_moveStray_19 rfl rfl ?_
      refine J_iln F 2 dX4_moveStray_20 rfl rfl ?_
      refine J_aln F 1 dX4_moveStray_21 rfl rfl ?_
      refine J_gfr F (ci := 4) 0 rfl inX4 y0 (by decide) (by decide) rfl lf_X4_9 rfl dX4_moveStray_22 ?_
      refine J_iln F 0 dX4_moveStray_25 rfl rfl ?_
      obtain ⟨h_14, h⟩ := h
      refine J_iald F (lay_space y0).1 h_14 dX4_moveStray_26 ?_
      refine J_ic F dX4_moveStray_27 ki_1 ?_
      refine J_isub F dX4_moveStray_28 ?_
      refine J_callVv F (As := [.int x1, .int ((σ (a0 + 1) (Int32.toNatClampNeg x2_2)) - (nI 1))]) (st := []) (C_X4_give l G a0 x1 ((σ (a0 + 1) (Int32.toNatClampNeg x2_2)) - (nI 1)) y0 h) (ci := 4) y0 (by decide) rfl rfl lm_X4_67 li_X4_give ls_X4_give ini_X4 lc_X4_give hd_X4_give (by decide) (Nat.le_of_ble_eq_true rfl) (by decide) rfl dX4_moveStray_29 (fun σ_15 h => ?_)
      exact J_retv F ⟨rfl, h⟩ dX4_moveStray_32
  · have h := h.2 c_1
    exact J_retv F ⟨rfl, h⟩ dX4_moveStray_5
theorem dX4_tidyUp_0 : decode cX4_tidyUp 0 = .ok (.iconst 0, 1) := by decide +kernel
theorem dX4_tidyUp_1 : decode cX4_tidyUp 1 = .ok (.istore_n 1, 1) := by decide +kernel
theorem dX4_tidyUp_2 : decode cX4_tidyUp 2 = .ok (.iload_n 1, 1) := by decide +kernel
theorem dX4_tidyUp_3 : decode cX4_tidyUp 3 = .ok (.sipush 1024, 3) := by decide +kernel
theorem dX4_tidyUp_6 : decode cX4_tidyUp 6 = .ok (.if_icmp .ge 37, 3) := by decide +kernel
theorem dX4_tidyUp_9 : decode cX4_tidyUp 9 = .ok (.aload_n 0, 1) := by decide +kernel
theorem dX4_tidyUp_10 : decode cX4_tidyUp 10 = .ok (.invokevirtual 80, 3) := by decide +kernel
theorem dX4_tidyUp_13 : decode cX4_tidyUp 13 = .ok (.istore_n 2, 1) := by decide +kernel
theorem dX4_tidyUp_14 : decode cX4_tidyUp 14 = .ok (.iload_n 2, 1) := by decide +kernel
theorem dX4_tidyUp_15 : decode cX4_tidyUp 15 = .ok (.iconst (-1), 1) := by decide +kernel
theorem dX4_tidyUp_16 : decode cX4_tidyUp 16 = .ok (.if_icmp .ne 4, 3) := by decide +kernel
theorem dX4_tidyUp_19 : decode cX4_tidyUp 19 = .ok (.return_, 1) := by decide +kernel
theorem dX4_tidyUp_20 : decode cX4_tidyUp 20 = .ok (.aload_n 0, 1) := by decide +kernel
theorem dX4_tidyUp_21 : decode cX4_tidyUp 21 = .ok (.aload_n 0, 1) := by decide +kernel
theorem dX4_tidyUp_22 : decode cX4_tidyUp 22 = .ok (.iload_n 2, 1) := by decide +kernel
theorem dX4_tidyUp_23 : decode cX4_tidyUp 23 = .ok (.aload_n 0, 1) := by decide +kernel
theorem dX4_tidyUp_24 : decode cX4_tidyUp 24 = .ok (.getfield 18, 3) := by decide +kernel
theorem dX4_tidyUp_27 : decode cX4_tidyUp 27 = .ok (.iload_n 2, 1) := by decide +kernel
theorem dX4_tidyUp_28 : decode cX4_tidyUp 28 = .ok (.iaload, 1) := by decide +kernel
theorem dX4_tidyUp_29 : decode cX4_tidyUp 29 = .ok (.iconst 1, 1) := by decide +kernel
theorem dX4_tidyUp_30 : decode cX4_tidyUp 30 = .ok (.isub, 1) := by decide +kernel
theorem dX4_tidyUp_31 : decode cX4_tidyUp 31 = .ok (.invokevirtual 84, 3) := by decide +kernel
theorem dX4_tidyUp_34 : decode cX4_tidyUp 34 = .ok (.invokevirtual 87, 3) := by decide +kernel
theorem dX4_tidyUp_37 : decode cX4_tidyUp 37 = .ok (.iinc 1 1, 3) := by decide +kernel
theorem dX4_tidyUp_40 : decode cX4_tidyUp 40 = .ok (.goto (-38), 3) := by decide +kernel
theorem dX4_tidyUp_43 : decode cX4_tidyUp 43 = .ok (.return_, 1) := by decide +kernel
set_option maxRecDepth 20000 in
set_option maxHeartbeats 4000000 in
theorem wk_X4_tidyUp_2 {p : Program} {l : Launch} {e : Env} {s : State} {m : MethodId} {args : Array Value} {below : List Frame} {meth : Method} {c : Code} {G : Gp} {a0 : Nat}  {Q : St → Prop} (F : FX p s m args meth c cX4_tidyUp 3 none RX4 G) (y0 : lay a0 = (4, 0))  : ∀ (n9 : Nat) (σ : St) (x1 : Int32), LP2 (wp_X4_tidyUp_2 a0 Q) n9 σ x1 → J p l e (rmF 3 72) s m args below meth c 3 G (MQ below (QQ G (qV Q)) args s 0 0 (fr G)) 0 0 2 [(0, .ref (gb G + a0)), (1, .int x1)] [] σ := by
  intro n9
  induction n9 with
  | zero => intro σ x1 h; exact h.elim
  | succ n9 i2 =>
    intro σ x1 h
    have h : wp_X4_tidyUp_2 a0 Q (LP2 (wp_X4_tidyUp_2 a0 Q) n9) σ x1 := h
    unfold wp_X4_tidyUp_2 at h
    refine J_iln F 1 dX4_tidyUp_2 rfl rfl ?_
    refine J_si F dX4_tidyUp_3 ks_1024 ?_
    refine J_cge F (tgt := 43) dX4_tidyUp_6 (by decide) (fun c_1 => ?_) (fun c_1 => ?_)
    · have h := h.1 c_1
      exact J_retv F ⟨rfl, h⟩ dX4_tidyUp_43
    · have h := h.2 c_1
      refine J_aln F 0 dX4_tidyUp_9 rfl rfl ?_
      refine J_callVi F (As := []) (st := []) (C_X4_leastScattered l G a0 y0 h) (ci := 4) y0 (by decide) rfl rfl lm_X4_80 li_X4_leastScattered ls_X4_leastScattered ini_X4 lc_X4_leastScattered hd_X4_leastScattered (by decide) (Nat.le_of_ble_eq_true rfl) (by decide) rfl dX4_tidyUp_10 (fun r_2 σ_3 hh => ?_)
      clear h
      obtain ⟨e9, h⟩ := hh
      subst σ_3
      refine J_isn F (L' := [(2, .int r_2), (0, .ref (gb G + a0)), (1, .int x1)]) dX4_tidyUp_13 rfl (by decide) rfl ?_
      refine J_iln F 0 dX4_tidyUp_14 rfl rfl ?_
      refine J_ic F dX4_tidyUp_15 ki_m1 ?_
      refine J_cne F (tgt := 20) dX4_tidyUp_16 (by decide) (fun c_4 => ?_) (fun c_4 => ?_)
      · have h := h.1 c_4
        refine J_aln F 1 dX4_tidyUp_20 rfl rfl ?_
        refine J_aln F 1 dX4_tidyUp_21 rfl rfl ?_
        refine J_iln F 0 dX4_tidyUp_22 rfl rfl ?_
        refine J_aln F 1 dX4_tidyUp_23 rfl rfl ?_
        refine J_gfr F (ci := 4) 2 rfl inX4 y0 (by decide) (by decide) rfl lf_X4_18 rfl dX4_tidyUp_24 ?_
        refine J_iln F 0 dX4_tidyUp_27 rfl rfl ?_
        obtain ⟨h_5, h⟩ := h
        refine J_iald F (lay_space y0).2.2 h_5 dX4_tidyUp_28 ?_
        refine J_ic F dX4_tidyUp_29 ki_1 ?_
        refine J_isub F dX4_tidyUp_30 ?_
        refine J_callVi F (As := [.int r_2, .int ((σ (a0 + 3) (Int32.toNatClampNeg r_2)) - (nI 1))]) (st := [.ref (gb G + a0)]) (C_X4_zoneOf l G a0 r_2 ((σ (a0 + 3) (Int32.toNatClampNeg r_2)) - (nI 1)) y0 h) (ci := 4) y0 (by decide) rfl rfl lm_X4_84 li_X4_zoneOf ls_X4_zoneOf ini_X4 lc_X4_zoneOf hd_X4_zoneOf (by decide) (Nat.le_of_ble_eq_true rfl) (by decide) rfl dX4_tidyUp_31 (fun r_6 σ_7 hh => ?_)
        clear h
        obtain ⟨e9, h⟩ := hh
        subst σ_7
        refine J_callVv F (As := [.int r_6]) (st := []) (C_X4_moveStray l G a0 r_6 y0 h) (ci := 4) y0 (by decide) rfl rfl lm_X4_87 li_X4_moveStray ls_X4_moveStray ini_X4 lc_X4_moveStray hd_X4_moveStray (by decide) (Nat.le_of_ble_eq_true rfl) (by decide) rfl dX4_tidyUp_34 (fun σ_8 h => ?_)
        obtain ⟨x1_9, ex1_9⟩ : ∃ z : Int32, z = x1 + (nI 1) := ⟨_, rfl⟩
        have h := h x1_9 ex1_9
        refine J_iinc F (v := x1_9) (L' := [(1, .int x1_9), (2, .int r_2), (0, .ref (gb G + a0))]) 2 dX4_tidyUp_37 rfl (by rw [ki_1, ex1_9]) (by decide) rfl ?_
        refine J_goto F (tgt := 2) dX4_tidyUp_40 (by decide) ?_
        refine J_sub [2, 0] rfl ?_
        exact i2 _ _ h
      · have h := h.2 c_4
        exact J_retv F ⟨rfl, h⟩ dX4_tidyUp_19
set_option maxRecDepth 20000 in
set_option maxHeartbeats 4000000 in
theorem C_X4_tidyUp (l : Launch) (G : Gp) (a0 : Nat) (y0 : lay a0 = (4, 0)) {σ : St} {Q : St → Prop} (h : wp_X4_tidyUp σ a0 Q) : Cn l yX4_tidyUp cX4_tidyUp 3 none 3 72 G [.ref (gb G + a0)] σ (qV Q) := by
  refine Cn_of (L := [(0, .ref (gb G + a0))]) RX4 (by decide) rfl (Nat.le_of_ble_eq_true rfl) rfl ?_
  intro p e s m below meth c F
  unfold wp_X4_tidyUp at h
  refine J_ic F dX4_tidyUp_0 ki_0 ?_
  refine J_isn F (L' := [(1, .int (nI 0)), (0, .ref (gb G + a0))]) dX4_tidyUp_1 rfl (by decide) rfl ?_
  refine J_sub [1, 0] rfl ?_
  obtain ⟨n9, h⟩ := h
  exact wk_X4_tidyUp_2 F y0 n9 _ _ h
theorem dX4_zonesOfTheScattered_0 : decode cX4_zonesOfTheScattered 0 = .ok (.iconst 0, 1) := by decide +kernel
theorem dX4_zonesOfTheScattered_1 : decode cX4_zonesOfTheScattered 1 = .ok (.istore_n 1, 1) := by decide +kernel
theorem dX4_zonesOfTheScattered_2 : decode cX4_zonesOfTheScattered 2 = .ok (.iconst 0, 1) := by decide +kernel
theorem dX4_zonesOfTheScattered_3 : decode cX4_zonesOfTheScattered 3 = .ok (.istore_n 2, 1) := by decide +kernel
theorem dX4_zonesOfTheScattered_4 : decode cX4_zonesOfTheScattered 4 = .ok (.iload_n 2, 1) := by decide +kernel
theorem dX4_zonesOfTheScattered_5 : decode cX4_zonesOfTheScattered 5 = .ok (.bipush 10, 2) := by decide +kernel
theorem dX4_zonesOfTheScattered_7 : decode cX4_zonesOfTheScattered 7 = .ok (.if_icmp .ge 32, 3) := by decide +kernel
theorem dX4_zonesOfTheScattered_10 : decode cX4_zonesOfTheScattered 10 = .ok (.iload_n 1, 1) := by decide +kernel
theorem dX4_zonesOfTheScattered_11 : decode cX4_zonesOfTheScattered 11 = .ok (.aload_n 0, 1) := by decide +kernel
theorem dX4_zonesOfTheScattered_12 : decode cX4_zonesOfTheScattered 12 = .ok (.getfield 18, 3) := by decide +kernel
theorem dX4_zonesOfTheScattered_15 : decode cX4_zonesOfTheScattered 15 = .ok (.iload_n 2, 1) := by decide +kernel
theorem dX4_zonesOfTheScattered_16 : decode cX4_zonesOfTheScattered 16 = .ok (.iaload, 1) := by decide +kernel
theorem dX4_zonesOfTheScattered_17 : decode cX4_zonesOfTheScattered 17 = .ok (.iconst 1, 1) := by decide +kernel
theorem dX4_zonesOfTheScattered_18 : decode cX4_zonesOfTheScattered 18 = .ok (.if_icmp .le 12, 3) := by decide +kernel
theorem dX4_zonesOfTheScattered_21 : decode cX4_zonesOfTheScattered 21 = .ok (.aload_n 0, 1) := by decide +kernel
theorem dX4_zonesOfTheScattered_22 : decode cX4_zonesOfTheScattered 22 = .ok (.getfield 18, 3) := by decide +kernel
theorem dX4_zonesOfTheScattered_25 : decode cX4_zonesOfTheScattered 25 = .ok (.iload_n 2, 1) := by decide +kernel
theorem dX4_zonesOfTheScattered_26 : decode cX4_zonesOfTheScattered 26 = .ok (.iaload, 1) := by decide +kernel
theorem dX4_zonesOfTheScattered_27 : decode cX4_zonesOfTheScattered 27 = .ok (.goto 4, 3) := by decide +kernel
theorem dX4_zonesOfTheScattered_30 : decode cX4_zonesOfTheScattered 30 = .ok (.iconst 0, 1) := by decide +kernel
theorem dX4_zonesOfTheScattered_31 : decode cX4_zonesOfTheScattered 31 = .ok (.iadd, 1) := by decide +kernel
theorem dX4_zonesOfTheScattered_32 : decode cX4_zonesOfTheScattered 32 = .ok (.istore_n 1, 1) := by decide +kernel
theorem dX4_zonesOfTheScattered_33 : decode cX4_zonesOfTheScattered 33 = .ok (.iinc 2 1, 3) := by decide +kernel
theorem dX4_zonesOfTheScattered_36 : decode cX4_zonesOfTheScattered 36 = .ok (.goto (-32), 3) := by decide +kernel
theorem dX4_zonesOfTheScattered_39 : decode cX4_zonesOfTheScattered 39 = .ok (.iload_n 1, 1) := by decide +kernel
theorem dX4_zonesOfTheScattered_40 : decode cX4_zonesOfTheScattered 40 = .ok (.ireturn, 1) := by decide +kernel
set_option maxRecDepth 20000 in
set_option maxHeartbeats 4000000 in
theorem wk_X4_zonesOfTheScattered_4 {p : Program} {l : Launch} {e : Env} {s : State} {m : MethodId} {args : Array Value} {below : List Frame} {meth : Method} {c : Code} {G : Gp} {σ : St} {a0 : Nat}  {Q : Int32 → Prop} (F : FX p s m args meth c cX4_zonesOfTheScattered 3 (some .int) RX4 G) (y0 : lay a0 = (4, 0))  : ∀ (n9 : Nat) (x1 : Int32) (x2 : Int32), LP2 (wp_X4_zonesOfTheScattered_4 σ a0 Q) n9 x1 x2 → J p l e (rmF 0 0) s m args below meth c 3 G (MQ below (QQ G (qI (fun r σ' => σ' = σ ∧ Q r))) args s 0 0 (fr G)) 0 0 4 [(0, .ref (gb G + a0)), (1, .int x1), (2, .int x2)] [] σ := by
  intro n9
  induction n9 with
  | zero => intro x1 x2 h; exact h.elim
  | succ n9 i4 =>
    intro x1 x2 h
    have h : wp_X4_zonesOfTheScattered_4 σ a0 Q (LP2 (wp_X4_zonesOfTheScattered_4 σ a0 Q) n9) x1 x2 := h
    unfold wp_X4_zonesOfTheScattered_4 at h
    refine J_iln F 2 dX4_zonesOfTheScattered_4 rfl rfl ?_
    refine J_bi F dX4_zonesOfTheScattered_5 kb_10 ?_
    refine J_cge F (tgt := 39) dX4_zonesOfTheScattered_7 (by decide) (fun c_1 => ?_) (fun c_1 => ?_)
    · have h := h.1 c_1
      refine J_iln F 1 dX4_zonesOfTheScattered_39 rfl rfl ?_
      exact J_reti F ⟨_, rfl, rfl, h⟩ dX4_zonesOfTheScattered_40
    · have h := h.2 c_1
      refine J_iln F 1 dX4_zonesOfTheScattered_10 rfl rfl ?_
      refine J_aln F 0 dX4_zonesOfTheScattered_11 rfl rfl ?_
      refine J_gfr F (ci := 4) 2 rfl inX4 y0 (by decide) (by decide) rfl lf_X4_18 rfl dX4_zonesOfTheScattered_12 ?_
      refine J_iln F 2 dX4_zonesOfTheScattered_15 rfl rfl ?_
      obtain ⟨h_2, h⟩ := h
      refine J_iald F (lay_space y0).2.2 h_2 dX4_zonesOfTheScattered_16 ?_
      refine J_ic F dX4_zonesOfTheScattered_17 ki_1 ?_
      refine J_cle F (tgt := 30) dX4_zonesOfTheScattered_18 (by decide) (fun c_3 => ?_) (fun c_3 => ?_)
      · have h := h.1 c_3
        refine J_ic F dX4_zonesOfTheScattered_30 ki_0 ?_
        refine J_iadd F dX4_zonesOfTheScattered_31 ?_
        refine J_top (fun x1_4 ex1_4 => ?_)
        have h := h x1_4 ex1_4
        refine J_isn F (L' := [(1, .int x1_4), (0, .ref (gb G + a0)), (2, .int x2)]) dX4_zonesOfTheScattered_32 rfl (by decide) rfl ?_
        obtain ⟨x2_5, ex2_5⟩ : ∃ z : Int32, z = x2 + (nI 1) := ⟨_, rfl⟩
        have h := h x2_5 ex2_5
        refine J_iinc F (v := x2_5) (L' := [(2, .int x2_5), (1, .int x1_4), (0, .ref (gb G + a0))]) 2 dX4_zonesOfTheScattered_33 rfl (by rw [ki_1, ex2_5]) (by decide) rfl ?_
        refine J_goto F (tgt := 4) dX4_zonesOfTheScattered_36 (by decide) ?_
        refine J_sub [2, 1, 0] rfl ?_
        exact i4 _ _ h
      · have h := h.2 c_3
        refine J_aln F 0 dX4_zonesOfTheScattered_21 rfl rfl ?_
        refine J_gfr F (ci := 4) 2 rfl inX4 y0 (by decide) (by decide) rfl lf_X4_18 rfl dX4_zonesOfTheScattered_22 ?_
        refine J_iln F 2 dX4_zonesOfTheScattered_25 rfl rfl ?_
        obtain ⟨h_6, h⟩ := h
        refine J_iald F (lay_space y0).2.2 h_6 dX4_zonesOfTheScattered_26 ?_
        refine J_goto F (tgt := 31) dX4_zonesOfTheScattered_27 (by decide) ?_
        refine J_iadd F dX4_zonesOfTheScattered_31 ?_
        refine J_top (fun x1_7 ex1_7 => ?_)
        have h := h x1_7 ex1_7
        refine J_isn F (L' := [(1, .int x1_7), (0, .ref (gb G + a0)), (2, .int x2)]) dX4_zonesOfTheScattered_32 rfl (by decide) rfl ?_
        obtain ⟨x2_8, ex2_8⟩ : ∃ z : Int32, z = x2 + (nI 1) := ⟨_, rfl⟩
        have h := h x2_8 ex2_8
        refine J_iinc F (v := x2_8) (L' := [(2, .int x2_8), (1, .int x1_7), (0, .ref (gb G + a0))]) 2 dX4_zonesOfTheScattered_33 rfl (by rw [ki_1, ex2_8]) (by decide) rfl ?_
        refine J_goto F (tgt := 4) dX4_zonesOfTheScattered_36 (by decide) ?_
        refine J_sub [2, 1, 0] rfl ?_
        exact i4 _ _ h
set_option maxRecDepth 20000 in
set_option maxHeartbeats 4000000 in
theorem C_X4_zonesOfTheScattered (l : Launch) (G : Gp) (a0 : Nat) (y0 : lay a0 = (4, 0)) {σ : St} {Q : Int32 → Prop} (h : wp_X4_zonesOfTheScattered σ a0 Q) : Cn l yX4_zonesOfTheScattered cX4_zonesOfTheScattered 3 (some .int) 0 0 G [.ref (gb G + a0)] σ (qI (fun r σ' => σ' = σ ∧ Q r)) := by
  refine Cn_of (L := [(0, .ref (gb G + a0))]) RX4 (by decide) rfl (Nat.le_of_ble_eq_true rfl) rfl ?_
  intro p e s m below meth c F
  unfold wp_X4_zonesOfTheScattered at h
  refine J_ic F dX4_zonesOfTheScattered_0 ki_0 ?_
  refine J_isn F (L' := [(1, .int (nI 0)), (0, .ref (gb G + a0))]) dX4_zonesOfTheScattered_1 rfl (by decide) rfl ?_
  refine J_ic F dX4_zonesOfTheScattered_2 ki_0 ?_
  refine J_isn F (L' := [(2, .int (nI 0)), (1, .int (nI 0)), (0, .ref (gb G + a0))]) dX4_zonesOfTheScattered_3 rfl (by decide) rfl ?_
  refine J_sub [2, 1, 0] rfl ?_
  obtain ⟨n9, h⟩ := h
  exact wk_X4_zonesOfTheScattered_4 F y0 n9 _ _ h
theorem dX4_firstZoneOfAny_0 : decode cX4_firstZoneOfAny 0 = .ok (.iconst 1, 1) := by decide +kernel
theorem dX4_firstZoneOfAny_1 : decode cX4_firstZoneOfAny 1 = .ok (.istore_n 2, 1) := by decide +kernel
theorem dX4_firstZoneOfAny_2 : decode cX4_firstZoneOfAny 2 = .ok (.iload_n 2, 1) := by decide +kernel
theorem dX4_firstZoneOfAny_3 : decode cX4_firstZoneOfAny 3 = .ok (.sipush 2048, 3) := by decide +kernel
theorem dX4_firstZoneOfAny_6 : decode cX4_firstZoneOfAny 6 = .ok (.if_icmp .ge 30, 3) := by decide +kernel
theorem dX4_firstZoneOfAny_9 : decode cX4_firstZoneOfAny 9 = .ok (.iload_n 1, 1) := by decide +kernel
theorem dX4_firstZoneOfAny_10 : decode cX4_firstZoneOfAny 10 = .ok (.ifCond .eq 26, 3) := by decide +kernel
theorem dX4_firstZoneOfAny_13 : decode cX4_firstZoneOfAny 13 = .ok (.iload_n 1, 1) := by decide +kernel
theorem dX4_firstZoneOfAny_14 : decode cX4_firstZoneOfAny 14 = .ok (.iconst 1, 1) := by decide +kernel
theorem dX4_firstZoneOfAny_15 : decode cX4_firstZoneOfAny 15 = .ok (.ishl, 1) := by decide +kernel
theorem dX4_firstZoneOfAny_16 : decode cX4_firstZoneOfAny 16 = .ok (.aload_n 0, 1) := by decide +kernel
theorem dX4_firstZoneOfAny_17 : decode cX4_firstZoneOfAny 17 = .ok (.getfield 9, 3) := by decide +kernel
theorem dX4_firstZoneOfAny_20 : decode cX4_firstZoneOfAny 20 = .ok (.iload_n 2, 1) := by decide +kernel
theorem dX4_firstZoneOfAny_21 : decode cX4_firstZoneOfAny 21 = .ok (.iaload, 1) := by decide +kernel
theorem dX4_firstZoneOfAny_22 : decode cX4_firstZoneOfAny 22 = .ok (.ishr, 1) := by decide +kernel
theorem dX4_firstZoneOfAny_23 : decode cX4_firstZoneOfAny 23 = .ok (.iconst 1, 1) := by decide +kernel
theorem dX4_firstZoneOfAny_24 : decode cX4_firstZoneOfAny 24 = .ok (.iand, 1) := by decide +kernel
theorem dX4_firstZoneOfAny_25 : decode cX4_firstZoneOfAny 25 = .ok (.ifCond .eq 5, 3) := by decide +kernel
theorem dX4_firstZoneOfAny_28 : decode cX4_firstZoneOfAny 28 = .ok (.iload_n 2, 1) := by decide +kernel
theorem dX4_firstZoneOfAny_29 : decode cX4_firstZoneOfAny 29 = .ok (.ireturn, 1) := by decide +kernel
theorem dX4_firstZoneOfAny_30 : decode cX4_firstZoneOfAny 30 = .ok (.iinc 2 1, 3) := by decide +kernel
theorem dX4_firstZoneOfAny_33 : decode cX4_firstZoneOfAny 33 = .ok (.goto (-31), 3) := by decide +kernel
theorem dX4_firstZoneOfAny_36 : decode cX4_firstZoneOfAny 36 = .ok (.iconst (-1), 1) := by decide +kernel
theorem dX4_firstZoneOfAny_37 : decode cX4_firstZoneOfAny 37 = .ok (.ireturn, 1) := by decide +kernel
set_option maxRecDepth 20000 in
set_option maxHeartbeats 4000000 in
theorem wk_X4_firstZoneOfAny_2 {p : Program} {l : Launch} {e : Env} {s : State} {m : MethodId} {args : Array Value} {below : List Frame} {meth : Method} {c : Code} {G : Gp} {σ : St} {a0 : Nat} {x1 : Int32}  {Q : Int32 → Prop} (F : FX p s m args meth c cX4_firstZoneOfAny 3 (some .int) RX4 G) (y0 : lay a0 = (4, 0))  : ∀ (n9 : Nat) (x2 : Int32), LP1 (wp_X4_firstZoneOfAny_2 σ a0 x1 Q) n9 x2 → J p l e (rmF 0 0) s m args below meth c 3 G (MQ below (QQ G (qI (fun r σ' => σ' = σ ∧ Q r))) args s 0 0 (fr G)) 0 0 2 [(0, .ref (gb G + a0)), (1, .int x1), (2, .int x2)] [] σ := by
  intro n9
  induction n9 with
  | zero => intro x2 h; exact h.elim
  | succ n9 i2 =>
    intro x2 h
    have h : wp_X4_firstZoneOfAny_2 σ a0 x1 Q (LP1 (wp_X4_firstZoneOfAny_2 σ a0 x1 Q) n9) x2 := h
    unfold wp_X4_firstZoneOfAny_2 at h
    refine J_iln F 2 dX4_firstZoneOfAny_2 rfl rfl ?_
    refine J_si F dX4_firstZoneOfAny_3 ks_2048 ?_
    refine J_cge F (tgt := 36) dX4_firstZoneOfAny_6 (by decide) (fun c_1 => ?_) (fun c_1 => ?_)
    · have h := h.1 c_1
      refine J_ic F dX4_firstZoneOfAny_36 ki_m1 ?_
      exact J_reti F ⟨_, rfl, rfl, h⟩ dX4_firstZoneOfAny_37
    · have h := h.2 c_1
      refine J_iln F 1 dX4_firstZoneOfAny_9 rfl rfl ?_
      refine J_zeq F (tgt := 36) dX4_firstZoneOfAny_10 (by decide) (fun c_2 => ?_) (fun c_2 => ?_)
      · have h := h.1 c_2
        refine J_ic F dX4_firstZoneOfAny_36 ki_m1 ?_
        exact J_reti F ⟨_, rfl, rfl, h⟩ dX4_firstZoneOfAny_37
      · have h := h.2 c_2
        refine J_iln F 1 dX4_firstZoneOfAny_13 rfl rfl ?_
        refine J_ic F dX4_firstZoneOfAny_14 ki_1 ?_
        refine J_ishl F dX4_firstZoneOfAny_15 ?_
        refine J_aln F 0 dX4_firstZoneOfAny_16 rfl rfl ?_
        refine J_gfr F (ci := 4) 0 rfl inX4 y0 (by decide) (by decide) rfl lf_X4_9 rfl dX4_firstZoneOfAny_17 ?_
        refine J_iln F 2 dX4_firstZoneOfAny_20 rfl rfl ?_
        obtain ⟨h_3, h⟩ := h
        refine J_iald F (lay_space y0).1 h_3 dX4_firstZoneOfAny_21 ?_
        refine J_ishr F dX4_firstZoneOfAny_22 ?_
        refine J_ic F dX4_firstZoneOfAny_23 ki_1 ?_
        refine J_iand F dX4_firstZoneOfAny_24 ?_
        refine J_zeq F (tgt := 30) dX4_firstZoneOfAny_25 (by decide) (fun c_4 => ?_) (fun c_4 => ?_)
        · have h := h.1 c_4
          obtain ⟨x2_5, ex2_5⟩ : ∃ z : Int32, z = x2 + (nI 1) := ⟨_, rfl⟩
          have h := h x2_5 ex2_5
          refine J_iinc F (v := x2_5) (L' := [(2, .int x2_5), (0, .ref (gb G + a0)), (1, .int x1)]) 2 dX4_firstZoneOfAny_30 rfl (by rw [ki_1, ex2_5]) (by decide) rfl ?_
          refine J_goto F (tgt := 2) dX4_firstZoneOfAny_33 (by decide) ?_
          refine J_sub [1, 2, 0] rfl ?_
          exact i2 _ h
        · have h := h.2 c_4
          refine J_iln F 2 dX4_firstZoneOfAny_28 rfl rfl ?_
          exact J_reti F ⟨_, rfl, rfl, h⟩ dX4_firstZoneOfAny_29
set_option maxRecDepth 20000 in
set_option maxHeartbeats 4000000 in
theorem C_X4_firstZoneOfAny (l : Launch) (G : Gp) (a0 : Nat) (x1 : Int32) (y0 : lay a0 = (4, 0)) {σ : St} {Q : Int32 → Prop} (h : wp_X4_firstZoneOfAny σ a0 x1 Q) : Cn l yX4_firstZoneOfAny cX4_firstZoneOfAny 3 (some .int) 0 0 G [.ref (gb G + a0), .int x1] σ (qI (fun r σ' => σ' = σ ∧ Q r)) := by
  refine Cn_of (L := [(0, .ref (gb G + a0)), (1, .int x1)]) RX4 (by decide) rfl (Nat.le_of_ble_eq_true rfl) rfl ?_
  intro p e s m below meth c F
  unfold wp_X4_firstZoneOfAny at h
  refine J_ic F dX4_firstZoneOfAny_0 ki_1 ?_
  refine J_isn F (L' := [(2, .int (nI 1)), (0, .ref (gb G + a0)), (1, .int x1)]) dX4_firstZoneOfAny_1 rfl (by decide) rfl ?_
  refine J_sub [1, 2, 0] rfl ?_
  obtain ⟨n9, h⟩ := h
  exact wk_X4_firstZoneOfAny_2 F y0 n9 _ h
theorem dX4_evenOf_0 : decode cX4_evenOf 0 = .ok (.iload_n 1, 1) := by decide +kernel
theorem dX4_evenOf_1 : decode cX4_evenOf 1 = .ok (.ifCond .ne 5, 3) := by decide +kernel
theorem dX4_evenOf_4 : decode cX4_evenOf 4 = .ok (.iconst (-1), 1) := by decide +kernel
theorem dX4_evenOf_5 : decode cX4_evenOf 5 = .ok (.ireturn, 1) := by decide +kernel
theorem dX4_evenOf_6 : decode cX4_evenOf 6 = .ok (.iconst 0, 1) := by decide +kernel
theorem dX4_evenOf_7 : decode cX4_evenOf 7 = .ok (.istore_n 2, 1) := by decide +kernel
theorem dX4_evenOf_8 : decode cX4_evenOf 8 = .ok (.sipush 1024, 3) := by decide +kernel
theorem dX4_evenOf_11 : decode cX4_evenOf 11 = .ok (.istore_n 3, 1) := by decide +kernel
theorem dX4_evenOf_12 : decode cX4_evenOf 12 = .ok (.iconst 0, 1) := by decide +kernel
theorem dX4_evenOf_13 : decode cX4_evenOf 13 = .ok (.istore 4, 2) := by decide +kernel
theorem dX4_evenOf_15 : decode cX4_evenOf 15 = .ok (.iload 4, 2) := by decide +kernel
theorem dX4_evenOf_17 : decode cX4_evenOf 17 = .ok (.bipush 10, 2) := by decide +kernel
theorem dX4_evenOf_19 : decode cX4_evenOf 19 = .ok (.if_icmp .ge 42, 3) := by decide +kernel
theorem dX4_evenOf_22 : decode cX4_evenOf 22 = .ok (.iload_n 1, 1) := by decide +kernel
theorem dX4_evenOf_23 : decode cX4_evenOf 23 = .ok (.iload 4, 2) := by decide +kernel
theorem dX4_evenOf_25 : decode cX4_evenOf 25 = .ok (.ishr, 1) := by decide +kernel
theorem dX4_evenOf_26 : decode cX4_evenOf 26 = .ok (.iconst 1, 1) := by decide +kernel
theorem dX4_evenOf_27 : decode cX4_evenOf 27 = .ok (.iand, 1) := by decide +kernel
theorem dX4_evenOf_28 : decode cX4_evenOf 28 = .ok (.ifCond .eq 27, 3) := by decide +kernel
theorem dX4_evenOf_31 : decode cX4_evenOf 31 = .ok (.iload_n 2, 1) := by decide +kernel
theorem dX4_evenOf_32 : decode cX4_evenOf 32 = .ok (.aload_n 0, 1) := by decide +kernel
theorem dX4_evenOf_33 : decode cX4_evenOf 33 = .ok (.getfield 15, 3) := by decide +kernel
theorem dX4_evenOf_36 : decode cX4_evenOf 36 = .ok (.iload 4, 2) := by decide +kernel
theorem dX4_evenOf_38 : decode cX4_evenOf 38 = .ok (.iaload, 1) := by decide +kernel
theorem dX4_evenOf_39 : decode cX4_evenOf 39 = .ok (.invokestatic 44, 3) := by decide +kernel
theorem dX4_evenOf_42 : decode cX4_evenOf 42 = .ok (.istore_n 2, 1) := by decide +kernel
theorem dX4_evenOf_43 : decode cX4_evenOf 43 = .ok (.iload_n 3, 1) := by decide +kernel
theorem dX4_evenOf_44 : decode cX4_evenOf 44 = .ok (.aload_n 0, 1) := by decide +kernel
theorem dX4_evenOf_45 : decode cX4_evenOf 45 = .ok (.getfield 15, 3) := by decide +kernel
theorem dX4_evenOf_48 : decode cX4_evenOf 48 = .ok (.iload 4, 2) := by decide +kernel
theorem dX4_evenOf_50 : decode cX4_evenOf 50 = .ok (.iaload, 1) := by decide +kernel
theorem dX4_evenOf_51 : decode cX4_evenOf 51 = .ok (.invokestatic 49, 3) := by decide +kernel
theorem dX4_evenOf_54 : decode cX4_evenOf 54 = .ok (.istore_n 3, 1) := by decide +kernel
theorem dX4_evenOf_55 : decode cX4_evenOf 55 = .ok (.iinc 4 1, 3) := by decide +kernel
theorem dX4_evenOf_58 : decode cX4_evenOf 58 = .ok (.goto (-43), 3) := by decide +kernel
theorem dX4_evenOf_61 : decode cX4_evenOf 61 = .ok (.iload_n 2, 1) := by decide +kernel
theorem dX4_evenOf_62 : decode cX4_evenOf 62 = .ok (.iload_n 3, 1) := by decide +kernel
theorem dX4_evenOf_63 : decode cX4_evenOf 63 = .ok (.isub, 1) := by decide +kernel
theorem dX4_evenOf_64 : decode cX4_evenOf 64 = .ok (.ireturn, 1) := by decide +kernel
set_option maxRecDepth 20000 in
set_option maxHeartbeats 4000000 in
theorem wk_X4_evenOf_15 {p : Program} {l : Launch} {e : Env} {s : State} {m : MethodId} {args : Array Value} {below : List Frame} {meth : Method} {c : Code} {G : Gp} {σ : St} {a0 : Nat} {x1 : Int32}  {Q : Int32 → Prop} (F : FX p s m args meth c cX4_evenOf 5 (some .int) RX4 G) (y0 : lay a0 = (4, 0))  : ∀ (n9 : Nat) (x2 : Int32) (x3 : Int32) (x4 : Int32), LP3 (wp_X4_evenOf_15 σ a0 x1 Q) n9 x2 x3 x4 → J p l e (rmF 1 21) s m args below meth c 5 G (MQ below (QQ G (qI (fun r σ' => σ' = σ ∧ Q r))) args s 0 0 (fr G)) 0 0 15 [(0, .ref (gb G + a0)), (1, .int x1), (2, .int x2), (3, .int x3), (4, .int x4)] [] σ := by
  intro n9
  induction n9 with
  | zero => intro x2 x3 x4 h; exact h.elim
  | succ n9 i15 =>
    intro x2 x3 x4 h
    have h : wp_X4_evenOf_15 σ a0 x1 Q (LP3 (wp_X4_evenOf_15 σ a0 x1 Q) n9) x2 x3 x4 := h
    unfold wp_X4_evenOf_15 at h
    refine J_il F 4 dX4_evenOf_15 rfl ?_
    refine J_bi F dX4_evenOf_17 kb_10 ?_
    refine J_cge F (tgt := 61) dX4_evenOf_19 (by decide) (fun c_1 => ?_) (fun c_1 => ?_)
    · have h := h.1 c_1
      refine J_iln F 2 dX4_evenOf_61 rfl rfl ?_
      refine J_iln F 3 dX4_evenOf_62 rfl rfl ?_
      refine J_isub F dX4_evenOf_63 ?_
      exact J_reti F ⟨_, rfl, rfl, h⟩ dX4_evenOf_64
    · have h := h.2 c_1
      refine J_iln F 1 dX4_evenOf_22 rfl rfl ?_
      refine J_il F 4 dX4_evenOf_23 rfl ?_
      refine J_ishr F dX4_evenOf_25 ?_
      refine J_ic F dX4_evenOf_26 ki_1 ?_
      refine J_iand F dX4_evenOf_27 ?_
      refine J_zeq F (tgt := 55) dX4_evenOf_28 (by decide) (fun c_2 => ?_) (fun c_2 => ?_)
      · have h := h.1 c_2
        obtain ⟨x4_3, ex4_3⟩ : ∃ z : Int32, z = x4 + (nI 1) := ⟨_, rfl⟩
        have h := h x4_3 ex4_3
        refine J_iinc F (v := x4_3) (L' := [(4, .int x4_3), (0, .ref (gb G + a0)), (1, .int x1), (2, .int x2), (3, .int x3)]) 4 dX4_evenOf_55 rfl (by rw [ki_1, ex4_3]) (by decide) rfl ?_
        refine J_goto F (tgt := 15) dX4_evenOf_58 (by decide) ?_
        refine J_sub [1, 2, 3, 4, 0] rfl ?_
        exact i15 _ _ _ h
      · have h := h.2 c_2
        refine J_iln F 2 dX4_evenOf_31 rfl rfl ?_
        refine J_aln F 0 dX4_evenOf_32 rfl rfl ?_
        refine J_gfr F (ci := 4) 1 rfl inX4 y0 (by decide) (by decide) rfl lf_X4_15 rfl dX4_evenOf_33 ?_
        refine J_il F 4 dX4_evenOf_36 rfl ?_
        obtain ⟨h_4, h⟩ := h
        refine J_iald F (lay_space y0).2.1 h_4 dX4_evenOf_38 ?_
        refine J_mmax F lm_X4_44 st_max ini_Math co_max (by decide) (Nat.le_of_ble_eq_true rfl) (by decide) dX4_evenOf_39 ?_
        refine J_top (fun x2_5 ex2_5 => ?_)
        have h := h x2_5 ex2_5
        refine J_isn F (L' := [(2, .int x2_5), (0, .ref (gb G + a0)), (1, .int x1), (3, .int x3), (4, .int x4)]) dX4_evenOf_42 rfl (by decide) rfl ?_
        refine J_iln F 3 dX4_evenOf_43 rfl rfl ?_
        refine J_aln F 1 dX4_evenOf_44 rfl rfl ?_
        refine J_gfr F (ci := 4) 1 rfl inX4 y0 (by decide) (by decide) rfl lf_X4_15 rfl dX4_evenOf_45 ?_
        refine J_il F 4 dX4_evenOf_48 rfl ?_
        obtain ⟨h_6, h⟩ := h
        refine J_iald F (lay_space y0).2.1 h_6 dX4_evenOf_50 ?_
        refine J_mmin F lm_X4_49 st_min ini_Math co_min (by decide) (Nat.le_of_ble_eq_true rfl) (by decide) dX4_evenOf_51 ?_
        refine J_top (fun x3_7 ex3_7 => ?_)
        have h := h x3_7 ex3_7
        refine J_isn F (L' := [(3, .int x3_7), (2, .int x2_5), (0, .ref (gb G + a0)), (1, .int x1), (4, .int x4)]) dX4_evenOf_54 rfl (by decide) rfl ?_
        obtain ⟨x4_8, ex4_8⟩ : ∃ z : Int32, z = x4 + (nI 1) := ⟨_, rfl⟩
        have h := h x4_8 ex4_8
        refine J_iinc F (v := x4_8) (L' := [(4, .int x4_8), (3, .int x3_7), (2, .int x2_5), (0, .ref (gb G + a0)), (1, .int x1)]) 4 dX4_evenOf_55 rfl (by rw [ki_1, ex4_8]) (by decide) rfl ?_
        refine J_goto F (tgt := 15) dX4_evenOf_58 (by decide) ?_
        refine J_sub [3, 4, 2, 1, 0] rfl ?_
        exact i15 _ _ _ h
set_option maxRecDepth 20000 in
set_option maxHeartbeats 4000000 in
theorem C_X4_evenOf (l : Launch) (G : Gp) (a0 : Nat) (x1 : Int32) (y0 : lay a0 = (4, 0)) {σ : St} {Q : Int32 → Prop} (h : wp_X4_evenOf σ a0 x1 Q) : Cn l yX4_evenOf cX4_evenOf 5 (some .int) 1 21 G [.ref (gb G + a0), .int x1] σ (qI (fun r σ' => σ' = σ ∧ Q r)) := by
  refine Cn_of (L := [(0, .ref (gb G + a0)), (1, .int x1)]) RX4 (by decide) rfl (Nat.le_of_ble_eq_true rfl) rfl ?_
  intro p e s m below meth c F
  unfold wp_X4_evenOf at h
  refine J_iln F 1 dX4_evenOf_0 rfl rfl ?_
  refine J_zne F (tgt := 6) dX4_evenOf_1 (by decide) (fun c_9 => ?_) (fun c_9 => ?_)
  · have h := h.1 c_9
    refine J_ic F dX4_evenOf_6 ki_0 ?_
    refine J_isn F (L' := [(2, .int (nI 0)), (0, .ref (gb G + a0)), (1, .int x1)]) dX4_evenOf_7 rfl (by decide) rfl ?_
    refine J_si F dX4_evenOf_8 ks_1024 ?_
    refine J_isn F (L' := [(3, .int (nI 1024)), (2, .int (nI 0)), (0, .ref (gb G + a0)), (1, .int x1)]) dX4_evenOf_11 rfl (by decide) rfl ?_
    refine J_ic F dX4_evenOf_12 ki_0 ?_
    refine J_is F (L' := [(4, .int (nI 0)), (3, .int (nI 1024)), (2, .int (nI 0)), (0, .ref (gb G + a0)), (1, .int x1)]) dX4_evenOf_13 (by decide) rfl ?_
    refine J_sub [3, 4, 2, 1, 0] rfl ?_
    obtain ⟨n9, h⟩ := h
    exact wk_X4_evenOf_15 F y0 n9 _ _ _ h
  · have h := h.2 c_9
    refine J_ic F dX4_evenOf_4 ki_m1 ?_
    exact J_reti F ⟨_, rfl, rfl, h⟩ dX4_evenOf_5
