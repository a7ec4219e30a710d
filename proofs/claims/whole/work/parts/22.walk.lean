theorem dX7_lookBeside_0 : decode cX7_lookBeside 0 = .ok (.iload_n 2, 1) := by decide +kernel
theorem dX7_lookBeside_1 : decode cX7_lookBeside 1 = .ok (.bipush 10, 2) := by decide +kernel
theorem dX7_lookBeside_3 : decode cX7_lookBeside 3 = .ok (.imul, 1) := by decide +kernel
theorem dX7_lookBeside_4 : decode cX7_lookBeside 4 = .ok (.istore_n 3, 1) := by decide +kernel
theorem dX7_lookBeside_5 : decode cX7_lookBeside 5 = .ok (.iconst 0, 1) := by decide +kernel
theorem dX7_lookBeside_6 : decode cX7_lookBeside 6 = .ok (.istore 4, 2) := by decide +kernel
theorem dX7_lookBeside_8 : decode cX7_lookBeside 8 = .ok (.iload 4, 2) := by decide +kernel
theorem dX7_lookBeside_10 : decode cX7_lookBeside 10 = .ok (.bipush 10, 2) := by decide +kernel
theorem dX7_lookBeside_12 : decode cX7_lookBeside 12 = .ok (.if_icmp .ge 19, 3) := by decide +kernel
theorem dX7_lookBeside_15 : decode cX7_lookBeside 15 = .ok (.aload_n 0, 1) := by decide +kernel
theorem dX7_lookBeside_16 : decode cX7_lookBeside 16 = .ok (.getfield 9, 3) := by decide +kernel
theorem dX7_lookBeside_19 : decode cX7_lookBeside 19 = .ok (.iload_n 3, 1) := by decide +kernel
theorem dX7_lookBeside_20 : decode cX7_lookBeside 20 = .ok (.iload 4, 2) := by decide +kernel
theorem dX7_lookBeside_22 : decode cX7_lookBeside 22 = .ok (.iadd, 1) := by decide +kernel
theorem dX7_lookBeside_23 : decode cX7_lookBeside 23 = .ok (.iconst 0, 1) := by decide +kernel
theorem dX7_lookBeside_24 : decode cX7_lookBeside 24 = .ok (.iastore, 1) := by decide +kernel
theorem dX7_lookBeside_25 : decode cX7_lookBeside 25 = .ok (.iinc 4 1, 3) := by decide +kernel
theorem dX7_lookBeside_28 : decode cX7_lookBeside 28 = .ok (.goto (-20), 3) := by decide +kernel
theorem dX7_lookBeside_31 : decode cX7_lookBeside 31 = .ok (.aload_n 1, 1) := by decide +kernel
theorem dX7_lookBeside_32 : decode cX7_lookBeside 32 = .ok (.invokevirtual 29, 3) := by decide +kernel
theorem dX7_lookBeside_35 : decode cX7_lookBeside 35 = .ok (.istore 4, 2) := by decide +kernel
theorem dX7_lookBeside_37 : decode cX7_lookBeside 37 = .ok (.iconst 1, 1) := by decide +kernel
theorem dX7_lookBeside_38 : decode cX7_lookBeside 38 = .ok (.istore 5, 2) := by decide +kernel
theorem dX7_lookBeside_40 : decode cX7_lookBeside 40 = .ok (.iload 5, 2) := by decide +kernel
theorem dX7_lookBeside_42 : decode cX7_lookBeside 42 = .ok (.sipush 2048, 3) := by decide +kernel
theorem dX7_lookBeside_45 : decode cX7_lookBeside 45 = .ok (.if_icmp .ge 58, 3) := by decide +kernel
theorem dX7_lookBeside_48 : decode cX7_lookBeside 48 = .ok (.iload 4, 2) := by decide +kernel
theorem dX7_lookBeside_50 : decode cX7_lookBeside 50 = .ok (.ifCond .le 53, 3) := by decide +kernel
theorem dX7_lookBeside_53 : decode cX7_lookBeside 53 = .ok (.aload_n 1, 1) := by decide +kernel
theorem dX7_lookBeside_54 : decode cX7_lookBeside 54 = .ok (.getfield 35, 3) := by decide +kernel
theorem dX7_lookBeside_57 : decode cX7_lookBeside 57 = .ok (.iload 5, 2) := by decide +kernel
theorem dX7_lookBeside_59 : decode cX7_lookBeside 59 = .ok (.iaload, 1) := by decide +kernel
theorem dX7_lookBeside_60 : decode cX7_lookBeside 60 = .ok (.iconst 1, 1) := by decide +kernel
theorem dX7_lookBeside_61 : decode cX7_lookBeside 61 = .ok (.isub, 1) := by decide +kernel
theorem dX7_lookBeside_62 : decode cX7_lookBeside 62 = .ok (.istore 6, 2) := by decide +kernel
theorem dX7_lookBeside_64 : decode cX7_lookBeside 64 = .ok (.iload 6, 2) := by decide +kernel
theorem dX7_lookBeside_66 : decode cX7_lookBeside 66 = .ok (.ifCond .lt 31, 3) := by decide +kernel
theorem dX7_lookBeside_69 : decode cX7_lookBeside 69 = .ok (.iinc 4 (-1), 3) := by decide +kernel
theorem dX7_lookBeside_72 : decode cX7_lookBeside 72 = .ok (.aload_n 0, 1) := by decide +kernel
theorem dX7_lookBeside_73 : decode cX7_lookBeside 73 = .ok (.getfield 9, 3) := by decide +kernel
theorem dX7_lookBeside_76 : decode cX7_lookBeside 76 = .ok (.iload_n 3, 1) := by decide +kernel
theorem dX7_lookBeside_77 : decode cX7_lookBeside 77 = .ok (.iload 6, 2) := by decide +kernel
theorem dX7_lookBeside_79 : decode cX7_lookBeside 79 = .ok (.iadd, 1) := by decide +kernel
theorem dX7_lookBeside_80 : decode cX7_lookBeside 80 = .ok (.dup2, 1) := by decide +kernel
theorem dX7_lookBeside_81 : decode cX7_lookBeside 81 = .ok (.iaload, 1) := by decide +kernel
theorem dX7_lookBeside_82 : decode cX7_lookBeside 82 = .ok (.aload_n 1, 1) := by decide +kernel
theorem dX7_lookBeside_83 : decode cX7_lookBeside 83 = .ok (.iload 5, 2) := by decide +kernel
theorem dX7_lookBeside_85 : decode cX7_lookBeside 85 = .ok (.invokevirtual 38, 3) := by decide +kernel
theorem dX7_lookBeside_88 : decode cX7_lookBeside 88 = .ok (.iconst 1, 1) := by decide +kernel
theorem dX7_lookBeside_89 : decode cX7_lookBeside 89 = .ok (.iload 6, 2) := by decide +kernel
theorem dX7_lookBeside_91 : decode cX7_lookBeside 91 = .ok (.ishl, 1) := by decide +kernel
theorem dX7_lookBeside_92 : decode cX7_lookBeside 92 = .ok (.iconst (-1), 1) := by decide +kernel
theorem dX7_lookBeside_93 : decode cX7_lookBeside 93 = .ok (.ixor, 1) := by decide +kernel
theorem dX7_lookBeside_94 : decode cX7_lookBeside 94 = .ok (.iand, 1) := by decide +kernel
theorem dX7_lookBeside_95 : decode cX7_lookBeside 95 = .ok (.ior, 1) := by decide +kernel
theorem dX7_lookBeside_96 : decode cX7_lookBeside 96 = .ok (.iastore, 1) := by decide +kernel
theorem dX7_lookBeside_97 : decode cX7_lookBeside 97 = .ok (.iinc 5 1, 3) := by decide +kernel
theorem dX7_lookBeside_100 : decode cX7_lookBeside 100 = .ok (.goto (-60), 3) := by decide +kernel
theorem dX7_lookBeside_103 : decode cX7_lookBeside 103 = .ok (.return_, 1) := by decide +kernel
set_option maxRecDepth 20000 in
set_option maxHeartbeats 4000000 in
theorem wk_X7_lookBeside_40 {p : Program} {l : Launch} {e : Env} {s : State} {m : MethodId} {args : Array Value} {below : List Frame} {meth : Method} {c : Code} {G : Gp} {a1 : Nat} {x3 : Int32}  {Q : St → Prop} (F : FX p s m args meth c cX7_lookBeside 7 none RX7 G) (y1 : lay a1 = (4, 0))  : ∀ (n9 : Nat) (σ : St) (x4 : Int32) (x5 : Int32), LP3 (wp_X7_lookBeside_40 a1 x3 Q) n9 σ x4 x5 → J p l e (rmF 3 70) s m args below meth c 7 G (MQ below (QQ G (qV Q)) args s 0 0 (fr G)) 0 0 40 [(0, .ref (gb G + 176)), (1, .ref (gb G + a1)), (3, .int x3), (4, .int x4), (5, .int x5)] [] σ := by
  intro n9
  induction n9 with
  | zero => intro σ x4 x5 h; exact h.elim
  | succ n9 i40 =>
    intro σ x4 x5 h
    have h : wp_X7_lookBeside_40 a1 x3 Q (LP3 (wp_X7_lookBeside_40 a1 x3 Q) n9) σ x4 x5 := h
    unfold wp_X7_lookBeside_40 at h
    refine J_il F 4 dX7_lookBeside_40 rfl ?_
    refine J_si F dX7_lookBeside_42 ks_2048 ?_
    refine J_cge F (tgt := 103) dX7_lookBeside_45 (by decide) (fun c_1 => ?_) (fun c_1 => ?_)
    · have h := h.1 c_1
      exact J_retv F ⟨rfl, h⟩ dX7_lookBeside_103
    · have h := h.2 c_1
      refine J_il F 3 dX7_lookBeside_48 rfl ?_
      refine J_zle F (tgt := 103) dX7_lookBeside_50 (by decide) (fun c_2 => ?_) (fun c_2 => ?_)
      · have h := h.1 c_2
        exact J_retv F ⟨rfl, h⟩ dX7_lookBeside_103
      · have h := h.2 c_2
        refine J_aln F 1 dX7_lookBeside_53 rfl rfl ?_
        refine J_gfr F (ci := 4) 0 rfl inX4 y1 (by decide) (by decide) rfl lf_X7_35 rfl dX7_lookBeside_54 ?_
        refine J_il F 4 dX7_lookBeside_57 rfl ?_
        obtain ⟨h_3, h⟩ := h
        refine J_iald F (lay_space y1).1 h_3 dX7_lookBeside_59 ?_
        refine J_ic F dX7_lookBeside_60 ki_1 ?_
        refine J_isub F dX7_lookBeside_61 ?_
        refine J_top (fun x6_4 ex6_4 => ?_)
        have h := h x6_4 ex6_4
        refine J_is F (L' := [(6, .int x6_4), (0, .ref (gb G + 176)), (1, .ref (gb G + a1)), (3, .int x3), (4, .int x4), (5, .int x5)]) dX7_lookBeside_62 (by decide) rfl ?_
        refine J_il F 0 dX7_lookBeside_64 rfl ?_
        refine J_zlt F (tgt := 97) dX7_lookBeside_66 (by decide) (fun c_5 => ?_) (fun c_5 => ?_)
        · have h := h.1 c_5
          obtain ⟨x5_6, ex5_6⟩ : ∃ z : Int32, z = x5 + (nI 1) := ⟨_, rfl⟩
          have h := h x5_6 ex5_6
          refine J_iinc F (v := x5_6) (L' := [(5, .int x5_6), (6, .int x6_4), (0, .ref (gb G + 176)), (1, .ref (gb G + a1)), (3, .int x3), (4, .int x4)]) 5 dX7_lookBeside_97 rfl (by rw [ki_1, ex5_6]) (by decide) rfl ?_
          refine J_goto F (tgt := 40) dX7_lookBeside_100 (by decide) ?_
          refine J_sub [2, 3, 4, 5, 0] rfl ?_
          exact i40 _ _ _ h
        · have h := h.2 c_5
          obtain ⟨x4_7, ex4_7⟩ : ∃ z : Int32, z = x4 + (-1) := ⟨_, rfl⟩
          have h := h x4_7 ex4_7
          refine J_iinc F (v := x4_7) (L' := [(4, .int x4_7), (6, .int x6_4), (0, .ref (gb G + 176)), (1, .ref (gb G + a1)), (3, .int x3), (5, .int x5)]) 4 dX7_lookBeside_69 rfl (by rw [ki_m1, ex4_7]) (by decide) rfl ?_
          refine J_aln F 2 dX7_lookBeside_72 rfl rfl ?_
          refine J_gfa F (ci := 7) 0 rfl inX7 ly_176 (by decide) (by decide) rfl lf_X7_9 rfl dX7_lookBeside_73 ?_
          refine J_iln F 4 dX7_lookBeside_76 rfl rfl ?_
          refine J_il F 1 dX7_lookBeside_77 rfl ?_
          refine J_iadd F dX7_lookBeside_79 ?_
          refine J_dup2 F dX7_lookBeside_80 rfl rfl ?_
          obtain ⟨h_8, h⟩ := h
          refine J_iald F ly_177 h_8 dX7_lookBeside_81 ?_
          refine J_aln F 3 dX7_lookBeside_82 rfl rfl ?_
          refine J_il F 5 dX7_lookBeside_83 rfl ?_
          refine J_callVi F (As := [.int x5]) (st := [.int (σ 177 (Int32.toNatClampNeg (x3 + x6_4))), .int (x3 + x6_4), .ref (gb G + 177)]) (C_X4_besideOf l G a1 x5 y1 h) (ci := 4) y1 (by decide) rfl rfl lm_X7_38 li_X4_besideOf ls_X4_besideOf ini_X4 lc_X4_besideOf hd_X4_besideOf (by decide) (Nat.le_of_ble_eq_true rfl) (by decide) rfl dX7_lookBeside_85 (fun r_9 σ_10 hh => ?_)
          clear h
          obtain ⟨e9, h⟩ := hh
          subst σ_10
          refine J_ic F dX7_lookBeside_88 ki_1 ?_
          refine J_il F 1 dX7_lookBeside_89 rfl ?_
          refine J_ishl F dX7_lookBeside_91 ?_
          refine J_ic F dX7_lookBeside_92 ki_m1 ?_
          refine J_ixor F dX7_lookBeside_93 ?_
          refine J_iand F dX7_lookBeside_94 ?_
          refine J_ior F dX7_lookBeside_95 ?_
          obtain ⟨h_11, h⟩ := h
          refine J_iast F ly_177 h_11 dX7_lookBeside_96 ?_
          refine J_st (fun σ_12 eσ_12 => ?_)
          have h := h σ_12 eσ_12
          obtain ⟨x5_13, ex5_13⟩ : ∃ z : Int32, z = x5 + (nI 1) := ⟨_, rfl⟩
          have h := h x5_13 ex5_13
          refine J_iinc F (v := x5_13) (L' := [(5, .int x5_13), (4, .int x4_7), (6, .int x6_4), (0, .ref (gb G + 176)), (1, .ref (gb G + a1)), (3, .int x3)]) 5 dX7_lookBeside_97 rfl (by rw [ki_1, ex5_13]) (by decide) rfl ?_
          refine J_goto F (tgt := 40) dX7_lookBeside_100 (by decide) ?_
          refine J_sub [3, 4, 5, 1, 0] rfl ?_
          exact i40 _ _ _ h
set_option maxRecDepth 20000 in
set_option maxHeartbeats 4000000 in
theorem wk_X7_lookBeside_31 {p : Program} {l : Launch} {e : Env} {s : State} {m : MethodId} {args : Array Value} {below : List Frame} {meth : Method} {c : Code} {G : Gp} {σ : St} {a1 : Nat} {x3 : Int32}  {Q : St → Prop} (F : FX p s m args meth c cX7_lookBeside 7 none RX7 G) (y1 : lay a1 = (4, 0))  (h : wp_X7_lookBeside_31 σ a1 x3 Q) : J p l e (rmF 3 70) s m args below meth c 7 G (MQ below (QQ G (qV Q)) args s 0 0 (fr G)) 0 0 31 [(0, .ref (gb G + 176)), (1, .ref (gb G + a1)), (3, .int x3)] [] σ := by
  unfold wp_X7_lookBeside_31 at h
  refine J_aln F 1 dX7_lookBeside_31 rfl rfl ?_
  refine J_callVi F (As := []) (st := []) (C_X4_zonesOfAll l G a1 y1 h) (ci := 4) y1 (by decide) rfl rfl lm_X7_29 li_X4_zonesOfAll ls_X4_zonesOfAll ini_X4 lc_X4_zonesOfAll hd_X4_zonesOfAll (by decide) (Nat.le_of_ble_eq_true rfl) (by decide) rfl dX7_lookBeside_32 (fun r_14 σ_15 hh => ?_)
  clear h
  obtain ⟨e9, h⟩ := hh
  subst σ_15
  refine J_is F (L' := [(4, .int r_14), (0, .ref (gb G + 176)), (1, .ref (gb G + a1)), (3, .int x3)]) dX7_lookBeside_35 (by decide) rfl ?_
  refine J_ic F dX7_lookBeside_37 ki_1 ?_
  refine J_is F (L' := [(5, .int (nI 1)), (4, .int r_14), (0, .ref (gb G + 176)), (1, .ref (gb G + a1)), (3, .int x3)]) dX7_lookBeside_38 (by decide) rfl ?_
  refine J_sub [2, 3, 4, 1, 0] rfl ?_
  obtain ⟨n9, h⟩ := h
  exact wk_X7_lookBeside_40 F y1 n9 _ _ _ h
set_option maxRecDepth 20000 in
set_option maxHeartbeats 4000000 in
theorem wk_X7_lookBeside_8 {p : Program} {l : Launch} {e : Env} {s : State} {m : MethodId} {args : Array Value} {below : List Frame} {meth : Method} {c : Code} {G : Gp} {a1 : Nat} {x3 : Int32}  {Q : St → Prop} (F : FX p s m args meth c cX7_lookBeside 7 none RX7 G) (y1 : lay a1 = (4, 0))  : ∀ (n9 : Nat) (σ : St) (x4 : Int32), LP2 (wp_X7_lookBeside_8 a1 x3 Q) n9 σ x4 → J p l e (rmF 3 70) s m args below meth c 7 G (MQ below (QQ G (qV Q)) args s 0 0 (fr G)) 0 0 8 [(0, .ref (gb G + 176)), (1, .ref (gb G + a1)), (3, .int x3), (4, .int x4)] [] σ := by
  intro n9
  induction n9 with
  | zero => intro σ x4 h; exact h.elim
  | succ n9 i8 =>
    intro σ x4 h
    have h : wp_X7_lookBeside_8 a1 x3 Q (LP2 (wp_X7_lookBeside_8 a1 x3 Q) n9) σ x4 := h
    unfold wp_X7_lookBeside_8 at h
    refine J_il F 3 dX7_lookBeside_8 rfl ?_
    refine J_bi F dX7_lookBeside_10 kb_10 ?_
    refine J_cge F (tgt := 31) dX7_lookBeside_12 (by decide) (fun c_16 => ?_) (fun c_16 => ?_)
    · have h := h.1 c_16
      refine J_sub [0, 1, 2] rfl ?_
      exact wk_X7_lookBeside_31 F y1 h
    · have h := h.2 c_16
      refine J_aln F 0 dX7_lookBeside_15 rfl rfl ?_
      refine J_gfa F (ci := 7) 0 rfl inX7 ly_176 (by decide) (by decide) rfl lf_X7_9 rfl dX7_lookBeside_16 ?_
      refine J_iln F 2 dX7_lookBeside_19 rfl rfl ?_
      refine J_il F 3 dX7_lookBeside_20 rfl ?_
      refine J_iadd F dX7_lookBeside_22 ?_
      refine J_ic F dX7_lookBeside_23 ki_0 ?_
      obtain ⟨h_17, h⟩ := h
      refine J_iast F ly_177 h_17 dX7_lookBeside_24 ?_
      refine J_st (fun σ_18 eσ_18 => ?_)
      have h := h σ_18 eσ_18
      obtain ⟨x4_19, ex4_19⟩ : ∃ z : Int32, z = x4 + (nI 1) := ⟨_, rfl⟩
      have h := h x4_19 ex4_19
      refine J_iinc F (v := x4_19) (L' := [(4, .int x4_19), (0, .ref (gb G + 176)), (1, .ref (gb G + a1)), (3, .int x3)]) 3 dX7_lookBeside_25 rfl (by rw [ki_1, ex4_19]) (by decide) rfl ?_
      refine J_goto F (tgt := 8) dX7_lookBeside_28 (by decide) ?_
      refine J_sub [1, 2, 3, 0] rfl ?_
      exact i8 _ _ h
set_option maxRecDepth 20000 in
set_option maxHeartbeats 4000000 in
theorem C_X7_lookBeside (l : Launch) (G : Gp) (a1 : Nat) (x2 : Int32) (y1 : lay a1 = (4, 0)) {σ : St} {Q : St → Prop} (h : wp_X7_lookBeside σ a1 x2 Q) : Cn l yX7_lookBeside cX7_lookBeside 7 none 3 70 G [.ref (gb G + 176), .ref (gb G + a1), .int x2] σ (qV Q) := by
  refine Cn_of (L := [(0, .ref (gb G + 176)), (1, .ref (gb G + a1)), (2, .int x2)]) RX7 (by decide) rfl (Nat.le_of_ble_eq_true rfl) rfl ?_
  intro p e s m below meth c F
  unfold wp_X7_lookBeside at h
  refine J_iln F 2 dX7_lookBeside_0 rfl rfl ?_
  refine J_bi F dX7_lookBeside_1 kb_10 ?_
  refine J_imul F dX7_lookBeside_3 ?_
  refine J_top (fun x3_20 ex3_20 => ?_)
  have h := h x3_20 ex3_20
  refine J_isn F (L' := [(3, .int x3_20), (0, .ref (gb G + 176)), (1, .ref (gb G + a1)), (2, .int x2)]) dX7_lookBeside_4 rfl (by decide) rfl ?_
  refine J_ic F dX7_lookBeside_5 ki_0 ?_
  refine J_is F (L' := [(4, .int (nI 0)), (3, .int x3_20), (0, .ref (gb G + 176)), (1, .ref (gb G + a1)), (2, .int x2)]) dX7_lookBeside_6 (by decide) rfl ?_
  refine J_sub [2, 3, 1, 0] rfl ?_
  obtain ⟨n9, h⟩ := h
  exact wk_X7_lookBeside_8 F y1 n9 _ _ h
theorem dX7_stepsTo_0 : decode cX7_stepsTo 0 = .ok (.iload_n 0, 1) := by decide +kernel
theorem dX7_stepsTo_1 : decode cX7_stepsTo 1 = .ok (.iload_n 1, 1) := by decide +kernel
theorem dX7_stepsTo_2 : decode cX7_stepsTo 2 = .ok (.isub, 1) := by decide +kernel
theorem dX7_stepsTo_3 : decode cX7_stepsTo 3 = .ok (.bipush 31, 2) := by decide +kernel
theorem dX7_stepsTo_5 : decode cX7_stepsTo 5 = .ok (.iand, 1) := by decide +kernel
theorem dX7_stepsTo_6 : decode cX7_stepsTo 6 = .ok (.iload_n 2, 1) := by decide +kernel
theorem dX7_stepsTo_7 : decode cX7_stepsTo 7 = .ok (.if_icmp .ge 5, 3) := by decide +kernel
theorem dX7_stepsTo_10 : decode cX7_stepsTo 10 = .ok (.iconst 0, 1) := by decide +kernel
theorem dX7_stepsTo_11 : decode cX7_stepsTo 11 = .ok (.ireturn, 1) := by decide +kernel
theorem dX7_stepsTo_12 : decode cX7_stepsTo 12 = .ok (.iload_n 1, 1) := by decide +kernel
theorem dX7_stepsTo_13 : decode cX7_stepsTo 13 = .ok (.iload_n 0, 1) := by decide +kernel
theorem dX7_stepsTo_14 : decode cX7_stepsTo 14 = .ok (.isub, 1) := by decide +kernel
theorem dX7_stepsTo_15 : decode cX7_stepsTo 15 = .ok (.bipush 31, 2) := by decide +kernel
theorem dX7_stepsTo_17 : decode cX7_stepsTo 17 = .ok (.iand, 1) := by decide +kernel
theorem dX7_stepsTo_18 : decode cX7_stepsTo 18 = .ok (.iload_n 0, 1) := by decide +kernel
theorem dX7_stepsTo_19 : decode cX7_stepsTo 19 = .ok (.iload_n 1, 1) := by decide +kernel
theorem dX7_stepsTo_20 : decode cX7_stepsTo 20 = .ok (.iload_n 2, 1) := by decide +kernel
theorem dX7_stepsTo_21 : decode cX7_stepsTo 21 = .ok (.iadd, 1) := by decide +kernel
theorem dX7_stepsTo_22 : decode cX7_stepsTo 22 = .ok (.iconst 1, 1) := by decide +kernel
theorem dX7_stepsTo_23 : decode cX7_stepsTo 23 = .ok (.isub, 1) := by decide +kernel
theorem dX7_stepsTo_24 : decode cX7_stepsTo 24 = .ok (.isub, 1) := by decide +kernel
theorem dX7_stepsTo_25 : decode cX7_stepsTo 25 = .ok (.bipush 31, 2) := by decide +kernel
theorem dX7_stepsTo_27 : decode cX7_stepsTo 27 = .ok (.iand, 1) := by decide +kernel
theorem dX7_stepsTo_28 : decode cX7_stepsTo 28 = .ok (.invokestatic 62, 3) := by decide +kernel
theorem dX7_stepsTo_31 : decode cX7_stepsTo 31 = .ok (.ireturn, 1) := by decide +kernel
set_option maxRecDepth 20000 in
set_option maxHeartbeats 4000000 in
theorem C_X7_stepsTo (l : Launch) (G : Gp) (x0 : Int32) (x1 : Int32) (x2 : Int32)  {σ : St} {Q : Int32 → Prop} (h : wp_X7_stepsTo σ x0 x1 x2 Q) : Cn l yX7_stepsTo cX7_stepsTo 3 (some .int) 1 21 G [.int x0, .int x1, .int x2] σ (qI (fun r σ' => σ' = σ ∧ Q r)) := by
  refine Cn_of (L := [(0, .int x0), (1, .int x1), (2, .int x2)]) RX7 (by decide) rfl (Nat.le_of_ble_eq_true rfl) rfl ?_
  intro p e s m below meth c F
  unfold wp_X7_stepsTo at h
  refine J_iln F 0 dX7_stepsTo_0 rfl rfl ?_
  refine J_iln F 1 dX7_stepsTo_1 rfl rfl ?_
  refine J_isub F dX7_stepsTo_2 ?_
  refine J_bi F dX7_stepsTo_3 kb_31 ?_
  refine J_iand F dX7_stepsTo_5 ?_
  refine J_iln F 2 dX7_stepsTo_6 rfl rfl ?_
  refine J_cge F (tgt := 12) dX7_stepsTo_7 (by decide) (fun c_1 => ?_) (fun c_1 => ?_)
  · have h := h.1 c_1
    refine J_iln F 1 dX7_stepsTo_12 rfl rfl ?_
    refine J_iln F 0 dX7_stepsTo_13 rfl rfl ?_
    refine J_isub F dX7_stepsTo_14 ?_
    refine J_bi F dX7_stepsTo_15 kb_31 ?_
    refine J_iand F dX7_stepsTo_17 ?_
    refine J_iln F 0 dX7_stepsTo_18 rfl rfl ?_
    refine J_iln F 1 dX7_stepsTo_19 rfl rfl ?_
    refine J_iln F 2 dX7_stepsTo_20 rfl rfl ?_
    refine J_iadd F dX7_stepsTo_21 ?_
    refine J_ic F dX7_stepsTo_22 ki_1 ?_
    refine J_isub F dX7_stepsTo_23 ?_
    refine J_isub F dX7_stepsTo_24 ?_
    refine J_bi F dX7_stepsTo_25 kb_31 ?_
    refine J_iand F dX7_stepsTo_27 ?_
    refine J_mmin F lm_X7_62 st_min ini_Math co_min (by decide) (Nat.le_of_ble_eq_true rfl) (by decide) dX7_stepsTo_28 ?_
    exact J_reti F ⟨_, rfl, rfl, h⟩ dX7_stepsTo_31
  · have h := h.2 c_1
    refine J_ic F dX7_stepsTo_10 ki_0 ?_
    exact J_reti F ⟨_, rfl, rfl, h⟩ dX7_stepsTo_11
theorem dX7_lookFar_0 : decode cX7_lookFar 0 = .ok (.iload_n 2, 1) := by decide +kernel
theorem dX7_lookFar_1 : decode cX7_lookFar 1 = .ok (.bipush 10, 2) := by decide +kernel
theorem dX7_lookFar_3 : decode cX7_lookFar 3 = .ok (.imul, 1) := by decide +kernel
theorem dX7_lookFar_4 : decode cX7_lookFar 4 = .ok (.istore 5, 2) := by decide +kernel
theorem dX7_lookFar_6 : decode cX7_lookFar 6 = .ok (.iconst 0, 1) := by decide +kernel
theorem dX7_lookFar_7 : decode cX7_lookFar 7 = .ok (.istore 6, 2) := by decide +kernel
theorem dX7_lookFar_9 : decode cX7_lookFar 9 = .ok (.iload 6, 2) := by decide +kernel
theorem dX7_lookFar_11 : decode cX7_lookFar 11 = .ok (.bipush 10, 2) := by decide +kernel
theorem dX7_lookFar_13 : decode cX7_lookFar 13 = .ok (.if_icmp .ge 21, 3) := by decide +kernel
theorem dX7_lookFar_16 : decode cX7_lookFar 16 = .ok (.aload_n 0, 1) := by decide +kernel
theorem dX7_lookFar_17 : decode cX7_lookFar 17 = .ok (.getfield 15, 3) := by decide +kernel
theorem dX7_lookFar_20 : decode cX7_lookFar 20 = .ok (.iload 5, 2) := by decide +kernel
theorem dX7_lookFar_22 : decode cX7_lookFar 22 = .ok (.iload 6, 2) := by decide +kernel
theorem dX7_lookFar_24 : decode cX7_lookFar 24 = .ok (.iadd, 1) := by decide +kernel
theorem dX7_lookFar_25 : decode cX7_lookFar 25 = .ok (.bipush 64, 2) := by decide +kernel
theorem dX7_lookFar_27 : decode cX7_lookFar 27 = .ok (.iastore, 1) := by decide +kernel
theorem dX7_lookFar_28 : decode cX7_lookFar 28 = .ok (.iinc 6 1, 3) := by decide +kernel
theorem dX7_lookFar_31 : decode cX7_lookFar 31 = .ok (.goto (-22), 3) := by decide +kernel
theorem dX7_lookFar_34 : decode cX7_lookFar 34 = .ok (.aload_n 1, 1) := by decide +kernel
theorem dX7_lookFar_35 : decode cX7_lookFar 35 = .ok (.invokevirtual 29, 3) := by decide +kernel
theorem dX7_lookFar_38 : decode cX7_lookFar 38 = .ok (.istore 6, 2) := by decide +kernel
theorem dX7_lookFar_40 : decode cX7_lookFar 40 = .ok (.iconst 1, 1) := by decide +kernel
theorem dX7_lookFar_41 : decode cX7_lookFar 41 = .ok (.istore 7, 2) := by decide +kernel
theorem dX7_lookFar_43 : decode cX7_lookFar 43 = .ok (.iload 7, 2) := by decide +kernel
theorem dX7_lookFar_45 : decode cX7_lookFar 45 = .ok (.sipush 2048, 3) := by decide +kernel
theorem dX7_lookFar_48 : decode cX7_lookFar 48 = .ok (.if_icmp .ge 101, 3) := by decide +kernel
theorem dX7_lookFar_51 : decode cX7_lookFar 51 = .ok (.iload 6, 2) := by decide +kernel
theorem dX7_lookFar_53 : decode cX7_lookFar 53 = .ok (.ifCond .le 96, 3) := by decide +kernel
theorem dX7_lookFar_56 : decode cX7_lookFar 56 = .ok (.aload_n 1, 1) := by decide +kernel
theorem dX7_lookFar_57 : decode cX7_lookFar 57 = .ok (.getfield 35, 3) := by decide +kernel
theorem dX7_lookFar_60 : decode cX7_lookFar 60 = .ok (.iload 7, 2) := by decide +kernel
theorem dX7_lookFar_62 : decode cX7_lookFar 62 = .ok (.iaload, 1) := by decide +kernel
theorem dX7_lookFar_63 : decode cX7_lookFar 63 = .ok (.iconst 1, 1) := by decide +kernel
theorem dX7_lookFar_64 : decode cX7_lookFar 64 = .ok (.isub, 1) := by decide +kernel
theorem dX7_lookFar_65 : decode cX7_lookFar 65 = .ok (.istore 8, 2) := by decide +kernel
theorem dX7_lookFar_67 : decode cX7_lookFar 67 = .ok (.iload 8, 2) := by decide +kernel
theorem dX7_lookFar_69 : decode cX7_lookFar 69 = .ok (.ifCond .lt 74, 3) := by decide +kernel
theorem dX7_lookFar_72 : decode cX7_lookFar 72 = .ok (.iinc 6 (-1), 3) := by decide +kernel
theorem dX7_lookFar_75 : decode cX7_lookFar 75 = .ok (.iload 7, 2) := by decide +kernel
theorem dX7_lookFar_77 : decode cX7_lookFar 77 = .ok (.invokestatic 42, 3) := by decide +kernel
theorem dX7_lookFar_80 : decode cX7_lookFar 80 = .ok (.istore 9, 2) := by decide +kernel
theorem dX7_lookFar_82 : decode cX7_lookFar 82 = .ok (.iload_n 3, 1) := by decide +kernel
theorem dX7_lookFar_83 : decode cX7_lookFar 83 = .ok (.iload 7, 2) := by decide +kernel
theorem dX7_lookFar_85 : decode cX7_lookFar 85 = .ok (.iload 9, 2) := by decide +kernel
theorem dX7_lookFar_87 : decode cX7_lookFar 87 = .ok (.invokestatic 45, 3) := by decide +kernel
theorem dX7_lookFar_90 : decode cX7_lookFar 90 = .ok (.iload 9, 2) := by decide +kernel
theorem dX7_lookFar_92 : decode cX7_lookFar 92 = .ok (.invokestatic 49, 3) := by decide +kernel
theorem dX7_lookFar_95 : decode cX7_lookFar 95 = .ok (.invokestatic 52, 3) := by decide +kernel
theorem dX7_lookFar_98 : decode cX7_lookFar 98 = .ok (.iload 4, 2) := by decide +kernel
theorem dX7_lookFar_100 : decode cX7_lookFar 100 = .ok (.iload 7, 2) := by decide +kernel
theorem dX7_lookFar_102 : decode cX7_lookFar 102 = .ok (.iload 9, 2) := by decide +kernel
theorem dX7_lookFar_104 : decode cX7_lookFar 104 = .ok (.invokestatic 56, 3) := by decide +kernel
theorem dX7_lookFar_107 : decode cX7_lookFar 107 = .ok (.iload 9, 2) := by decide +kernel
theorem dX7_lookFar_109 : decode cX7_lookFar 109 = .ok (.invokestatic 59, 3) := by decide +kernel
theorem dX7_lookFar_112 : decode cX7_lookFar 112 = .ok (.invokestatic 52, 3) := by decide +kernel
theorem dX7_lookFar_115 : decode cX7_lookFar 115 = .ok (.iadd, 1) := by decide +kernel
theorem dX7_lookFar_116 : decode cX7_lookFar 116 = .ok (.istore 10, 2) := by decide +kernel
theorem dX7_lookFar_118 : decode cX7_lookFar 118 = .ok (.aload_n 0, 1) := by decide +kernel
theorem dX7_lookFar_119 : decode cX7_lookFar 119 = .ok (.getfield 15, 3) := by decide +kernel
theorem dX7_lookFar_122 : decode cX7_lookFar 122 = .ok (.iload 5, 2) := by decide +kernel
theorem dX7_lookFar_124 : decode cX7_lookFar 124 = .ok (.iload 8, 2) := by decide +kernel
theorem dX7_lookFar_126 : decode cX7_lookFar 126 = .ok (.iadd, 1) := by decide +kernel
theorem dX7_lookFar_127 : decode cX7_lookFar 127 = .ok (.aload_n 0, 1) := by decide +kernel
theorem dX7_lookFar_128 : decode cX7_lookFar 128 = .ok (.getfield 15, 3) := by decide +kernel
theorem dX7_lookFar_131 : decode cX7_lookFar 131 = .ok (.iload 5, 2) := by decide +kernel
theorem dX7_lookFar_133 : decode cX7_lookFar 133 = .ok (.iload 8, 2) := by decide +kernel
theorem dX7_lookFar_135 : decode cX7_lookFar 135 = .ok (.iadd, 1) := by decide +kernel
theorem dX7_lookFar_136 : decode cX7_lookFar 136 = .ok (.iaload, 1) := by decide +kernel
theorem dX7_lookFar_137 : decode cX7_lookFar 137 = .ok (.iload 10, 2) := by decide +kernel
theorem dX7_lookFar_139 : decode cX7_lookFar 139 = .ok (.invokestatic 62, 3) := by decide +kernel
theorem dX7_lookFar_142 : decode cX7_lookFar 142 = .ok (.iastore, 1) := by decide +kernel
theorem dX7_lookFar_143 : decode cX7_lookFar 143 = .ok (.iinc 7 1, 3) := by decide +kernel
theorem dX7_lookFar_146 : decode cX7_lookFar 146 = .ok (.goto (-103), 3) := by decide +kernel
theorem dX7_lookFar_149 : decode cX7_lookFar 149 = .ok (.return_, 1) := by decide +kernel
set_option maxRecDepth 20000 in
set_option maxHeartbeats 4000000 in
theorem wk_X7_lookFar_43 {p : Program} {l : Launch} {e : Env} {s : State} {m : MethodId} {args : Array Value} {below : List Frame} {meth : Method} {c : Code} {G : Gp} {a1 : Nat} {x3 : Int32} {x4 : Int32} {x5 : Int32}  {Q : St → Prop} (F : FX p s m args meth c cX7_lookFar 11 none RX7 G) (y1 : lay a1 = (4, 0))  : ∀ (n9 : Nat) (σ : St) (x6 : Int32) (x7 : Int32), LP3 (wp_X7_lookFar_43 a1 x3 x4 x5 Q) n9 σ x6 x7 → J p l e (rmF 2 43) s m args below meth c 11 G (MQ below (QQ G (qV Q)) args s 0 0 (fr G)) 0 0 43 [(0, .ref (gb G + 176)), (1, .ref (gb G + a1)), (3, .int x3), (4, .int x4), (5, .int x5), (6, .int x6), (7, .int x7)] [] σ := by
  intro n9
  induction n9 with
  | zero => intro σ x6 x7 h; exact h.elim
  | succ n9 i43 =>
    intro σ x6 x7 h
    have h : wp_X7_lookFar_43 a1 x3 x4 x5 Q (LP3 (wp_X7_lookFar_43 a1 x3 x4 x5 Q) n9) σ x6 x7 := h
    unfold wp_X7_lookFar_43 at h
    refine J_il F 6 dX7_lookFar_43 rfl ?_
    refine J_si F dX7_lookFar_45 ks_2048 ?_
    refine J_cge F (tgt := 149) dX7_lookFar_48 (by decide) (fun c_1 => ?_) (fun c_1 => ?_)
    · have h := h.1 c_1
      exact J_retv F ⟨rfl, h⟩ dX7_lookFar_149
    · have h := h.2 c_1
      refine J_il F 5 dX7_lookFar_51 rfl ?_
      refine J_zle F (tgt := 149) dX7_lookFar_53 (by decide) (fun c_2 => ?_) (fun c_2 => ?_)
      · have h := h.1 c_2
        exact J_retv F ⟨rfl, h⟩ dX7_lookFar_149
      · have h := h.2 c_2
        refine J_aln F 1 dX7_lookFar_56 rfl rfl ?_
        refine J_gfr F (ci := 4) 0 rfl inX4 y1 (by decide) (by decide) rfl lf_X7_35 rfl dX7_lookFar_57 ?_
        refine J_il F 6 dX7_lookFar_60 rfl ?_
        obtain ⟨h_3, h⟩ := h
        refine J_iald F (lay_space y1).1 h_3 dX7_lookFar_62 ?_
        refine J_ic F dX7_lookFar_63 ki_1 ?_
        refine J_isub F dX7_lookFar_64 ?_
        refine J_top (fun x8_4 ex8_4 => ?_)
        have h := h x8_4 ex8_4
        refine J_is F (L' := [(8, .int x8_4), (0, .ref (gb G + 176)), (1, .ref (gb G + a1)), (3, .int x3), (4, .int x4), (5, .int x5), (6, .int x6), (7, .int x7)]) dX7_lookFar_65 (by decide) rfl ?_
        refine J_il F 0 dX7_lookFar_67 rfl ?_
        refine J_zlt F (tgt := 143) dX7_lookFar_69 (by decide) (fun c_5 => ?_) (fun c_5 => ?_)
        · have h := h.1 c_5
          obtain ⟨x7_6, ex7_6⟩ : ∃ z : Int32, z = x7 + (nI 1) := ⟨_, rfl⟩
          have h := h x7_6 ex7_6
          refine J_iinc F (v := x7_6) (L' := [(7, .int x7_6), (8, .int x8_4), (0, .ref (gb G + 176)), (1, .ref (gb G + a1)), (3, .int x3), (4, .int x4), (5, .int x5), (6, .int x6)]) 7 dX7_lookFar_143 rfl (by rw [ki_1, ex7_6]) (by decide) rfl ?_
          refine J_goto F (tgt := 43) dX7_lookFar_146 (by decide) ?_
          refine J_sub [2, 3, 4, 5, 6, 7, 0] rfl ?_
          exact i43 _ _ _ h
        · have h := h.2 c_5
          obtain ⟨x6_7, ex6_7⟩ : ∃ z : Int32, z = x6 + (-1) := ⟨_, rfl⟩
          have h := h x6_7 ex6_7
          refine J_iinc F (v := x6_7) (L' := [(6, .int x6_7), (8, .int x8_4), (0, .ref (gb G + 176)), (1, .ref (gb G + a1)), (3, .int x3), (4, .int x4), (5, .int x5), (7, .int x7)]) 6 dX7_lookFar_72 rfl (by rw [ki_m1, ex6_7]) (by decide) rfl ?_
          refine J_il F 7 dX7_lookFar_75 rfl ?_
          refine J_callSi F (As := [.int x7]) (st := []) (C_X4_depthOf l G x7  h) lm_X7_42 li_X4_depthOf ini_X4 lc_X4_depthOf hd_X4_depthOf (by decide) (Nat.le_of_ble_eq_true rfl) (by decide) rfl dX7_lookFar_77 (fun r_8 σ_9 hh => ?_)
          clear h
          obtain ⟨e9, h⟩ := hh
          subst σ_9
          refine J_is F (L' := [(9, .int r_8), (6, .int x6_7), (8, .int x8_4), (0, .ref (gb G + 176)), (1, .ref (gb G + a1)), (3, .int x3), (4, .int x4), (5, .int x5), (7, .int x7)]) dX7_lookFar_80 (by decide) rfl ?_
          refine J_iln F 5 dX7_lookFar_82 rfl rfl ?_
          refine J_il F 8 dX7_lookFar_83 rfl ?_
          refine J_il F 0 dX7_lookFar_85 rfl ?_
          refine J_callSi F (As := [.int x7, .int r_8]) (st := [.int x3]) (C_X4_leastX l G x7 r_8  h) lm_X7_45 li_X4_leastX ini_X4 lc_X4_leastX hd_X4_leastX (by decide) (Nat.le_of_ble_eq_true rfl) (by decide) rfl dX7_lookFar_87 (fun r_10 σ_11 hh => ?_)
          clear h
          obtain ⟨e9, h⟩ := hh
          subst σ_11
          refine J_il F 0 dX7_lookFar_90 rfl ?_
          refine J_callSi F (As := [.int r_8]) (st := [.int r_10, .int x3]) (C_X4_wide l G r_8  h) lm_X7_49 li_X4_wide ini_X4 lc_X4_wide hd_X4_wide (by decide) (Nat.le_of_ble_eq_true rfl) (by decide) rfl dX7_lookFar_92 (fun r_12 σ_13 hh => ?_)
          clear h
          obtain ⟨e9, h⟩ := hh
          subst σ_13
          refine J_callSi F (As := [.int x3, .int r_10, .int r_12]) (st := []) (C_X7_stepsTo l G x3 r_10 r_12  h) lm_X7_52 li_X7_stepsTo ini_X7 lc_X7_stepsTo hd_X7_stepsTo (by decide) (Nat.le_of_ble_eq_true rfl) (by decide) rfl dX7_lookFar_95 (fun r_14 σ_15 hh => ?_)
          clear h
          obtain ⟨e9, h⟩ := hh
          subst σ_15
          refine J_il F 6 dX7_lookFar_98 rfl ?_
          refine J_il F 8 dX7_lookFar_100 rfl ?_
          refine J_il F 0 dX7_lookFar_102 rfl ?_
          refine J_callSi F (As := [.int x7, .int r_8]) (st := [.int x4, .int r_14]) (C_X4_leastY l G x7 r_8  h) lm_X7_56 li_X4_leastY ini_X4 lc_X4_leastY hd_X4_leastY (by decide) (Nat.le_of_ble_eq_true rfl) (by decide) rfl dX7_lookFar_104 (fun r_16 σ_17 hh => ?_)
          clear h
          obtain ⟨e9, h⟩ := hh
          subst σ_17
          refine J_il F 0 dX7_lookFar_107 rfl ?_
          refine J_callSi F (As := [.int r_8]) (st := [.int r_16, .int x4, .int r_14]) (C_X4_high l G r_8  h) lm_X7_59 li_X4_high ini_X4 lc_X4_high hd_X4_high (by decide) (Nat.le_of_ble_eq_true rfl) (by decide) rfl dX7_lookFar_109 (fun r_18 σ_19 hh => ?_)
          clear h
          obtain ⟨e9, h⟩ := hh
          subst σ_19
          refine J_callSi F (As := [.int x4, .int r_16, .int r_18]) (st := [.int r_14]) (C_X7_stepsTo l G x4 r_16 r_18  h) lm_X7_52 li_X7_stepsTo ini_X7 lc_X7_stepsTo hd_X7_stepsTo (by decide) (Nat.le_of_ble_eq_true rfl) (by decide) rfl dX7_lookFar_112 (fun r_20 σ_21 hh => ?_)
          clear h
          obtain ⟨e9, h⟩ := hh
          subst σ_21
          refine J_iadd F dX7_lookFar_115 ?_
          refine J_top (fun x10_22 ex10_22 => ?_)
          have h := h x10_22 ex10_22
          refine J_is F (L' := [(10, .int x10_22), (9, .int r_8), (6, .int x6_7), (8, .int x8_4), (0, .ref (gb G + 176)), (1, .ref (gb G + a1)), (3, .int x3), (4, .int x4), (5, .int x5), (7, .int x7)]) dX7_lookFar_116 (by decide) rfl ?_
          refine J_aln F 4 dX7_lookFar_118 rfl rfl ?_
          refine J_gfa F (ci := 7) 1 rfl inX7 ly_176 (by decide) (by decide) rfl lf_X7_15 rfl dX7_lookFar_119 ?_
          refine J_il F 8 dX7_lookFar_122 rfl ?_
          refine J_il F 3 dX7_lookFar_124 rfl ?_
          refine J_iadd F dX7_lookFar_126 ?_
          refine J_aln F 4 dX7_lookFar_127 rfl rfl ?_
          refine J_gfa F (ci := 7) 1 rfl inX7 ly_176 (by decide) (by decide) rfl lf_X7_15 rfl dX7_lookFar_128 ?_
          refine J_il F 8 dX7_lookFar_131 rfl ?_
          refine J_il F 3 dX7_lookFar_133 rfl ?_
          refine J_iadd F dX7_lookFar_135 ?_
          obtain ⟨h_23, h⟩ := h
          refine J_iald F ly_178 h_23 dX7_lookFar_136 ?_
          refine J_il F 0 dX7_lookFar_137 rfl ?_
          refine J_mmin F lm_X7_62 st_min ini_Math co_min (by decide) (Nat.le_of_ble_eq_true rfl) (by decide) dX7_lookFar_139 ?_
          obtain ⟨h_24, h⟩ := h
          refine J_iast F ly_178 h_24 dX7_lookFar_142 ?_
          refine J_st (fun σ_25 eσ_25 => ?_)
          have h := h σ_25 eσ_25
          obtain ⟨x7_26, ex7_26⟩ : ∃ z : Int32, z = x7 + (nI 1) := ⟨_, rfl⟩
          have h := h x7_26 ex7_26
          refine J_iinc F (v := x7_26) (L' := [(7, .int x7_26), (10, .int x10_22), (9, .int r_8), (6, .int x6_7), (8, .int x8_4), (0, .ref (gb G + 176)), (1, .ref (gb G + a1)), (3, .int x3), (4, .int x4), (5, .int x5)]) 9 dX7_lookFar_143 rfl (by rw [ki_1, ex7_26]) (by decide) rfl ?_
          refine J_goto F (tgt := 43) dX7_lookFar_146 (by decide) ?_
          refine J_sub [5, 6, 7, 8, 9, 3, 0] rfl ?_
          exact i43 _ _ _ h
set_option maxRecDepth 20000 in
set_option maxHeartbeats 4000000 in
theorem wk_X7_lookFar_34 {p : Program} {l : Launch} {e : Env} {s : State} {m : MethodId} {args : Array Value} {below : List Frame} {meth : Method} {c : Code} {G : Gp} {σ : St} {a1 : Nat} {x3 : Int32} {x4 : Int32} {x5 : Int32}  {Q : St → Prop} (F : FX p s m args meth c cX7_lookFar 11 none RX7 G) (y1 : lay a1 = (4, 0))  (h : wp_X7_lookFar_34 σ a1 x3 x4 x5 Q) : J p l e (rmF 2 43) s m args below meth c 11 G (MQ below (QQ G (qV Q)) args s 0 0 (fr G)) 0 0 34 [(0, .ref (gb G + 176)), (1, .ref (gb G + a1)), (3, .int x3), (4, .int x4), (5, .int x5)] [] σ := by
  unfold wp_X7_lookFar_34 at h
  refine J_aln F 1 dX7_lookFar_34 rfl rfl ?_
  refine J_callVi F (As := []) (st := []) (C_X4_zonesOfAll l G a1 y1 h) (ci := 4) y1 (by decide) rfl rfl lm_X7_29 li_X4_zonesOfAll ls_X4_zonesOfAll ini_X4 lc_X4_zonesOfAll hd_X4_zonesOfAll (by decide) (Nat.le_of_ble_eq_true rfl) (by decide) rfl dX7_lookFar_35 (fun r_27 σ_28 hh => ?_)
  clear h
  obtain ⟨e9, h⟩ := hh
  subst σ_28
  refine J_is F (L' := [(6, .int r_27), (0, .ref (gb G + 176)), (1, .ref (gb G + a1)), (3, .int x3), (4, .int x4), (5, .int x5)]) dX7_lookFar_38 (by decide) rfl ?_
  refine J_ic F dX7_lookFar_40 ki_1 ?_
  refine J_is F (L' := [(7, .int (nI 1)), (6, .int r_27), (0, .ref (gb G + 176)), (1, .ref (gb G + a1)), (3, .int x3), (4, .int x4), (5, .int x5)]) dX7_lookFar_41 (by decide) rfl ?_
  refine J_sub [2, 3, 4, 5, 6, 1, 0] rfl ?_
  obtain ⟨n9, h⟩ := h
  exact wk_X7_lookFar_43 F y1 n9 _ _ _ h
set_option maxRecDepth 20000 in
set_option maxHeartbeats 4000000 in
theorem wk_X7_lookFar_9 {p : Program} {l : Launch} {e : Env} {s : State} {m : MethodId} {args : Array Value} {below : List Frame} {meth : Method} {c : Code} {G : Gp} {a1 : Nat} {x3 : Int32} {x4 : Int32} {x5 : Int32}  {Q : St → Prop} (F : FX p s m args meth c cX7_lookFar 11 none RX7 G) (y1 : lay a1 = (4, 0))  : ∀ (n9 : Nat) (σ : St) (x6 : Int32), LP2 (wp_X7_lookFar_9 a1 x3 x4 x5 Q) n9 σ x6 → J p l e (rmF 2 43) s m args below meth c 11 G (MQ below (QQ G (qV Q)) args s 0 0 (fr G)) 0 0 9 [(0, .ref (gb G + 176)), (1, .ref (gb G + a1)), (3, .int x3), (4, .int x4), (5, .int x5), (6, .int x6)] [] σ := by
  intro n9
  induction n9 with
  | zero => intro σ x6 h; exact h.elim
  | succ n9 i9 =>
    intro σ x6 h
    have h : wp_X7_lookFar_9 a1 x3 x4 x5 Q (LP2 (wp_X7_lookFar_9 a1 x3 x4 x5 Q) n9) σ x6 := h
    unfold wp_X7_lookFar_9 at h
    refine J_il F 5 dX7_lookFar_9 rfl ?_
    refine J_bi F dX7_lookFar_11 kb_10 ?_
    refine J_cge F (tgt := 34) dX7_lookFar_13 (by decide) (fun c_29 => ?_) (fun c_29 => ?_)
    · have h := h.1 c_29
      refine J_sub [0, 1, 2, 3, 4] rfl ?_
      exact wk_X7_lookFar_34 F y1 h
    · have h := h.2 c_29
      refine J_aln F 0 dX7_lookFar_16 rfl rfl ?_
      refine J_gfa F (ci := 7) 1 rfl inX7 ly_176 (by decide) (by decide) rfl lf_X7_15 rfl dX7_lookFar_17 ?_
      refine J_il F 4 dX7_lookFar_20 rfl ?_
      refine J_il F 5 dX7_lookFar_22 rfl ?_
      refine J_iadd F dX7_lookFar_24 ?_
      refine J_bi F dX7_lookFar_25 kb_64 ?_
      obtain ⟨h_30, h⟩ := h
      refine J_iast F ly_178 h_30 dX7_lookFar_27 ?_
      refine J_st (fun σ_31 eσ_31 => ?_)
      have h := h σ_31 eσ_31
      obtain ⟨x6_32, ex6_32⟩ : ∃ z : Int32, z = x6 + (nI 1) := ⟨_, rfl⟩
      have h := h x6_32 ex6_32
      refine J_iinc F (v := x6_32) (L' := [(6, .int x6_32), (0, .ref (gb G + 176)), (1, .ref (gb G + a1)), (3, .int x3), (4, .int x4), (5, .int x5)]) 5 dX7_lookFar_28 rfl (by rw [ki_1, ex6_32]) (by decide) rfl ?_
      refine J_goto F (tgt := 9) dX7_lookFar_31 (by decide) ?_
      refine J_sub [1, 2, 3, 4, 5, 0] rfl ?_
      exact i9 _ _ h
set_option maxRecDepth 20000 in
set_option maxHeartbeats 4000000 in
theorem C_X7_lookFar (l : Launch) (G : Gp) (a1 : Nat) (x2 : Int32) (x3 : Int32) (x4 : Int32) (y1 : lay a1 = (4, 0)) {σ : St} {Q : St → Prop} (h : wp_X7_lookFar σ a1 x2 x3 x4 Q) : Cn l yX7_lookFar cX7_lookFar 11 none 2 43 G [.ref (gb G + 176), .ref (gb G + a1), .int x2, .int x3, .int x4] σ (qV Q) := by
  refine Cn_of (L := [(0, .ref (gb G + 176)), (1, .ref (gb G + a1)), (2, .int x2), (3, .int x3), (4, .int x4)]) RX7 (by decide) rfl (Nat.le_of_ble_eq_true rfl) rfl ?_
  intro p e s m below meth c F
  unfold wp_X7_lookFar at h
  refine J_iln F 2 dX7_lookFar_0 rfl rfl ?_
  refine J_bi F dX7_lookFar_1 kb_10 ?_
  refine J_imul F dX7_lookFar_3 ?_
  refine J_top (fun x5_33 ex5_33 => ?_)
  have h := h x5_33 ex5_33
  refine J_is F (L' := [(5, .int x5_33), (0, .ref (gb G + 176)), (1, .ref (gb G + a1)), (2, .int x2), (3, .int x3), (4, .int x4)]) dX7_lookFar_4 (by decide) rfl ?_
  refine J_ic F dX7_lookFar_6 ki_0 ?_
  refine J_is F (L' := [(6, .int (nI 0)), (5, .int x5_33), (0, .ref (gb G + 176)), (1, .ref (gb G + a1)), (2, .int x2), (3, .int x3), (4, .int x4)]) dX7_lookFar_7 (by decide) rfl ?_
  refine J_sub [2, 3, 5, 6, 1, 0] rfl ?_
  obtain ⟨n9, h⟩ := h
  exact wk_X7_lookFar_9 F y1 n9 _ _ h
theorem dX7_nodeNearerThan_0 : decode cX7_nodeNearerThan 0 = .ok (.iload_n 1, 1) := by decide +kernel
theorem dX7_nodeNearerThan_1 : decode cX7_nodeNearerThan 1 = .ok (.istore 5, 2) := by decide +kernel
theorem dX7_nodeNearerThan_3 : decode cX7_nodeNearerThan 3 = .ok (.iconst (-1), 1) := by decide +kernel
theorem dX7_nodeNearerThan_4 : decode cX7_nodeNearerThan 4 = .ok (.istore 6, 2) := by decide +kernel
theorem dX7_nodeNearerThan_6 : decode cX7_nodeNearerThan 6 = .ok (.iconst 0, 1) := by decide +kernel
theorem dX7_nodeNearerThan_7 : decode cX7_nodeNearerThan 7 = .ok (.istore 7, 2) := by decide +kernel
theorem dX7_nodeNearerThan_9 : decode cX7_nodeNearerThan 9 = .ok (.iload 7, 2) := by decide +kernel
theorem dX7_nodeNearerThan_11 : decode cX7_nodeNearerThan 11 = .ok (.iconst 3, 1) := by decide +kernel
theorem dX7_nodeNearerThan_12 : decode cX7_nodeNearerThan 12 = .ok (.if_icmp .ge 102, 3) := by decide +kernel
theorem dX7_nodeNearerThan_15 : decode cX7_nodeNearerThan 15 = .ok (.iload_n 3, 1) := by decide +kernel
theorem dX7_nodeNearerThan_16 : decode cX7_nodeNearerThan 16 = .ok (.iload 7, 2) := by decide +kernel
theorem dX7_nodeNearerThan_18 : decode cX7_nodeNearerThan 18 = .ok (.ishr, 1) := by decide +kernel
theorem dX7_nodeNearerThan_19 : decode cX7_nodeNearerThan 19 = .ok (.iconst 1, 1) := by decide +kernel
theorem dX7_nodeNearerThan_20 : decode cX7_nodeNearerThan 20 = .ok (.iand, 1) := by decide +kernel
theorem dX7_nodeNearerThan_21 : decode cX7_nodeNearerThan 21 = .ok (.ifCond .eq 21, 3) := by decide +kernel
theorem dX7_nodeNearerThan_24 : decode cX7_nodeNearerThan 24 = .ok (.aload_n 0, 1) := by decide +kernel
theorem dX7_nodeNearerThan_25 : decode cX7_nodeNearerThan 25 = .ok (.getfield 9, 3) := by decide +kernel
theorem dX7_nodeNearerThan_28 : decode cX7_nodeNearerThan 28 = .ok (.iload 7, 2) := by decide +kernel
theorem dX7_nodeNearerThan_30 : decode cX7_nodeNearerThan 30 = .ok (.bipush 10, 2) := by decide +kernel
theorem dX7_nodeNearerThan_32 : decode cX7_nodeNearerThan 32 = .ok (.imul, 1) := by decide +kernel
theorem dX7_nodeNearerThan_33 : decode cX7_nodeNearerThan 33 = .ok (.iload_n 2, 1) := by decide +kernel
theorem dX7_nodeNearerThan_34 : decode cX7_nodeNearerThan 34 = .ok (.iadd, 1) := by decide +kernel
theorem dX7_nodeNearerThan_35 : decode cX7_nodeNearerThan 35 = .ok (.iaload, 1) := by decide +kernel
theorem dX7_nodeNearerThan_36 : decode cX7_nodeNearerThan 36 = .ok (.iload 4, 2) := by decide +kernel
theorem dX7_nodeNearerThan_38 : decode cX7_nodeNearerThan 38 = .ok (.iand, 1) := by decide +kernel
theorem dX7_nodeNearerThan_39 : decode cX7_nodeNearerThan 39 = .ok (.goto 4, 3) := by decide +kernel
theorem dX7_nodeNearerThan_42 : decode cX7_nodeNearerThan 42 = .ok (.iconst 0, 1) := by decide +kernel
theorem dX7_nodeNearerThan_43 : decode cX7_nodeNearerThan 43 = .ok (.istore 8, 2) := by decide +kernel
theorem dX7_nodeNearerThan_45 : decode cX7_nodeNearerThan 45 = .ok (.iconst 0, 1) := by decide +kernel
theorem dX7_nodeNearerThan_46 : decode cX7_nodeNearerThan 46 = .ok (.istore 9, 2) := by decide +kernel
theorem dX7_nodeNearerThan_48 : decode cX7_nodeNearerThan 48 = .ok (.iload 9, 2) := by decide +kernel
theorem dX7_nodeNearerThan_50 : decode cX7_nodeNearerThan 50 = .ok (.bipush 10, 2) := by decide +kernel
theorem dX7_nodeNearerThan_52 : decode cX7_nodeNearerThan 52 = .ok (.if_icmp .ge 56, 3) := by decide +kernel
theorem dX7_nodeNearerThan_55 : decode cX7_nodeNearerThan 55 = .ok (.iload 8, 2) := by decide +kernel
theorem dX7_nodeNearerThan_57 : decode cX7_nodeNearerThan 57 = .ok (.iload 9, 2) := by decide +kernel
theorem dX7_nodeNearerThan_59 : decode cX7_nodeNearerThan 59 = .ok (.ishr, 1) := by decide +kernel
theorem dX7_nodeNearerThan_60 : decode cX7_nodeNearerThan 60 = .ok (.iconst 1, 1) := by decide +kernel
theorem dX7_nodeNearerThan_61 : decode cX7_nodeNearerThan 61 = .ok (.iand, 1) := by decide +kernel
theorem dX7_nodeNearerThan_62 : decode cX7_nodeNearerThan 62 = .ok (.ifCond .eq 40, 3) := by decide +kernel
theorem dX7_nodeNearerThan_65 : decode cX7_nodeNearerThan 65 = .ok (.aload_n 0, 1) := by decide +kernel
theorem dX7_nodeNearerThan_66 : decode cX7_nodeNearerThan 66 = .ok (.getfield 15, 3) := by decide +kernel
theorem dX7_nodeNearerThan_69 : decode cX7_nodeNearerThan 69 = .ok (.iload 7, 2) := by decide +kernel
theorem dX7_nodeNearerThan_71 : decode cX7_nodeNearerThan 71 = .ok (.bipush 10, 2) := by decide +kernel
theorem dX7_nodeNearerThan_73 : decode cX7_nodeNearerThan 73 = .ok (.imul, 1) := by decide +kernel
theorem dX7_nodeNearerThan_74 : decode cX7_nodeNearerThan 74 = .ok (.iload 9, 2) := by decide +kernel
theorem dX7_nodeNearerThan_76 : decode cX7_nodeNearerThan 76 = .ok (.iadd, 1) := by decide +kernel
theorem dX7_nodeNearerThan_77 : decode cX7_nodeNearerThan 77 = .ok (.iaload, 1) := by decide +kernel
theorem dX7_nodeNearerThan_78 : decode cX7_nodeNearerThan 78 = .ok (.iload 5, 2) := by decide +kernel
theorem dX7_nodeNearerThan_80 : decode cX7_nodeNearerThan 80 = .ok (.if_icmp .ge 22, 3) := by decide +kernel
theorem dX7_nodeNearerThan_83 : decode cX7_nodeNearerThan 83 = .ok (.aload_n 0, 1) := by decide +kernel
theorem dX7_nodeNearerThan_84 : decode cX7_nodeNearerThan 84 = .ok (.getfield 15, 3) := by decide +kernel
theorem dX7_nodeNearerThan_87 : decode cX7_nodeNearerThan 87 = .ok (.iload 7, 2) := by decide +kernel
theorem dX7_nodeNearerThan_89 : decode cX7_nodeNearerThan 89 = .ok (.bipush 10, 2) := by decide +kernel
theorem dX7_nodeNearerThan_91 : decode cX7_nodeNearerThan 91 = .ok (.imul, 1) := by decide +kernel
theorem dX7_nodeNearerThan_92 : decode cX7_nodeNearerThan 92 = .ok (.iload 9, 2) := by decide +kernel
theorem dX7_nodeNearerThan_94 : decode cX7_nodeNearerThan 94 = .ok (.iadd, 1) := by decide +kernel
theorem dX7_nodeNearerThan_95 : decode cX7_nodeNearerThan 95 = .ok (.iaload, 1) := by decide +kernel
theorem dX7_nodeNearerThan_96 : decode cX7_nodeNearerThan 96 = .ok (.istore 5, 2) := by decide +kernel
theorem dX7_nodeNearerThan_98 : decode cX7_nodeNearerThan 98 = .ok (.iload 9, 2) := by decide +kernel
theorem dX7_nodeNearerThan_100 : decode cX7_nodeNearerThan 100 = .ok (.istore 6, 2) := by decide +kernel
theorem dX7_nodeNearerThan_102 : decode cX7_nodeNearerThan 102 = .ok (.iinc 9 1, 3) := by decide +kernel
theorem dX7_nodeNearerThan_105 : decode cX7_nodeNearerThan 105 = .ok (.goto (-57), 3) := by decide +kernel
theorem dX7_nodeNearerThan_108 : decode cX7_nodeNearerThan 108 = .ok (.iinc 7 1, 3) := by decide +kernel
theorem dX7_nodeNearerThan_111 : decode cX7_nodeNearerThan 111 = .ok (.goto (-102), 3) := by decide +kernel
theorem dX7_nodeNearerThan_114 : decode cX7_nodeNearerThan 114 = .ok (.iload 6, 2) := by decide +kernel
theorem dX7_nodeNearerThan_116 : decode cX7_nodeNearerThan 116 = .ok (.ireturn, 1) := by decide +kernel
set_option maxRecDepth 20000 in
set_option maxHeartbeats 4000000 in
theorem wk_X7_nodeNearerThan_48 {p : Program} {l : Launch} {e : Env} {s : State} {m : MethodId} {args : Array Value} {below : List Frame} {meth : Method} {c : Code} {G : Gp} {σ : St} {x2 : Int32} {x3 : Int32} {x4 : Int32} {x7 : Int32} {x8 : Int32} {ih9 : Int32 → Int32 → Int32 → Prop} {Q : Int32 → Prop} (F : FX p s m args meth c cX7_nodeNearerThan 10 (some .int) RX7 G)  (i9 : ∀ (x5 : Int32) (x6 : Int32) (x7 : Int32), ih9 x5 x6 x7 → J p l e (rmF 0 0) s m args below meth c 10 G (MQ below (QQ G (qI (fun r σ' => σ' = σ ∧ Q r))) args s 0 0 (fr G)) 0 0 9 [(0, .ref (gb G + 176)), (2, .int x2), (3, .int x3), (4, .int x4), (5, .int x5), (6, .int x6), (7, .int x7)] [] σ) : ∀ (n9 : Nat) (x5 : Int32) (x6 : Int32) (x9 : Int32), LP3 (wp_X7_nodeNearerThan_48 σ x2 x3 x4 x7 x8 ih9 Q) n9 x5 x6 x9 → J p l e (rmF 0 0) s m args below meth c 10 G (MQ below (QQ G (qI (fun r σ' => σ' = σ ∧ Q r))) args s 0 0 (fr G)) 0 0 48 [(0, .ref (gb G + 176)), (2, .int x2), (3, .int x3), (4, .int x4), (5, .int x5), (6, .int x6), (7, .int x7), (8, .int x8), (9, .int x9)] [] σ := by
  intro n9
  induction n9 with
  | zero => intro x5 x6 x9 h; exact h.elim
  | succ n9 i48 =>
    intro x5 x6 x9 h
    have h : wp_X7_nodeNearerThan_48 σ x2 x3 x4 x7 x8 ih9 Q (LP3 (wp_X7_nodeNearerThan_48 σ x2 x3 x4 x7 x8 ih9 Q) n9) x5 x6 x9 := h
    unfold wp_X7_nodeNearerThan_48 at h
    refine J_il F 8 dX7_nodeNearerThan_48 rfl ?_
    refine J_bi F dX7_nodeNearerThan_50 kb_10 ?_
    refine J_cge F (tgt := 108) dX7_nodeNearerThan_52 (by decide) (fun c_1 => ?_) (fun c_1 => ?_)
    · have h := h.1 c_1
      obtain ⟨x7_2, ex7_2⟩ : ∃ z : Int32, z = x7 + (nI 1) := ⟨_, rfl⟩
      have h := h x7_2 ex7_2
      refine J_iinc F (v := x7_2) (L' := [(7, .int x7_2), (0, .ref (gb G + 176)), (2, .int x2), (3, .int x3), (4, .int x4), (5, .int x5), (6, .int x6), (8, .int x8), (9, .int x9)]) 6 dX7_nodeNearerThan_108 rfl (by rw [ki_1, ex7_2]) (by decide) rfl ?_
      refine J_goto F (tgt := 9) dX7_nodeNearerThan_111 (by decide) ?_
      refine J_sub [1, 2, 3, 4, 5, 6, 0] rfl ?_
      exact i9 _ _ _ h
    · have h := h.2 c_1
      refine J_il F 7 dX7_nodeNearerThan_55 rfl ?_
      refine J_il F 8 dX7_nodeNearerThan_57 rfl ?_
      refine J_ishr F dX7_nodeNearerThan_59 ?_
      refine J_ic F dX7_nodeNearerThan_60 ki_1 ?_
      refine J_iand F dX7_nodeNearerThan_61 ?_
      refine J_zeq F (tgt := 102) dX7_nodeNearerThan_62 (by decide) (fun c_3 => ?_) (fun c_3 => ?_)
      · have h := h.1 c_3
        obtain ⟨x9_4, ex9_4⟩ : ∃ z : Int32, z = x9 + (nI 1) := ⟨_, rfl⟩
        have h := h x9_4 ex9_4
        refine J_iinc F (v := x9_4) (L' := [(9, .int x9_4), (0, .ref (gb G + 176)), (2, .int x2), (3, .int x3), (4, .int x4), (5, .int x5), (6, .int x6), (7, .int x7), (8, .int x8)]) 8 dX7_nodeNearerThan_102 rfl (by rw [ki_1, ex9_4]) (by decide) rfl ?_
        refine J_goto F (tgt := 48) dX7_nodeNearerThan_105 (by decide) ?_
        refine J_sub [1, 2, 3, 4, 5, 6, 7, 8, 0] rfl ?_
        exact i48 _ _ _ h
      · have h := h.2 c_3
        refine J_aln F 0 dX7_nodeNearerThan_65 rfl rfl ?_
        refine J_gfa F (ci := 7) 1 rfl inX7 ly_176 (by decide) (by decide) rfl lf_X7_15 rfl dX7_nodeNearerThan_66 ?_
        refine J_il F 6 dX7_nodeNearerThan_69 rfl ?_
        refine J_bi F dX7_nodeNearerThan_71 kb_10 ?_
        refine J_imul F dX7_nodeNearerThan_73 ?_
        refine J_il F 8 dX7_nodeNearerThan_74 rfl ?_
        refine J_iadd F dX7_nodeNearerThan_76 ?_
        obtain ⟨h_5, h⟩ := h
        refine J_iald F ly_178 h_5 dX7_nodeNearerThan_77 ?_
        refine J_il F 4 dX7_nodeNearerThan_78 rfl ?_
        refine J_cge F (tgt := 102) dX7_nodeNearerThan_80 (by decide) (fun c_6 => ?_) (fun c_6 => ?_)
        · have h := h.1 c_6
          obtain ⟨x9_7, ex9_7⟩ : ∃ z : Int32, z = x9 + (nI 1) := ⟨_, rfl⟩
          have h := h x9_7 ex9_7
          refine J_iinc F (v := x9_7) (L' := [(9, .int x9_7), (0, .ref (gb G + 176)), (2, .int x2), (3, .int x3), (4, .int x4), (5, .int x5), (6, .int x6), (7, .int x7), (8, .int x8)]) 8 dX7_nodeNearerThan_102 rfl (by rw [ki_1, ex9_7]) (by decide) rfl ?_
          refine J_goto F (tgt := 48) dX7_nodeNearerThan_105 (by decide) ?_
          refine J_sub [1, 2, 3, 4, 5, 6, 7, 8, 0] rfl ?_
          exact i48 _ _ _ h
        · have h := h.2 c_6
          refine J_aln F 0 dX7_nodeNearerThan_83 rfl rfl ?_
          refine J_gfa F (ci := 7) 1 rfl inX7 ly_176 (by decide) (by decide) rfl lf_X7_15 rfl dX7_nodeNearerThan_84 ?_
          refine J_il F 6 dX7_nodeNearerThan_87 rfl ?_
          refine J_bi F dX7_nodeNearerThan_89 kb_10 ?_
          refine J_imul F dX7_nodeNearerThan_91 ?_
          refine J_il F 8 dX7_nodeNearerThan_92 rfl ?_
          refine J_iadd F dX7_nodeNearerThan_94 ?_
          obtain ⟨h_8, h⟩ := h
          refine J_iald F ly_178 h_8 dX7_nodeNearerThan_95 ?_
          refine J_top (fun x5_9 ex5_9 => ?_)
          have h := h x5_9 ex5_9
          refine J_is F (L' := [(5, .int x5_9), (0, .ref (gb G + 176)), (2, .int x2), (3, .int x3), (4, .int x4), (6, .int x6), (7, .int x7), (8, .int x8), (9, .int x9)]) dX7_nodeNearerThan_96 (by decide) rfl ?_
          refine J_il F 8 dX7_nodeNearerThan_98 rfl ?_
          refine J_is F (L' := [(6, .int x9), (5, .int x5_9), (0, .ref (gb G + 176)), (2, .int x2), (3, .int x3), (4, .int x4), (7, .int x7), (8, .int x8), (9, .int x9)]) dX7_nodeNearerThan_100 (by decide) rfl ?_
          obtain ⟨x9_10, ex9_10⟩ : ∃ z : Int32, z = x9 + (nI 1) := ⟨_, rfl⟩
          have h := h x9_10 ex9_10
          refine J_iinc F (v := x9_10) (L' := [(9, .int x9_10), (6, .int x9), (5, .int x5_9), (0, .ref (gb G + 176)), (2, .int x2), (3, .int x3), (4, .int x4), (7, .int x7), (8, .int x8)]) 8 dX7_nodeNearerThan_102 rfl (by rw [ki_1, ex9_10]) (by decide) rfl ?_
          refine J_goto F (tgt := 48) dX7_nodeNearerThan_105 (by decide) ?_
          refine J_sub [3, 4, 5, 6, 2, 1, 7, 8, 0] rfl ?_
          exact i48 _ _ _ h
set_option maxRecDepth 20000 in
set_option maxHeartbeats 4000000 in
theorem wk_X7_nodeNearerThan_9 {p : Program} {l : Launch} {e : Env} {s : State} {m : MethodId} {args : Array Value} {below : List Frame} {meth : Method} {c : Code} {G : Gp} {σ : St} {x2 : Int32} {x3 : Int32} {x4 : Int32}  {Q : Int32 → Prop} (F : FX p s m args meth c cX7_nodeNearerThan 10 (some .int) RX7 G)   : ∀ (n9 : Nat) (x5 : Int32) (x6 : Int32) (x7 : Int32), LP3 (wp_X7_nodeNearerThan_9 σ x2 x3 x4 Q) n9 x5 x6 x7 → J p l e (rmF 0 0) s m args below meth c 10 G (MQ below (QQ G (qI (fun r σ' => σ' = σ ∧ Q r))) args s 0 0 (fr G)) 0 0 9 [(0, .ref (gb G + 176)), (2, .int x2), (3, .int x3), (4, .int x4), (5, .int x5), (6, .int x6), (7, .int x7)] [] σ := by
  intro n9
  induction n9 with
  | zero => intro x5 x6 x7 h; exact h.elim
  | succ n9 i9 =>
    intro x5 x6 x7 h
    have h : wp_X7_nodeNearerThan_9 σ x2 x3 x4 Q (LP3 (wp_X7_nodeNearerThan_9 σ x2 x3 x4 Q) n9) x5 x6 x7 := h
    unfold wp_X7_nodeNearerThan_9 at h
    refine J_il F 6 dX7_nodeNearerThan_9 rfl ?_
    refine J_ic F dX7_nodeNearerThan_11 ki_3 ?_
    refine J_cge F (tgt := 114) dX7_nodeNearerThan_12 (by decide) (fun c_11 => ?_) (fun c_11 => ?_)
    · have h := h.1 c_11
      refine J_il F 5 dX7_nodeNearerThan_114 rfl ?_
      exact J_reti F ⟨_, rfl, rfl, h⟩ dX7_nodeNearerThan_116
    · have h := h.2 c_11
      refine J_iln F 2 dX7_nodeNearerThan_15 rfl rfl ?_
      refine J_il F 6 dX7_nodeNearerThan_16 rfl ?_
      refine J_ishr F dX7_nodeNearerThan_18 ?_
      refine J_ic F dX7_nodeNearerThan_19 ki_1 ?_
      refine J_iand F dX7_nodeNearerThan_20 ?_
      refine J_zeq F (tgt := 42) dX7_nodeNearerThan_21 (by decide) (fun c_12 => ?_) (fun c_12 => ?_)
      · have h := h.1 c_12
        refine J_ic F dX7_nodeNearerThan_42 ki_0 ?_
        refine J_is F (L' := [(8, .int (nI 0)), (0, .ref (gb G + 176)), (2, .int x2), (3, .int x3), (4, .int x4), (5, .int x5), (6, .int x6), (7, .int x7)]) dX7_nodeNearerThan_43 (by decide) rfl ?_
        refine J_ic F dX7_nodeNearerThan_45 ki_0 ?_
        refine J_is F (L' := [(9, .int (nI 0)), (8, .int (nI 0)), (0, .ref (gb G + 176)), (2, .int x2), (3, .int x3), (4, .int x4), (5, .int x5), (6, .int x6), (7, .int x7)]) dX7_nodeNearerThan_46 (by decide) rfl ?_
        refine J_sub [2, 3, 4, 5, 6, 7, 8, 1, 0] rfl ?_
        obtain ⟨n9, h⟩ := h
        exact wk_X7_nodeNearerThan_48 F i9 n9 _ _ _ h
      · have h := h.2 c_12
        refine J_aln F 0 dX7_nodeNearerThan_24 rfl rfl ?_
        refine J_gfa F (ci := 7) 0 rfl inX7 ly_176 (by decide) (by decide) rfl lf_X7_9 rfl dX7_nodeNearerThan_25 ?_
        refine J_il F 6 dX7_nodeNearerThan_28 rfl ?_
        refine J_bi F dX7_nodeNearerThan_30 kb_10 ?_
        refine J_imul F dX7_nodeNearerThan_32 ?_
        refine J_iln F 1 dX7_nodeNearerThan_33 rfl rfl ?_
        refine J_iadd F dX7_nodeNearerThan_34 ?_
        obtain ⟨h_13, h⟩ := h
        refine J_iald F ly_177 h_13 dX7_nodeNearerThan_35 ?_
        refine J_il F 3 dX7_nodeNearerThan_36 rfl ?_
        refine J_iand F dX7_nodeNearerThan_38 ?_
        refine J_goto F (tgt := 43) dX7_nodeNearerThan_39 (by decide) ?_
        refine J_top (fun x8_14 ex8_14 => ?_)
        have h := h x8_14 ex8_14
        refine J_is F (L' := [(8, .int x8_14), (0, .ref (gb G + 176)), (2, .int x2), (3, .int x3), (4, .int x4), (5, .int x5), (6, .int x6), (7, .int x7)]) dX7_nodeNearerThan_43 (by decide) rfl ?_
        refine J_ic F dX7_nodeNearerThan_45 ki_0 ?_
        refine J_is F (L' := [(9, .int (nI 0)), (8, .int x8_14), (0, .ref (gb G + 176)), (2, .int x2), (3, .int x3), (4, .int x4), (5, .int x5), (6, .int x6), (7, .int x7)]) dX7_nodeNearerThan_46 (by decide) rfl ?_
        refine J_sub [2, 3, 4, 5, 6, 7, 8, 1, 0] rfl ?_
        obtain ⟨n9, h⟩ := h
        exact wk_X7_nodeNearerThan_48 F i9 n9 _ _ _ h
set_option maxRecDepth 20000 in
set_option maxHeartbeats 4000000 in
theorem C_X7_nodeNearerThan (l : Launch) (G : Gp) (x1 : Int32) (x2 : Int32) (x3 : Int32) (x4 : Int32)  {σ : St} {Q : Int32 → Prop} (h : wp_X7_nodeNearerThan σ x1 x2 x3 x4 Q) : Cn l yX7_nodeNearerThan cX7_nodeNearerThan 10 (some .int) 0 0 G [.ref (gb G + 176), .int x1, .int x2, .int x3, .int x4] σ (qI (fun r σ' => σ' = σ ∧ Q r)) := by
  refine Cn_of (L := [(0, .ref (gb G + 176)), (1, .int x1), (2, .int x2), (3, .int x3), (4, .int x4)]) RX7 (by decide) rfl (Nat.le_of_ble_eq_true rfl) rfl ?_
  intro p e s m below meth c F
  unfold wp_X7_nodeNearerThan at h
  refine J_iln F 1 dX7_nodeNearerThan_0 rfl rfl ?_
  refine J_is F (L' := [(5, .int x1), (0, .ref (gb G + 176)), (1, .int x1), (2, .int x2), (3, .int x3), (4, .int x4)]) dX7_nodeNearerThan_1 (by decide) rfl ?_
  refine J_ic F dX7_nodeNearerThan_3 ki_m1 ?_
  refine J_is F (L' := [(6, .int (-1)), (5, .int x1), (0, .ref (gb G + 176)), (1, .int x1), (2, .int x2), (3, .int x3), (4, .int x4)]) dX7_nodeNearerThan_4 (by decide) rfl ?_
  refine J_ic F dX7_nodeNearerThan_6 ki_0 ?_
  refine J_is F (L' := [(7, .int (nI 0)), (6, .int (-1)), (5, .int x1), (0, .ref (gb G + 176)), (1, .int x1), (2, .int x2), (3, .int x3), (4, .int x4)]) dX7_nodeNearerThan_7 (by decide) rfl ?_
  refine J_sub [3, 5, 6, 7, 2, 1, 0] rfl ?_
  obtain ⟨n9, h⟩ := h
  exact wk_X7_nodeNearerThan_9 F  n9 _ _ _ h
theorem dX7_follow_0 : decode cX7_follow 0 = .ok (.aload_n 0, 1) := by decide +kernel
theorem dX7_follow_1 : decode cX7_follow 1 = .ok (.iconst 0, 1) := by decide +kernel
theorem dX7_follow_2 : decode cX7_follow 2 = .ok (.putfield 21, 3) := by decide +kernel
theorem dX7_follow_5 : decode cX7_follow 5 = .ok (.aload_n 0, 1) := by decide +kernel
theorem dX7_follow_6 : decode cX7_follow 6 = .ok (.iconst 0, 1) := by decide +kernel
theorem dX7_follow_7 : decode cX7_follow 7 = .ok (.putfield 25, 3) := by decide +kernel
theorem dX7_follow_10 : decode cX7_follow 10 = .ok (.aload_n 0, 1) := by decide +kernel
theorem dX7_follow_11 : decode cX7_follow 11 = .ok (.getfield 18, 3) := by decide +kernel
theorem dX7_follow_14 : decode cX7_follow 14 = .ok (.iconst 0, 1) := by decide +kernel
theorem dX7_follow_15 : decode cX7_follow 15 = .ok (.iload_n 1, 1) := by decide +kernel
theorem dX7_follow_16 : decode cX7_follow 16 = .ok (.iastore, 1) := by decide +kernel
theorem dX7_follow_17 : decode cX7_follow 17 = .ok (.iconst 0, 1) := by decide +kernel
theorem dX7_follow_18 : decode cX7_follow 18 = .ok (.istore 4, 2) := by decide +kernel
theorem dX7_follow_20 : decode cX7_follow 20 = .ok (.iload 4, 2) := by decide +kernel
theorem dX7_follow_22 : decode cX7_follow 22 = .ok (.bipush 10, 2) := by decide +kernel
theorem dX7_follow_24 : decode cX7_follow 24 = .ok (.if_icmp .ge 119, 3) := by decide +kernel
theorem dX7_follow_27 : decode cX7_follow 27 = .ok (.aload_n 0, 1) := by decide +kernel
theorem dX7_follow_28 : decode cX7_follow 28 = .ok (.getfield 18, 3) := by decide +kernel
theorem dX7_follow_31 : decode cX7_follow 31 = .ok (.aload_n 0, 1) := by decide +kernel
theorem dX7_follow_32 : decode cX7_follow 32 = .ok (.getfield 21, 3) := by decide +kernel
theorem dX7_follow_35 : decode cX7_follow 35 = .ok (.iaload, 1) := by decide +kernel
theorem dX7_follow_36 : decode cX7_follow 36 = .ok (.istore 5, 2) := by decide +kernel
theorem dX7_follow_38 : decode cX7_follow 38 = .ok (.bipush 64, 2) := by decide +kernel
theorem dX7_follow_40 : decode cX7_follow 40 = .ok (.istore 6, 2) := by decide +kernel
theorem dX7_follow_42 : decode cX7_follow 42 = .ok (.iconst 0, 1) := by decide +kernel
theorem dX7_follow_43 : decode cX7_follow 43 = .ok (.istore 7, 2) := by decide +kernel
theorem dX7_follow_45 : decode cX7_follow 45 = .ok (.iload 7, 2) := by decide +kernel
theorem dX7_follow_47 : decode cX7_follow 47 = .ok (.iconst 3, 1) := by decide +kernel
theorem dX7_follow_48 : decode cX7_follow 48 = .ok (.if_icmp .ge 38, 3) := by decide +kernel
theorem dX7_follow_51 : decode cX7_follow 51 = .ok (.iload_n 2, 1) := by decide +kernel
theorem dX7_follow_52 : decode cX7_follow 52 = .ok (.iload 7, 2) := by decide +kernel
theorem dX7_follow_54 : decode cX7_follow 54 = .ok (.ishr, 1) := by decide +kernel
theorem dX7_follow_55 : decode cX7_follow 55 = .ok (.iconst 1, 1) := by decide +kernel
theorem dX7_follow_56 : decode cX7_follow 56 = .ok (.iand, 1) := by decide +kernel
theorem dX7_follow_57 : decode cX7_follow 57 = .ok (.ifCond .eq 23, 3) := by decide +kernel
theorem dX7_follow_60 : decode cX7_follow 60 = .ok (.iload 6, 2) := by decide +kernel
theorem dX7_follow_62 : decode cX7_follow 62 = .ok (.aload_n 0, 1) := by decide +kernel
theorem dX7_follow_63 : decode cX7_follow 63 = .ok (.getfield 15, 3) := by decide +kernel
theorem dX7_follow_66 : decode cX7_follow 66 = .ok (.iload 7, 2) := by decide +kernel
theorem dX7_follow_68 : decode cX7_follow 68 = .ok (.bipush 10, 2) := by decide +kernel
theorem dX7_follow_70 : decode cX7_follow 70 = .ok (.imul, 1) := by decide +kernel
theorem dX7_follow_71 : decode cX7_follow 71 = .ok (.iload 5, 2) := by decide +kernel
theorem dX7_follow_73 : decode cX7_follow 73 = .ok (.iadd, 1) := by decide +kernel
theorem dX7_follow_74 : decode cX7_follow 74 = .ok (.iaload, 1) := by decide +kernel
theorem dX7_follow_75 : decode cX7_follow 75 = .ok (.invokestatic 62, 3) := by decide +kernel
theorem dX7_follow_78 : decode cX7_follow 78 = .ok (.istore 6, 2) := by decide +kernel
theorem dX7_follow_80 : decode cX7_follow 80 = .ok (.iinc 7 1, 3) := by decide +kernel
theorem dX7_follow_83 : decode cX7_follow 83 = .ok (.goto (-38), 3) := by decide +kernel
theorem dX7_follow_86 : decode cX7_follow 86 = .ok (.iload 6, 2) := by decide +kernel
theorem dX7_follow_88 : decode cX7_follow 88 = .ok (.ifCond .ne 4, 3) := by decide +kernel
theorem dX7_follow_91 : decode cX7_follow 91 = .ok (.return_, 1) := by decide +kernel
theorem dX7_follow_92 : decode cX7_follow 92 = .ok (.aload_n 0, 1) := by decide +kernel
theorem dX7_follow_93 : decode cX7_follow 93 = .ok (.iload 6, 2) := by decide +kernel
theorem dX7_follow_95 : decode cX7_follow 95 = .ok (.iload 5, 2) := by decide +kernel
theorem dX7_follow_97 : decode cX7_follow 97 = .ok (.iload_n 2, 1) := by decide +kernel
theorem dX7_follow_98 : decode cX7_follow 98 = .ok (.iload_n 3, 1) := by decide +kernel
theorem dX7_follow_99 : decode cX7_follow 99 = .ok (.invokevirtual 67, 3) := by decide +kernel
theorem dX7_follow_102 : decode cX7_follow 102 = .ok (.istore 7, 2) := by decide +kernel
theorem dX7_follow_104 : decode cX7_follow 104 = .ok (.iload 7, 2) := by decide +kernel
theorem dX7_follow_106 : decode cX7_follow 106 = .ok (.iconst (-1), 1) := by decide +kernel
theorem dX7_follow_107 : decode cX7_follow 107 = .ok (.if_icmp .ne 9, 3) := by decide +kernel
theorem dX7_follow_110 : decode cX7_follow 110 = .ok (.aload_n 0, 1) := by decide +kernel
theorem dX7_follow_111 : decode cX7_follow 111 = .ok (.iconst 1, 1) := by decide +kernel
theorem dX7_follow_112 : decode cX7_follow 112 = .ok (.putfield 25, 3) := by decide +kernel
theorem dX7_follow_115 : decode cX7_follow 115 = .ok (.return_, 1) := by decide +kernel
theorem dX7_follow_116 : decode cX7_follow 116 = .ok (.aload_n 0, 1) := by decide +kernel
theorem dX7_follow_117 : decode cX7_follow 117 = .ok (.dup, 1) := by decide +kernel
theorem dX7_follow_118 : decode cX7_follow 118 = .ok (.getfield 21, 3) := by decide +kernel
theorem dX7_follow_121 : decode cX7_follow 121 = .ok (.iconst 1, 1) := by decide +kernel
theorem dX7_follow_122 : decode cX7_follow 122 = .ok (.iadd, 1) := by decide +kernel
theorem dX7_follow_123 : decode cX7_follow 123 = .ok (.putfield 21, 3) := by decide +kernel
theorem dX7_follow_126 : decode cX7_follow 126 = .ok (.aload_n 0, 1) := by decide +kernel
theorem dX7_follow_127 : decode cX7_follow 127 = .ok (.getfield 18, 3) := by decide +kernel
theorem dX7_follow_130 : decode cX7_follow 130 = .ok (.aload_n 0, 1) := by decide +kernel
theorem dX7_follow_131 : decode cX7_follow 131 = .ok (.getfield 21, 3) := by decide +kernel
theorem dX7_follow_134 : decode cX7_follow 134 = .ok (.iload 7, 2) := by decide +kernel
theorem dX7_follow_136 : decode cX7_follow 136 = .ok (.iastore, 1) := by decide +kernel
theorem dX7_follow_137 : decode cX7_follow 137 = .ok (.iinc 4 1, 3) := by decide +kernel
theorem dX7_follow_140 : decode cX7_follow 140 = .ok (.goto (-120), 3) := by decide +kernel
theorem dX7_follow_143 : decode cX7_follow 143 = .ok (.return_, 1) := by decide +kernel
set_option maxRecDepth 20000 in
set_option maxHeartbeats 4000000 in
theorem wk_X7_follow_86 {p : Program} {l : Launch} {e : Env} {s : State} {m : MethodId} {args : Array Value} {below : List Frame} {meth : Method} {c : Code} {G : Gp} {σ : St} {x2 : Int32} {x3 : Int32} {x4 : Int32} {x5 : Int32} {x6 : Int32} {ih20 : St → Int32 → Prop} {Q : St → Prop} (F : FX p s m args meth c cX7_follow 8 none RX7 G)  (i20 : ∀ (σ : St) (x4 : Int32), ih20 σ x4 → J p l e (rmF 1 29) s m args below meth c 8 G (MQ below (QQ G (qV Q)) args s 0 0 (fr G)) 0 0 20 [(0, .ref (gb G + 176)), (2, .int x2), (3, .int x3), (4, .int x4)] [] σ) (h : wp_X7_follow_86 σ x2 x3 x4 x5 x6 ih20 Q) : J p l e (rmF 1 29) s m args below meth c 8 G (MQ below (QQ G (qV Q)) args s 0 0 (fr G)) 0 0 86 [(0, .ref (gb G + 176)), (2, .int x2), (3, .int x3), (4, .int x4), (5, .int x5), (6, .int x6)] [] σ := by
  unfold wp_X7_follow_86 at h
  refine J_il F 5 dX7_follow_86 rfl ?_
  refine J_zne F (tgt := 92) dX7_follow_88 (by decide) (fun c_1 => ?_) (fun c_1 => ?_)
  · have h := h.1 c_1
    refine J_aln F 0 dX7_follow_92 rfl rfl ?_
    refine J_il F 5 dX7_follow_93 rfl ?_
    refine J_il F 4 dX7_follow_95 rfl ?_
    refine J_iln F 1 dX7_follow_97 rfl rfl ?_
    refine J_iln F 2 dX7_follow_98 rfl rfl ?_
    refine J_callVi F (As := [.int x6, .int x5, .int x2, .int x3]) (st := []) (C_X7_nodeNearerThan l G x6 x5 x2 x3  h) (ci := 7) ly_176 (by decide) rfl rfl lm_X7_67 li_X7_nodeNearerThan ls_X7_nodeNearerThan ini_X7 lc_X7_nodeNearerThan hd_X7_nodeNearerThan (by decide) (Nat.le_of_ble_eq_true rfl) (by decide) rfl dX7_follow_99 (fun r_2 σ_3 hh => ?_)
    clear h
    obtain ⟨e9, h⟩ := hh
    subst σ_3
    refine J_is F (L' := [(7, .int r_2), (0, .ref (gb G + 176)), (2, .int x2), (3, .int x3), (4, .int x4), (5, .int x5), (6, .int x6)]) dX7_follow_102 (by decide) rfl ?_
    refine J_il F 0 dX7_follow_104 rfl ?_
    refine J_ic F dX7_follow_106 ki_m1 ?_
    refine J_cne F (tgt := 116) dX7_follow_107 (by decide) (fun c_4 => ?_) (fun c_4 => ?_)
    · have h := h.1 c_4
      refine J_aln F 1 dX7_follow_116 rfl rfl ?_
      refine J_dup F dX7_follow_117 rfl ?_
      refine J_gfi F (ci := 7) 3 rfl inX7 ly_176 (by decide) (by decide) rfl lf_X7_21 rfl dX7_follow_118 ?_
      refine J_ic F dX7_follow_121 ki_1 ?_
      refine J_iadd F dX7_follow_122 ?_
      refine J_pfi F (ci := 7) 3 rfl inX7 tyX7 tyX7_ok nmX7 ly_176 (by decide) (by decide) rfl lf_X7_21 rfl rfl (tyX7_ok 3 (by decide)) rfl rfl dX7_follow_123 ?_
      refine J_st (fun σ_5 eσ_5 => ?_)
      have h := h σ_5 eσ_5
      refine J_aln F 1 dX7_follow_126 rfl rfl ?_
      refine J_gfa F (ci := 7) 2 rfl inX7 ly_176 (by decide) (by decide) rfl lf_X7_18 rfl dX7_follow_127 ?_
      refine J_aln F 1 dX7_follow_130 rfl rfl ?_
      refine J_gfi F (ci := 7) 3 rfl inX7 ly_176 (by decide) (by decide) rfl lf_X7_21 rfl dX7_follow_131 ?_
      refine J_il F 0 dX7_follow_134 rfl ?_
      obtain ⟨h_6, h⟩ := h
      refine J_iast F ly_179 h_6 dX7_follow_136 ?_
      refine J_st (fun σ_7 eσ_7 => ?_)
      have h := h σ_7 eσ_7
      obtain ⟨x4_8, ex4_8⟩ : ∃ z : Int32, z = x4 + (nI 1) := ⟨_, rfl⟩
      have h := h x4_8 ex4_8
      refine J_iinc F (v := x4_8) (L' := [(4, .int x4_8), (7, .int r_2), (0, .ref (gb G + 176)), (2, .int x2), (3, .int x3), (5, .int x5), (6, .int x6)]) 4 dX7_follow_137 rfl (by rw [ki_1, ex4_8]) (by decide) rfl ?_
      refine J_goto F (tgt := 20) dX7_follow_140 (by decide) ?_
      refine J_sub [2, 3, 4, 0] rfl ?_
      exact i20 _ _ h
    · have h := h.2 c_4
      refine J_aln F 1 dX7_follow_110 rfl rfl ?_
      refine J_ic F dX7_follow_111 ki_1 ?_
      refine J_pfi F (ci := 7) 4 rfl inX7 tyX7 tyX7_ok nmX7 ly_176 (by decide) (by decide) rfl lf_X7_25 rfl rfl (tyX7_ok 4 (by decide)) (nz_b (Or.inr rfl)) (nz_f (Or.inr rfl)) dX7_follow_112 ?_
      refine J_st (fun σ_9 eσ_9 => ?_)
      have h := h σ_9 eσ_9
      exact J_retv F ⟨rfl, h⟩ dX7_follow_115
  · have h := h.2 c_1
    exact J_retv F ⟨rfl, h⟩ dX7_follow_91
set_option maxRecDepth 20000 in
set_option maxHeartbeats 4000000 in
theorem wk_X7_follow_45 {p : Program} {l : Launch} {e : Env} {s : State} {m : MethodId} {args : Array Value} {below : List Frame} {meth : Method} {c : Code} {G : Gp} {σ : St} {x2 : Int32} {x3 : Int32} {x4 : Int32} {x5 : Int32} {ih20 : St → Int32 → Prop} {Q : St → Prop} (F : FX p s m args meth c cX7_follow 8 none RX7 G)  (i20 : ∀ (σ : St) (x4 : Int32), ih20 σ x4 → J p l e (rmF 1 29) s m args below meth c 8 G (MQ below (QQ G (qV Q)) args s 0 0 (fr G)) 0 0 20 [(0, .ref (gb G + 176)), (2, .int x2), (3, .int x3), (4, .int x4)] [] σ) : ∀ (n9 : Nat) (x6 : Int32) (x7 : Int32), LP2 (wp_X7_follow_45 σ x2 x3 x4 x5 ih20 Q) n9 x6 x7 → J p l e (rmF 1 29) s m args below meth c 8 G (MQ below (QQ G (qV Q)) args s 0 0 (fr G)) 0 0 45 [(0, .ref (gb G + 176)), (2, .int x2), (3, .int x3), (4, .int x4), (5, .int x5), (6, .int x6), (7, .int x7)] [] σ := by
  intro n9
  induction n9 with
  | zero => intro x6 x7 h; exact h.elim
  | succ n9 i45 =>
    intro x6 x7 h
    have h : wp_X7_follow_45 σ x2 x3 x4 x5 ih20 Q (LP2 (wp_X7_follow_45 σ x2 x3 x4 x5 ih20 Q) n9) x6 x7 := h
    unfold wp_X7_follow_45 at h
    refine J_il F 6 dX7_follow_45 rfl ?_
    refine J_ic F dX7_follow_47 ki_3 ?_
    refine J_cge F (tgt := 86) dX7_follow_48 (by decide) (fun c_10 => ?_) (fun c_10 => ?_)
    · have h := h.1 c_10
      refine J_sub [0, 1, 2, 3, 4, 5] rfl ?_
      exact wk_X7_follow_86 F i20 h
    · have h := h.2 c_10
      refine J_iln F 1 dX7_follow_51 rfl rfl ?_
      refine J_il F 6 dX7_follow_52 rfl ?_
      refine J_ishr F dX7_follow_54 ?_
      refine J_ic F dX7_follow_55 ki_1 ?_
      refine J_iand F dX7_follow_56 ?_
      refine J_zeq F (tgt := 80) dX7_follow_57 (by decide) (fun c_11 => ?_) (fun c_11 => ?_)
      · have h := h.1 c_11
        obtain ⟨x7_12, ex7_12⟩ : ∃ z : Int32, z = x7 + (nI 1) := ⟨_, rfl⟩
        have h := h x7_12 ex7_12
        refine J_iinc F (v := x7_12) (L' := [(7, .int x7_12), (0, .ref (gb G + 176)), (2, .int x2), (3, .int x3), (4, .int x4), (5, .int x5), (6, .int x6)]) 6 dX7_follow_80 rfl (by rw [ki_1, ex7_12]) (by decide) rfl ?_
        refine J_goto F (tgt := 45) dX7_follow_83 (by decide) ?_
        refine J_sub [1, 2, 3, 4, 5, 6, 0] rfl ?_
        exact i45 _ _ h
      · have h := h.2 c_11
        refine J_il F 5 dX7_follow_60 rfl ?_
        refine J_aln F 0 dX7_follow_62 rfl rfl ?_
        refine J_gfa F (ci := 7) 1 rfl inX7 ly_176 (by decide) (by decide) rfl lf_X7_15 rfl dX7_follow_63 ?_
        refine J_il F 6 dX7_follow_66 rfl ?_
        refine J_bi F dX7_follow_68 kb_10 ?_
        refine J_imul F dX7_follow_70 ?_
        refine J_il F 4 dX7_follow_71 rfl ?_
        refine J_iadd F dX7_follow_73 ?_
        obtain ⟨h_13, h⟩ := h
        refine J_iald F ly_178 h_13 dX7_follow_74 ?_
        refine J_mmin F lm_X7_62 st_min ini_Math co_min (by decide) (Nat.le_of_ble_eq_true rfl) (by decide) dX7_follow_75 ?_
        refine J_top (fun x6_14 ex6_14 => ?_)
        have h := h x6_14 ex6_14
        refine J_is F (L' := [(6, .int x6_14), (0, .ref (gb G + 176)), (2, .int x2), (3, .int x3), (4, .int x4), (5, .int x5), (7, .int x7)]) dX7_follow_78 (by decide) rfl ?_
        obtain ⟨x7_15, ex7_15⟩ : ∃ z : Int32, z = x7 + (nI 1) := ⟨_, rfl⟩
        have h := h x7_15 ex7_15
        refine J_iinc F (v := x7_15) (L' := [(7, .int x7_15), (6, .int x6_14), (0, .ref (gb G + 176)), (2, .int x2), (3, .int x3), (4, .int x4), (5, .int x5)]) 6 dX7_follow_80 rfl (by rw [ki_1, ex7_15]) (by decide) rfl ?_
        refine J_goto F (tgt := 45) dX7_follow_83 (by decide) ?_
        refine J_sub [2, 3, 4, 5, 6, 1, 0] rfl ?_
        exact i45 _ _ h
set_option maxRecDepth 20000 in
set_option maxHeartbeats 4000000 in
theorem wk_X7_follow_20 {p : Program} {l : Launch} {e : Env} {s : State} {m : MethodId} {args : Array Value} {below : List Frame} {meth : Method} {c : Code} {G : Gp} {x2 : Int32} {x3 : Int32}  {Q : St → Prop} (F : FX p s m args meth c cX7_follow 8 none RX7 G)   : ∀ (n9 : Nat) (σ : St) (x4 : Int32), LP2 (wp_X7_follow_20 x2 x3 Q) n9 σ x4 → J p l e (rmF 1 29) s m args below meth c 8 G (MQ below (QQ G (qV Q)) args s 0 0 (fr G)) 0 0 20 [(0, .ref (gb G + 176)), (2, .int x2), (3, .int x3), (4, .int x4)] [] σ := by
  intro n9
  induction n9 with
  | zero => intro σ x4 h; exact h.elim
  | succ n9 i20 =>
    intro σ x4 h
    have h : wp_X7_follow_20 x2 x3 Q (LP2 (wp_X7_follow_20 x2 x3 Q) n9) σ x4 := h
    unfold wp_X7_follow_20 at h
    refine J_il F 3 dX7_follow_20 rfl ?_
    refine J_bi F dX7_follow_22 kb_10 ?_
    refine J_cge F (tgt := 143) dX7_follow_24 (by decide) (fun c_16 => ?_) (fun c_16 => ?_)
    · have h := h.1 c_16
      exact J_retv F ⟨rfl, h⟩ dX7_follow_143
    · have h := h.2 c_16
      refine J_aln F 0 dX7_follow_27 rfl rfl ?_
      refine J_gfa F (ci := 7) 2 rfl inX7 ly_176 (by decide) (by decide) rfl lf_X7_18 rfl dX7_follow_28 ?_
      refine J_aln F 0 dX7_follow_31 rfl rfl ?_
      refine J_gfi F (ci := 7) 3 rfl inX7 ly_176 (by decide) (by decide) rfl lf_X7_21 rfl dX7_follow_32 ?_
      obtain ⟨h_17, h⟩ := h
      refine J_iald F ly_179 h_17 dX7_follow_35 ?_
      refine J_top (fun x5_18 ex5_18 => ?_)
      have h := h x5_18 ex5_18
      refine J_is F (L' := [(5, .int x5_18), (0, .ref (gb G + 176)), (2, .int x2), (3, .int x3), (4, .int x4)]) dX7_follow_36 (by decide) rfl ?_
      refine J_bi F dX7_follow_38 kb_64 ?_
      refine J_is F (L' := [(6, .int (nI 64)), (5, .int x5_18), (0, .ref (gb G + 176)), (2, .int x2), (3, .int x3), (4, .int x4)]) dX7_follow_40 (by decide) rfl ?_
      refine J_ic F dX7_follow_42 ki_0 ?_
      refine J_is F (L' := [(7, .int (nI 0)), (6, .int (nI 64)), (5, .int x5_18), (0, .ref (gb G + 176)), (2, .int x2), (3, .int x3), (4, .int x4)]) dX7_follow_43 (by decide) rfl ?_
      refine J_sub [3, 4, 5, 6, 2, 1, 0] rfl ?_
      obtain ⟨n9, h⟩ := h
      exact wk_X7_follow_45 F i20 n9 _ _ h
set_option maxRecDepth 20000 in
set_option maxHeartbeats 4000000 in
theorem C_X7_follow (l : Launch) (G : Gp) (x1 : Int32) (x2 : Int32) (x3 : Int32)  {σ : St} {Q : St → Prop} (h : wp_X7_follow σ x1 x2 x3 Q) : Cn l yX7_follow cX7_follow 8 none 1 29 G [.ref (gb G + 176), .int x1, .int x2, .int x3] σ (qV Q) := by
  refine Cn_of (L := [(0, .ref (gb G + 176)), (1, .int x1), (2, .int x2), (3, .int x3)]) RX7 (by decide) rfl (Nat.le_of_ble_eq_true rfl) rfl ?_
  intro p e s m below meth c F
  unfold wp_X7_follow at h
  refine J_aln F 0 dX7_follow_0 rfl rfl ?_
  refine J_ic F dX7_follow_1 ki_0 ?_
  refine J_pfi F (ci := 7) 3 rfl inX7 tyX7 tyX7_ok nmX7 ly_176 (by decide) (by decide) rfl lf_X7_21 rfl rfl (tyX7_ok 3 (by decide)) rfl rfl dX7_follow_2 ?_
  refine J_st (fun σ_19 eσ_19 => ?_)
  have h := h σ_19 eσ_19
  refine J_aln F 0 dX7_follow_5 rfl rfl ?_
  refine J_ic F dX7_follow_6 ki_0 ?_
  refine J_pfi F (ci := 7) 4 rfl inX7 tyX7 tyX7_ok nmX7 ly_176 (by decide) (by decide) rfl lf_X7_25 rfl rfl (tyX7_ok 4 (by decide)) (nz_b (Or.inl rfl)) (nz_f (Or.inl rfl)) dX7_follow_7 ?_
  refine J_st (fun σ_20 eσ_20 => ?_)
  have h := h σ_20 eσ_20
  refine J_aln F 0 dX7_follow_10 rfl rfl ?_
  refine J_gfa F (ci := 7) 2 rfl inX7 ly_176 (by decide) (by decide) rfl lf_X7_18 rfl dX7_follow_11 ?_
  refine J_ic F dX7_follow_14 ki_0 ?_
  refine J_iln F 1 dX7_follow_15 rfl rfl ?_
  refine J_iastc F ly_179 (by decide) (by decide) dX7_follow_16 ?_
  refine J_st (fun σ_21 eσ_21 => ?_)
  have h := h σ_21 eσ_21
  refine J_ic F dX7_follow_17 ki_0 ?_
  refine J_is F (L' := [(4, .int (nI 0)), (0, .ref (gb G + 176)), (1, .int x1), (2, .int x2), (3, .int x3)]) dX7_follow_18 (by decide) rfl ?_
  refine J_sub [1, 3, 4, 0] rfl ?_
  obtain ⟨n9, h⟩ := h
  exact wk_X7_follow_20 F  n9 _ _ h
theorem dX7_nodesBetween_0 : decode cX7_nodesBetween 0 = .ok (.iconst 0, 1) := by decide +kernel
theorem dX7_nodesBetween_1 : decode cX7_nodesBetween 1 = .ok (.istore_n 1, 1) := by decide +kernel
theorem dX7_nodesBetween_2 : decode cX7_nodesBetween 2 = .ok (.iconst 1, 1) := by decide +kernel
theorem dX7_nodesBetween_3 : decode cX7_nodesBetween 3 = .ok (.istore_n 2, 1) := by decide +kernel
theorem dX7_nodesBetween_4 : decode cX7_nodesBetween 4 = .ok (.iload_n 2, 1) := by decide +kernel
theorem dX7_nodesBetween_5 : decode cX7_nodesBetween 5 = .ok (.aload_n 0, 1) := by decide +kernel
theorem dX7_nodesBetween_6 : decode cX7_nodesBetween 6 = .ok (.getfield 21, 3) := by decide +kernel
theorem dX7_nodesBetween_9 : decode cX7_nodesBetween 9 = .ok (.if_icmp .ge 20, 3) := by decide +kernel
theorem dX7_nodesBetween_12 : decode cX7_nodesBetween 12 = .ok (.iload_n 1, 1) := by decide +kernel
theorem dX7_nodesBetween_13 : decode cX7_nodesBetween 13 = .ok (.iconst 1, 1) := by decide +kernel
theorem dX7_nodesBetween_14 : decode cX7_nodesBetween 14 = .ok (.aload_n 0, 1) := by decide +kernel
theorem dX7_nodesBetween_15 : decode cX7_nodesBetween 15 = .ok (.getfield 18, 3) := by decide +kernel
theorem dX7_nodesBetween_18 : decode cX7_nodesBetween 18 = .ok (.iload_n 2, 1) := by decide +kernel
theorem dX7_nodesBetween_19 : decode cX7_nodesBetween 19 = .ok (.iaload, 1) := by decide +kernel
theorem dX7_nodesBetween_20 : decode cX7_nodesBetween 20 = .ok (.ishl, 1) := by decide +kernel
theorem dX7_nodesBetween_21 : decode cX7_nodesBetween 21 = .ok (.ior, 1) := by decide +kernel
theorem dX7_nodesBetween_22 : decode cX7_nodesBetween 22 = .ok (.istore_n 1, 1) := by decide +kernel
theorem dX7_nodesBetween_23 : decode cX7_nodesBetween 23 = .ok (.iinc 2 1, 3) := by decide +kernel
theorem dX7_nodesBetween_26 : decode cX7_nodesBetween 26 = .ok (.goto (-22), 3) := by decide +kernel
theorem dX7_nodesBetween_29 : decode cX7_nodesBetween 29 = .ok (.iload_n 1, 1) := by decide +kernel
theorem dX7_nodesBetween_30 : decode cX7_nodesBetween 30 = .ok (.ireturn, 1) := by decide +kernel
set_option maxRecDepth 20000 in
set_option maxHeartbeats 4000000 in
theorem wk_X7_nodesBetween_4 {p : Program} {l : Launch} {e : Env} {s : State} {m : MethodId} {args : Array Value} {below : List Frame} {meth : Method} {c : Code} {G : Gp} {σ : St}   {Q : Int32 → Prop} (F : FX p s m args meth c cX7_nodesBetween 3 (some .int) RX7 G)   : ∀ (n9 : Nat) (x1 : Int32) (x2 : Int32), LP2 (wp_X7_nodesBetween_4 σ Q) n9 x1 x2 → J p l e (rmF 0 0) s m args below meth c 3 G (MQ below (QQ G (qI (fun r σ' => σ' = σ ∧ Q r))) args s 0 0 (fr G)) 0 0 4 [(0, .ref (gb G + 176)), (1, .int x1), (2, .int x2)] [] σ := by
  intro n9
  induction n9 with
  | zero => intro x1 x2 h; exact h.elim
  | succ n9 i4 =>
    intro x1 x2 h
    have h : wp_X7_nodesBetween_4 σ Q (LP2 (wp_X7_nodesBetween_4 σ Q) n9) x1 x2 := h
    unfold wp_X7_nodesBetween_4 at h
    refine J_iln F 2 dX7_nodesBetween_4 rfl rfl ?_
    refine J_aln F 0 dX7_nodesBetween_5 rfl rfl ?_
    refine J_gfi F (ci := 7) 3 rfl inX7 ly_176 (by decide) (by decide) rfl lf_X7_21 rfl dX7_nodesBetween_6 ?_
    refine J_cge F (tgt := 29) dX7_nodesBetween_9 (by decide) (fun c_1 => ?_) (fun c_1 => ?_)
    · have h := h.1 c_1
      refine J_iln F 1 dX7_nodesBetween_29 rfl rfl ?_
      exact J_reti F ⟨_, rfl, rfl, h⟩ dX7_nodesBetween_30
    · have h := h.2 c_1
      refine J_iln F 1 dX7_nodesBetween_12 rfl rfl ?_
      refine J_ic F dX7_nodesBetween_13 ki_1 ?_
      refine J_aln F 0 dX7_nodesBetween_14 rfl rfl ?_
      refine J_gfa F (ci := 7) 2 rfl inX7 ly_176 (by decide) (by decide) rfl lf_X7_18 rfl dX7_nodesBetween_15 ?_
      refine J_iln F 2 dX7_nodesBetween_18 rfl rfl ?_
      obtain ⟨h_2, h⟩ := h
      refine J_iald F ly_179 h_2 dX7_nodesBetween_19 ?_
      refine J_ishl F dX7_nodesBetween_20 ?_
      refine J_ior F dX7_nodesBetween_21 ?_
      refine J_top (fun x1_3 ex1_3 => ?_)
      have h := h x1_3 ex1_3
      refine J_isn F (L' := [(1, .int x1_3), (0, .ref (gb G + 176)), (2, .int x2)]) dX7_nodesBetween_22 rfl (by decide) rfl ?_
      obtain ⟨x2_4, ex2_4⟩ : ∃ z : Int32, z = x2 + (nI 1) := ⟨_, rfl⟩
      have h := h x2_4 ex2_4
      refine J_iinc F (v := x2_4) (L' := [(2, .int x2_4), (1, .int x1_3), (0, .ref (gb G + 176))]) 2 dX7_nodesBetween_23 rfl (by rw [ki_1, ex2_4]) (by decide) rfl ?_
      refine J_goto F (tgt := 4) dX7_nodesBetween_26 (by decide) ?_
      refine J_sub [2, 1, 0] rfl ?_
      exact i4 _ _ h
set_option maxRecDepth 20000 in
set_option maxHeartbeats 4000000 in
theorem C_X7_nodesBetween (l : Launch) (G : Gp)   {σ : St} {Q : Int32 → Prop} (h : wp_X7_nodesBetween σ  Q) : Cn l yX7_nodesBetween cX7_nodesBetween 3 (some .int) 0 0 G [.ref (gb G + 176)] σ (qI (fun r σ' => σ' = σ ∧ Q r)) := by
  refine Cn_of (L := [(0, .ref (gb G + 176))]) RX7 (by decide) rfl (Nat.le_of_ble_eq_true rfl) rfl ?_
  intro p e s m below meth c F
  unfold wp_X7_nodesBetween at h
  refine J_ic F dX7_nodesBetween_0 ki_0 ?_
  refine J_isn F (L' := [(1, .int (nI 0)), (0, .ref (gb G + 176))]) dX7_nodesBetween_1 rfl (by decide) rfl ?_
  refine J_ic F dX7_nodesBetween_2 ki_1 ?_
  refine J_isn F (L' := [(2, .int (nI 1)), (1, .int (nI 0)), (0, .ref (gb G + 176))]) dX7_nodesBetween_3 rfl (by decide) rfl ?_
  refine J_sub [2, 1, 0] rfl ?_
  obtain ⟨n9, h⟩ := h
  exact wk_X7_nodesBetween_4 F  n9 _ _ h
theorem dX5_addHinges_0 : decode cX5_addHinges 0 = .ok (.aload_n 0, 1) := by decide +kernel
theorem dX5_addHinges_1 : decode cX5_addHinges 1 = .ok (.getfield 24, 3) := by decide +kernel
theorem dX5_addHinges_4 : decode cX5_addHinges 4 = .ok (.invokevirtual 77, 3) := by decide +kernel
theorem dX5_addHinges_7 : decode cX5_addHinges 7 = .ok (.aload_n 0, 1) := by decide +kernel
theorem dX5_addHinges_8 : decode cX5_addHinges 8 = .ok (.getfield 21, 3) := by decide +kernel
theorem dX5_addHinges_11 : decode cX5_addHinges 11 = .ok (.iconst (-1), 1) := by decide +kernel
theorem dX5_addHinges_12 : decode cX5_addHinges 12 = .ok (.ixor, 1) := by decide +kernel
theorem dX5_addHinges_13 : decode cX5_addHinges 13 = .ok (.iand, 1) := by decide +kernel
theorem dX5_addHinges_14 : decode cX5_addHinges 14 = .ok (.istore 4, 2) := by decide +kernel
theorem dX5_addHinges_16 : decode cX5_addHinges 16 = .ok (.iconst 0, 1) := by decide +kernel
theorem dX5_addHinges_17 : decode cX5_addHinges 17 = .ok (.istore 5, 2) := by decide +kernel
theorem dX5_addHinges_19 : decode cX5_addHinges 19 = .ok (.iload 5, 2) := by decide +kernel
theorem dX5_addHinges_21 : decode cX5_addHinges 21 = .ok (.bipush 10, 2) := by decide +kernel
theorem dX5_addHinges_23 : decode cX5_addHinges 23 = .ok (.if_icmp .ge 63, 3) := by decide +kernel
theorem dX5_addHinges_26 : decode cX5_addHinges 26 = .ok (.iload 4, 2) := by decide +kernel
theorem dX5_addHinges_28 : decode cX5_addHinges 28 = .ok (.iload 5, 2) := by decide +kernel
theorem dX5_addHinges_30 : decode cX5_addHinges 30 = .ok (.ishr, 1) := by decide +kernel
theorem dX5_addHinges_31 : decode cX5_addHinges 31 = .ok (.iconst 1, 1) := by decide +kernel
theorem dX5_addHinges_32 : decode cX5_addHinges 32 = .ok (.iand, 1) := by decide +kernel
theorem dX5_addHinges_33 : decode cX5_addHinges 33 = .ok (.ifCond .eq 47, 3) := by decide +kernel
theorem dX5_addHinges_36 : decode cX5_addHinges 36 = .ok (.aload_n 0, 1) := by decide +kernel
theorem dX5_addHinges_37 : decode cX5_addHinges 37 = .ok (.getfield 24, 3) := by decide +kernel
theorem dX5_addHinges_40 : decode cX5_addHinges 40 = .ok (.iload_n 1, 1) := by decide +kernel
theorem dX5_addHinges_41 : decode cX5_addHinges 41 = .ok (.iload_n 2, 1) := by decide +kernel
theorem dX5_addHinges_42 : decode cX5_addHinges 42 = .ok (.iload_n 3, 1) := by decide +kernel
theorem dX5_addHinges_43 : decode cX5_addHinges 43 = .ok (.iconst 1, 1) := by decide +kernel
theorem dX5_addHinges_44 : decode cX5_addHinges 44 = .ok (.iload 5, 2) := by decide +kernel
theorem dX5_addHinges_46 : decode cX5_addHinges 46 = .ok (.ishl, 1) := by decide +kernel
theorem dX5_addHinges_47 : decode cX5_addHinges 47 = .ok (.iconst (-1), 1) := by decide +kernel
theorem dX5_addHinges_48 : decode cX5_addHinges 48 = .ok (.ixor, 1) := by decide +kernel
theorem dX5_addHinges_49 : decode cX5_addHinges 49 = .ok (.iand, 1) := by decide +kernel
theorem dX5_addHinges_50 : decode cX5_addHinges 50 = .ok (.invokevirtual 58, 3) := by decide +kernel
theorem dX5_addHinges_53 : decode cX5_addHinges 53 = .ok (.aload_n 0, 1) := by decide +kernel
theorem dX5_addHinges_54 : decode cX5_addHinges 54 = .ok (.dup, 1) := by decide +kernel
theorem dX5_addHinges_55 : decode cX5_addHinges 55 = .ok (.getfield 21, 3) := by decide +kernel
theorem dX5_addHinges_58 : decode cX5_addHinges 58 = .ok (.aload_n 0, 1) := by decide +kernel
theorem dX5_addHinges_59 : decode cX5_addHinges 59 = .ok (.getfield 24, 3) := by decide +kernel
theorem dX5_addHinges_62 : decode cX5_addHinges 62 = .ok (.getfield 62, 3) := by decide +kernel
theorem dX5_addHinges_65 : decode cX5_addHinges 65 = .ok (.ifCond .eq 10, 3) := by decide +kernel
theorem dX5_addHinges_68 : decode cX5_addHinges 68 = .ok (.iconst 1, 1) := by decide +kernel
theorem dX5_addHinges_69 : decode cX5_addHinges 69 = .ok (.iload 5, 2) := by decide +kernel
theorem dX5_addHinges_71 : decode cX5_addHinges 71 = .ok (.ishl, 1) := by decide +kernel
theorem dX5_addHinges_72 : decode cX5_addHinges 72 = .ok (.goto 4, 3) := by decide +kernel
theorem dX5_addHinges_75 : decode cX5_addHinges 75 = .ok (.iconst 0, 1) := by decide +kernel
theorem dX5_addHinges_76 : decode cX5_addHinges 76 = .ok (.ior, 1) := by decide +kernel
theorem dX5_addHinges_77 : decode cX5_addHinges 77 = .ok (.putfield 21, 3) := by decide +kernel
theorem dX5_addHinges_80 : decode cX5_addHinges 80 = .ok (.iinc 5 1, 3) := by decide +kernel
theorem dX5_addHinges_83 : decode cX5_addHinges 83 = .ok (.goto (-64), 3) := by decide +kernel
theorem dX5_addHinges_86 : decode cX5_addHinges 86 = .ok (.return_, 1) := by decide +kernel
set_option maxRecDepth 20000 in
set_option maxHeartbeats 4000000 in
theorem wk_X5_addHinges_19 {p : Program} {l : Launch} {e : Env} {s : State} {m : MethodId} {args : Array Value} {below : List Frame} {meth : Method} {c : Code} {G : Gp} {x1 : Int32} {x2 : Int32} {x3 : Int32} {x4 : Int32}  {Q : St → Prop} (F : FX p s m args meth c cX5_addHinges 6 none RX5 G)   : ∀ (n9 : Nat) (σ : St) (x5 : Int32), LP2 (wp_X5_addHinges_19 x1 x2 x3 x4 Q) n9 σ x5 → J p l e (rmF 2 56) s m args below meth c 6 G (MQ below (QQ G (qV Q)) args s 0 0 (fr G)) 0 0 19 [(0, .ref (gb G + 180)), (1, .int x1), (2, .int x2), (3, .int x3), (4, .int x4), (5, .int x5)] [] σ := by
  intro n9
  induction n9 with
  | zero => intro σ x5 h; exact h.elim
  | succ n9 i19 =>
    intro σ x5 h
    have h : wp_X5_addHinges_19 x1 x2 x3 x4 Q (LP2 (wp_X5_addHinges_19 x1 x2 x3 x4 Q) n9) σ x5 := h
    unfold wp_X5_addHinges_19 at h
    refine J_il F 5 dX5_addHinges_19 rfl ?_
    refine J_bi F dX5_addHinges_21 kb_10 ?_
    refine J_cge F (tgt := 86) dX5_addHinges_23 (by decide) (fun c_1 => ?_) (fun c_1 => ?_)
    · have h := h.1 c_1
      exact J_retv F ⟨rfl, h⟩ dX5_addHinges_86
    · have h := h.2 c_1
      refine J_il F 4 dX5_addHinges_26 rfl ?_
      refine J_il F 5 dX5_addHinges_28 rfl ?_
      refine J_ishr F dX5_addHinges_30 ?_
      refine J_ic F dX5_addHinges_31 ki_1 ?_
      refine J_iand F dX5_addHinges_32 ?_
      refine J_zeq F (tgt := 80) dX5_addHinges_33 (by decide) (fun c_2 => ?_) (fun c_2 => ?_)
      · have h := h.1 c_2
        obtain ⟨x5_3, ex5_3⟩ : ∃ z : Int32, z = x5 + (nI 1) := ⟨_, rfl⟩
        have h := h x5_3 ex5_3
        refine J_iinc F (v := x5_3) (L' := [(5, .int x5_3), (0, .ref (gb G + 180)), (1, .int x1), (2, .int x2), (3, .int x3), (4, .int x4)]) 5 dX5_addHinges_80 rfl (by rw [ki_1, ex5_3]) (by decide) rfl ?_
        refine J_goto F (tgt := 19) dX5_addHinges_83 (by decide) ?_
        refine J_sub [1, 2, 3, 4, 5, 0] rfl ?_
        exact i19 _ _ h
      · have h := h.2 c_2
        refine J_aln F 0 dX5_addHinges_36 rfl rfl ?_
        refine J_gfa F (ci := 5) 0 rfl inX5 ly_180 (by decide) (by decide) rfl lf_X5_24 rfl dX5_addHinges_37 ?_
        refine J_iln F 1 dX5_addHinges_40 rfl rfl ?_
        refine J_iln F 2 dX5_addHinges_41 rfl rfl ?_
        refine J_iln F 3 dX5_addHinges_42 rfl rfl ?_
        refine J_ic F dX5_addHinges_43 ki_1 ?_
        refine J_il F 5 dX5_addHinges_44 rfl ?_
        refine J_ishl F dX5_addHinges_46 ?_
        refine J_ic F dX5_addHinges_47 ki_m1 ?_
        refine J_ixor F dX5_addHinges_48 ?_
        refine J_iand F dX5_addHinges_49 ?_
        refine J_callVv F (As := [.int x1, .int x2, .int (x3 &&& (((nI 1) <<< (x5 &&& 31)) ^^^ (-1)))]) (st := []) (C_X7_follow l G x1 x2 (x3 &&& (((nI 1) <<< (x5 &&& 31)) ^^^ (-1)))  h) (ci := 7) ly_176 (by decide) rfl rfl lm_X5_58 li_X7_follow ls_X7_follow ini_X7 lc_X7_follow hd_X7_follow (by decide) (Nat.le_of_ble_eq_true rfl) (by decide) rfl dX5_addHinges_50 (fun σ_4 h => ?_)
        refine J_aln F 0 dX5_addHinges_53 rfl rfl ?_
        refine J_dup F dX5_addHinges_54 rfl ?_
        refine J_gfi F (ci := 5) 4 rfl inX5 ly_180 (by decide) (by decide) rfl lf_X5_21 rfl dX5_addHinges_55 ?_
        refine J_aln F 0 dX5_addHinges_58 rfl rfl ?_
        refine J_gfa F (ci := 5) 0 rfl inX5 ly_180 (by decide) (by decide) rfl lf_X5_24 rfl dX5_addHinges_59 ?_
        refine J_gfi F (ci := 7) 4 rfl inX7 ly_176 (by decide) (by decide) rfl lf_X5_62 rfl dX5_addHinges_62 ?_
        refine J_zeq F (tgt := 75) dX5_addHinges_65 (by decide) (fun c_5 => ?_) (fun c_5 => ?_)
        · have h := h.1 c_5
          refine J_ic F dX5_addHinges_75 ki_0 ?_
          refine J_ior F dX5_addHinges_76 ?_
          refine J_pfi F (ci := 5) 4 rfl inX5 tyX5 tyX5_ok nmX5 ly_180 (by decide) (by decide) rfl lf_X5_21 rfl rfl (tyX5_ok 4 (by decide)) rfl rfl dX5_addHinges_77 ?_
          refine J_st (fun σ_6 eσ_6 => ?_)
          have h := h σ_6 eσ_6
          obtain ⟨x5_7, ex5_7⟩ : ∃ z : Int32, z = x5 + (nI 1) := ⟨_, rfl⟩
          have h := h x5_7 ex5_7
          refine J_iinc F (v := x5_7) (L' := [(5, .int x5_7), (0, .ref (gb G + 180)), (1, .int x1), (2, .int x2), (3, .int x3), (4, .int x4)]) 5 dX5_addHinges_80 rfl (by rw [ki_1, ex5_7]) (by decide) rfl ?_
          refine J_goto F (tgt := 19) dX5_addHinges_83 (by decide) ?_
          refine J_sub [1, 2, 3, 4, 5, 0] rfl ?_
          exact i19 _ _ h
        · have h := h.2 c_5
          refine J_ic F dX5_addHinges_68 ki_1 ?_
          refine J_il F 5 dX5_addHinges_69 rfl ?_
          refine J_ishl F dX5_addHinges_71 ?_
          refine J_goto F (tgt := 76) dX5_addHinges_72 (by decide) ?_
          refine J_ior F dX5_addHinges_76 ?_
          refine J_pfi F (ci := 5) 4 rfl inX5 tyX5 tyX5_ok nmX5 ly_180 (by decide) (by decide) rfl lf_X5_21 rfl rfl (tyX5_ok 4 (by decide)) rfl rfl dX5_addHinges_77 ?_
          refine J_st (fun σ_8 eσ_8 => ?_)
          have h := h σ_8 eσ_8
          obtain ⟨x5_9, ex5_9⟩ : ∃ z : Int32, z = x5 + (nI 1) := ⟨_, rfl⟩
          have h := h x5_9 ex5_9
          refine J_iinc F (v := x5_9) (L' := [(5, .int x5_9), (0, .ref (gb G + 180)), (1, .int x1), (2, .int x2), (3, .int x3), (4, .int x4)]) 5 dX5_addHinges_80 rfl (by rw [ki_1, ex5_9]) (by decide) rfl ?_
          refine J_goto F (tgt := 19) dX5_addHinges_83 (by decide) ?_
          refine J_sub [1, 2, 3, 4, 5, 0] rfl ?_
          exact i19 _ _ h
set_option maxRecDepth 20000 in
set_option maxHeartbeats 4000000 in
theorem C_X5_addHinges (l : Launch) (G : Gp) (x1 : Int32) (x2 : Int32) (x3 : Int32)  {σ : St} {Q : St → Prop} (h : wp_X5_addHinges σ x1 x2 x3 Q) : Cn l yX5_addHinges cX5_addHinges 6 none 2 56 G [.ref (gb G + 180), .int x1, .int x2, .int x3] σ (qV Q) := by
  refine Cn_of (L := [(0, .ref (gb G + 180)), (1, .int x1), (2, .int x2), (3, .int x3)]) RX5 (by decide) rfl (Nat.le_of_ble_eq_true rfl) rfl ?_
  intro p e s m below meth c F
  unfold wp_X5_addHinges at h
  refine J_aln F 0 dX5_addHinges_0 rfl rfl ?_
  refine J_gfa F (ci := 5) 0 rfl inX5 ly_180 (by decide) (by decide) rfl lf_X5_24 rfl dX5_addHinges_1 ?_
  refine J_callVi F (As := []) (st := []) (C_X7_nodesBetween l G   h) (ci := 7) ly_176 (by decide) rfl rfl lm_X5_77 li_X7_nodesBetween ls_X7_nodesBetween ini_X7 lc_X7_nodesBetween hd_X7_nodesBetween (by decide) (Nat.le_of_ble_eq_true rfl) (by decide) rfl dX5_addHinges_4 (fun r_10 σ_11 hh => ?_)
  clear h
  obtain ⟨e9, h⟩ := hh
  subst σ_11
  refine J_aln F 0 dX5_addHinges_7 rfl rfl ?_
  refine J_gfi F (ci := 5) 4 rfl inX5 ly_180 (by decide) (by decide) rfl lf_X5_21 rfl dX5_addHinges_8 ?_
  refine J_ic F dX5_addHinges_11 ki_m1 ?_
  refine J_ixor F dX5_addHinges_12 ?_
  refine J_iand F dX5_addHinges_13 ?_
  refine J_top (fun x4_12 ex4_12 => ?_)
  have h := h x4_12 ex4_12
  refine J_is F (L' := [(4, .int x4_12), (0, .ref (gb G + 180)), (1, .int x1), (2, .int x2), (3, .int x3)]) dX5_addHinges_14 (by decide) rfl ?_
  refine J_ic F dX5_addHinges_16 ki_0 ?_
  refine J_is F (L' := [(5, .int (nI 0)), (4, .int x4_12), (0, .ref (gb G + 180)), (1, .int x1), (2, .int x2), (3, .int x3)]) dX5_addHinges_17 (by decide) rfl ?_
  refine J_sub [2, 3, 4, 5, 1, 0] rfl ?_
  obtain ⟨n9, h⟩ := h
  exact wk_X5_addHinges_19 F  n9 _ _ h
theorem dX5_walkTo_0 : decode cX5_walkTo 0 = .ok (.iconst 0, 1) := by decide +kernel
theorem dX5_walkTo_1 : decode cX5_walkTo 1 = .ok (.istore 5, 2) := by decide +kernel
theorem dX5_walkTo_3 : decode cX5_walkTo 3 = .ok (.iload 5, 2) := by decide +kernel
theorem dX5_walkTo_5 : decode cX5_walkTo 5 = .ok (.bipush 10, 2) := by decide +kernel
theorem dX5_walkTo_7 : decode cX5_walkTo 7 = .ok (.if_icmp .ge 102, 3) := by decide +kernel
theorem dX5_walkTo_10 : decode cX5_walkTo 10 = .ok (.iload 5, 2) := by decide +kernel
theorem dX5_walkTo_12 : decode cX5_walkTo 12 = .ok (.iload_n 1, 1) := by decide +kernel
theorem dX5_walkTo_13 : decode cX5_walkTo 13 = .ok (.if_icmp .eq 90, 3) := by decide +kernel
theorem dX5_walkTo_16 : decode cX5_walkTo 16 = .ok (.iload_n 3, 1) := by decide +kernel
theorem dX5_walkTo_17 : decode cX5_walkTo 17 = .ok (.iload 5, 2) := by decide +kernel
theorem dX5_walkTo_19 : decode cX5_walkTo 19 = .ok (.ishr, 1) := by decide +kernel
theorem dX5_walkTo_20 : decode cX5_walkTo 20 = .ok (.iconst 1, 1) := by decide +kernel
theorem dX5_walkTo_21 : decode cX5_walkTo 21 = .ok (.iand, 1) := by decide +kernel
theorem dX5_walkTo_22 : decode cX5_walkTo 22 = .ok (.ifCond .eq 81, 3) := by decide +kernel
theorem dX5_walkTo_25 : decode cX5_walkTo 25 = .ok (.aload_n 0, 1) := by decide +kernel
theorem dX5_walkTo_26 : decode cX5_walkTo 26 = .ok (.getfield 24, 3) := by decide +kernel
theorem dX5_walkTo_29 : decode cX5_walkTo 29 = .ok (.iload 5, 2) := by decide +kernel
theorem dX5_walkTo_31 : decode cX5_walkTo 31 = .ok (.iload_n 2, 1) := by decide +kernel
theorem dX5_walkTo_32 : decode cX5_walkTo 32 = .ok (.iload_n 3, 1) := by decide +kernel
theorem dX5_walkTo_33 : decode cX5_walkTo 33 = .ok (.invokevirtual 58, 3) := by decide +kernel
theorem dX5_walkTo_36 : decode cX5_walkTo 36 = .ok (.aload_n 0, 1) := by decide +kernel
theorem dX5_walkTo_37 : decode cX5_walkTo 37 = .ok (.getfield 24, 3) := by decide +kernel
theorem dX5_walkTo_40 : decode cX5_walkTo 40 = .ok (.getfield 62, 3) := by decide +kernel
theorem dX5_walkTo_43 : decode cX5_walkTo 43 = .ok (.ifCond .ne 60, 3) := by decide +kernel
theorem dX5_walkTo_46 : decode cX5_walkTo 46 = .ok (.aload_n 0, 1) := by decide +kernel
theorem dX5_walkTo_47 : decode cX5_walkTo 47 = .ok (.dup, 1) := by decide +kernel
theorem dX5_walkTo_48 : decode cX5_walkTo 48 = .ok (.getfield 9, 3) := by decide +kernel
theorem dX5_walkTo_51 : decode cX5_walkTo 51 = .ok (.aload_n 0, 1) := by decide +kernel
theorem dX5_walkTo_52 : decode cX5_walkTo 52 = .ok (.getfield 24, 3) := by decide +kernel
theorem dX5_walkTo_55 : decode cX5_walkTo 55 = .ok (.getfield 66, 3) := by decide +kernel
theorem dX5_walkTo_58 : decode cX5_walkTo 58 = .ok (.iadd, 1) := by decide +kernel
theorem dX5_walkTo_59 : decode cX5_walkTo 59 = .ok (.putfield 9, 3) := by decide +kernel
theorem dX5_walkTo_62 : decode cX5_walkTo 62 = .ok (.aload_n 0, 1) := by decide +kernel
theorem dX5_walkTo_63 : decode cX5_walkTo 63 = .ok (.dup, 1) := by decide +kernel
theorem dX5_walkTo_64 : decode cX5_walkTo 64 = .ok (.getfield 15, 3) := by decide +kernel
theorem dX5_walkTo_67 : decode cX5_walkTo 67 = .ok (.iconst 1, 1) := by decide +kernel
theorem dX5_walkTo_68 : decode cX5_walkTo 68 = .ok (.iadd, 1) := by decide +kernel
theorem dX5_walkTo_69 : decode cX5_walkTo 69 = .ok (.putfield 15, 3) := by decide +kernel
theorem dX5_walkTo_72 : decode cX5_walkTo 72 = .ok (.aload_n 0, 1) := by decide +kernel
theorem dX5_walkTo_73 : decode cX5_walkTo 73 = .ok (.aload_n 0, 1) := by decide +kernel
theorem dX5_walkTo_74 : decode cX5_walkTo 74 = .ok (.getfield 18, 3) := by decide +kernel
theorem dX5_walkTo_77 : decode cX5_walkTo 77 = .ok (.aload_n 0, 1) := by decide +kernel
theorem dX5_walkTo_78 : decode cX5_walkTo 78 = .ok (.getfield 24, 3) := by decide +kernel
theorem dX5_walkTo_81 : decode cX5_walkTo 81 = .ok (.getfield 66, 3) := by decide +kernel
theorem dX5_walkTo_84 : decode cX5_walkTo 84 = .ok (.invokestatic 69, 3) := by decide +kernel
theorem dX5_walkTo_87 : decode cX5_walkTo 87 = .ok (.putfield 18, 3) := by decide +kernel
theorem dX5_walkTo_90 : decode cX5_walkTo 90 = .ok (.iload 4, 2) := by decide +kernel
theorem dX5_walkTo_92 : decode cX5_walkTo 92 = .ok (.ifCond .eq 11, 3) := by decide +kernel
theorem dX5_walkTo_95 : decode cX5_walkTo 95 = .ok (.aload_n 0, 1) := by decide +kernel
theorem dX5_walkTo_96 : decode cX5_walkTo 96 = .ok (.iload 5, 2) := by decide +kernel
theorem dX5_walkTo_98 : decode cX5_walkTo 98 = .ok (.iload_n 2, 1) := by decide +kernel
theorem dX5_walkTo_99 : decode cX5_walkTo 99 = .ok (.iload_n 3, 1) := by decide +kernel
theorem dX5_walkTo_100 : decode cX5_walkTo 100 = .ok (.invokevirtual 74, 3) := by decide +kernel
theorem dX5_walkTo_103 : decode cX5_walkTo 103 = .ok (.iinc 5 1, 3) := by decide +kernel
theorem dX5_walkTo_106 : decode cX5_walkTo 106 = .ok (.goto (-103), 3) := by decide +kernel
theorem dX5_walkTo_109 : decode cX5_walkTo 109 = .ok (.return_, 1) := by decide +kernel
set_option maxRecDepth 20000 in
set_option maxHeartbeats 4000000 in
theorem wk_X5_walkTo_3 {p : Program} {l : Launch} {e : Env} {s : State} {m : MethodId} {args : Array Value} {below : List Frame} {meth : Method} {c : Code} {G : Gp} {x1 : Int32} {x2 : Int32} {x3 : Int32} {x4 : Int32}  {Q : St → Prop} (F : FX p s m args meth c cX5_walkTo 6 none RX5 G)   : ∀ (n9 : Nat) (σ : St) (x5 : Int32), LP2 (wp_X5_walkTo_3 x1 x2 x3 x4 Q) n9 σ x5 → J p l e (rmF 3 81) s m args below meth c 6 G (MQ below (QQ G (qV Q)) args s 0 0 (fr G)) 0 0 3 [(0, .ref (gb G + 180)), (1, .int x1), (2, .int x2), (3, .int x3), (4, .int x4), (5, .int x5)] [] σ := by
  intro n9
  induction n9 with
  | zero => intro σ x5 h; exact h.elim
  | succ n9 i3 =>
    intro σ x5 h
    have h : wp_X5_walkTo_3 x1 x2 x3 x4 Q (LP2 (wp_X5_walkTo_3 x1 x2 x3 x4 Q) n9) σ x5 := h
    unfold wp_X5_walkTo_3 at h
    refine J_il F 5 dX5_walkTo_3 rfl ?_
    refine J_bi F dX5_walkTo_5 kb_10 ?_
    refine J_cge F (tgt := 109) dX5_walkTo_7 (by decide) (fun c_1 => ?_) (fun c_1 => ?_)
    · have h := h.1 c_1
      exact J_retv F ⟨rfl, h⟩ dX5_walkTo_109
    · have h := h.2 c_1
      refine J_il F 5 dX5_walkTo_10 rfl ?_
      refine J_iln F 1 dX5_walkTo_12 rfl rfl ?_
      refine J_ceq F (tgt := 103) dX5_walkTo_13 (by decide) (fun c_2 => ?_) (fun c_2 => ?_)
      · have h := h.1 c_2
        obtain ⟨x5_3, ex5_3⟩ : ∃ z : Int32, z = x5 + (nI 1) := ⟨_, rfl⟩
        have h := h x5_3 ex5_3
        refine J_iinc F (v := x5_3) (L' := [(5, .int x5_3), (0, .ref (gb G + 180)), (1, .int x1), (2, .int x2), (3, .int x3), (4, .int x4)]) 5 dX5_walkTo_103 rfl (by rw [ki_1, ex5_3]) (by decide) rfl ?_
        refine J_goto F (tgt := 3) dX5_walkTo_106 (by decide) ?_
        refine J_sub [1, 2, 3, 4, 5, 0] rfl ?_
        exact i3 _ _ h
      · have h := h.2 c_2
        refine J_iln F 3 dX5_walkTo_16 rfl rfl ?_
        refine J_il F 5 dX5_walkTo_17 rfl ?_
        refine J_ishr F dX5_walkTo_19 ?_
        refine J_ic F dX5_walkTo_20 ki_1 ?_
        refine J_iand F dX5_walkTo_21 ?_
        refine J_zeq F (tgt := 103) dX5_walkTo_22 (by decide) (fun c_4 => ?_) (fun c_4 => ?_)
        · have h := h.1 c_4
          obtain ⟨x5_5, ex5_5⟩ : ∃ z : Int32, z = x5 + (nI 1) := ⟨_, rfl⟩
          have h := h x5_5 ex5_5
          refine J_iinc F (v := x5_5) (L' := [(5, .int x5_5), (0, .ref (gb G + 180)), (1, .int x1), (2, .int x2), (3, .int x3), (4, .int x4)]) 5 dX5_walkTo_103 rfl (by rw [ki_1, ex5_5]) (by decide) rfl ?_
          refine J_goto F (tgt := 3) dX5_walkTo_106 (by decide) ?_
          refine J_sub [1, 2, 3, 4, 5, 0] rfl ?_
          exact i3 _ _ h
        · have h := h.2 c_4
          refine J_aln F 0 dX5_walkTo_25 rfl rfl ?_
          refine J_gfa F (ci := 5) 0 rfl inX5 ly_180 (by decide) (by decide) rfl lf_X5_24 rfl dX5_walkTo_26 ?_
          refine J_il F 5 dX5_walkTo_29 rfl ?_
          refine J_iln F 2 dX5_walkTo_31 rfl rfl ?_
          refine J_iln F 3 dX5_walkTo_32 rfl rfl ?_
          refine J_callVv F (As := [.int x5, .int x2, .int x3]) (st := []) (C_X7_follow l G x5 x2 x3  h) (ci := 7) ly_176 (by decide) rfl rfl lm_X5_58 li_X7_follow ls_X7_follow ini_X7 lc_X7_follow hd_X7_follow (by decide) (Nat.le_of_ble_eq_true rfl) (by decide) rfl dX5_walkTo_33 (fun σ_6 h => ?_)
          refine J_aln F 0 dX5_walkTo_36 rfl rfl ?_
          refine J_gfa F (ci := 5) 0 rfl inX5 ly_180 (by decide) (by decide) rfl lf_X5_24 rfl dX5_walkTo_37 ?_
          refine J_gfi F (ci := 7) 4 rfl inX7 ly_176 (by decide) (by decide) rfl lf_X5_62 rfl dX5_walkTo_40 ?_
          refine J_zne F (tgt := 103) dX5_walkTo_43 (by decide) (fun c_7 => ?_) (fun c_7 => ?_)
          · have h := h.1 c_7
            obtain ⟨x5_8, ex5_8⟩ : ∃ z : Int32, z = x5 + (nI 1) := ⟨_, rfl⟩
            have h := h x5_8 ex5_8
            refine J_iinc F (v := x5_8) (L' := [(5, .int x5_8), (0, .ref (gb G + 180)), (1, .int x1), (2, .int x2), (3, .int x3), (4, .int x4)]) 5 dX5_walkTo_103 rfl (by rw [ki_1, ex5_8]) (by decide) rfl ?_
            refine J_goto F (tgt := 3) dX5_walkTo_106 (by decide) ?_
            refine J_sub [1, 2, 3, 4, 5, 0] rfl ?_
            exact i3 _ _ h
          · have h := h.2 c_7
            refine J_aln F 0 dX5_walkTo_46 rfl rfl ?_
            refine J_dup F dX5_walkTo_47 rfl ?_
            refine J_gfi F (ci := 5) 1 rfl inX5 ly_180 (by decide) (by decide) rfl lf_X5_9 rfl dX5_walkTo_48 ?_
            refine J_aln F 0 dX5_walkTo_51 rfl rfl ?_
            refine J_gfa F (ci := 5) 0 rfl inX5 ly_180 (by decide) (by decide) rfl lf_X5_24 rfl dX5_walkTo_52 ?_
            refine J_gfi F (ci := 7) 3 rfl inX7 ly_176 (by decide) (by decide) rfl lf_X5_66 rfl dX5_walkTo_55 ?_
            refine J_iadd F dX5_walkTo_58 ?_
            refine J_pfi F (ci := 5) 1 rfl inX5 tyX5 tyX5_ok nmX5 ly_180 (by decide) (by decide) rfl lf_X5_9 rfl rfl (tyX5_ok 1 (by decide)) rfl rfl dX5_walkTo_59 ?_
            refine J_st (fun σ_9 eσ_9 => ?_)
            have h := h σ_9 eσ_9
            refine J_aln F 0 dX5_walkTo_62 rfl rfl ?_
            refine J_dup F dX5_walkTo_63 rfl ?_
            refine J_gfi F (ci := 5) 2 rfl inX5 ly_180 (by decide) (by decide) rfl lf_X5_15 rfl dX5_walkTo_64 ?_
            refine J_ic F dX5_walkTo_67 ki_1 ?_
            refine J_iadd F dX5_walkTo_68 ?_
            refine J_pfi F (ci := 5) 2 rfl inX5 tyX5 tyX5_ok nmX5 ly_180 (by decide) (by decide) rfl lf_X5_15 rfl rfl (tyX5_ok 2 (by decide)) rfl rfl dX5_walkTo_69 ?_
            refine J_st (fun σ_10 eσ_10 => ?_)
            have h := h σ_10 eσ_10
            refine J_aln F 0 dX5_walkTo_72 rfl rfl ?_
            refine J_aln F 0 dX5_walkTo_73 rfl rfl ?_
            refine J_gfi F (ci := 5) 3 rfl inX5 ly_180 (by decide) (by decide) rfl lf_X5_18 rfl dX5_walkTo_74 ?_
            refine J_aln F 0 dX5_walkTo_77 rfl rfl ?_
            refine J_gfa F (ci := 5) 0 rfl inX5 ly_180 (by decide) (by decide) rfl lf_X5_24 rfl dX5_walkTo_78 ?_
            refine J_gfi F (ci := 7) 3 rfl inX7 ly_176 (by decide) (by decide) rfl lf_X5_66 rfl dX5_walkTo_81 ?_
            refine J_mmax F lm_X5_69 st_max ini_Math co_max (by decide) (Nat.le_of_ble_eq_true rfl) (by decide) dX5_walkTo_84 ?_
            refine J_pfi F (ci := 5) 3 rfl inX5 tyX5 tyX5_ok nmX5 ly_180 (by decide) (by decide) rfl lf_X5_18 rfl rfl (tyX5_ok 3 (by decide)) rfl rfl dX5_walkTo_87 ?_
            refine J_st (fun σ_11 eσ_11 => ?_)
            have h := h σ_11 eσ_11
            refine J_il F 4 dX5_walkTo_90 rfl ?_
            refine J_zeq F (tgt := 103) dX5_walkTo_92 (by decide) (fun c_12 => ?_) (fun c_12 => ?_)
            · have h := h.1 c_12
              obtain ⟨x5_13, ex5_13⟩ : ∃ z : Int32, z = x5 + (nI 1) := ⟨_, rfl⟩
              have h := h x5_13 ex5_13
              refine J_iinc F (v := x5_13) (L' := [(5, .int x5_13), (0, .ref (gb G + 180)), (1, .int x1), (2, .int x2), (3, .int x3), (4, .int x4)]) 5 dX5_walkTo_103 rfl (by rw [ki_1, ex5_13]) (by decide) rfl ?_
              refine J_goto F (tgt := 3) dX5_walkTo_106 (by decide) ?_
              refine J_sub [1, 2, 3, 4, 5, 0] rfl ?_
              exact i3 _ _ h
            · have h := h.2 c_12
              refine J_aln F 0 dX5_walkTo_95 rfl rfl ?_
              refine J_il F 5 dX5_walkTo_96 rfl ?_
              refine J_iln F 2 dX5_walkTo_98 rfl rfl ?_
              refine J_iln F 3 dX5_walkTo_99 rfl rfl ?_
              refine J_callVv F (As := [.int x5, .int x2, .int x3]) (st := []) (C_X5_addHinges l G x5 x2 x3  h) (ci := 5) ly_180 (by decide) rfl rfl lm_X5_74 li_X5_addHinges ls_X5_addHinges ini_X5 lc_X5_addHinges hd_X5_addHinges (by decide) (Nat.le_of_ble_eq_true rfl) (by decide) rfl dX5_walkTo_100 (fun σ_14 h => ?_)
              obtain ⟨x5_15, ex5_15⟩ : ∃ z : Int32, z = x5 + (nI 1) := ⟨_, rfl⟩
              have h := h x5_15 ex5_15
              refine J_iinc F (v := x5_15) (L' := [(5, .int x5_15), (0, .ref (gb G + 180)), (1, .int x1), (2, .int x2), (3, .int x3), (4, .int x4)]) 5 dX5_walkTo_103 rfl (by rw [ki_1, ex5_15]) (by decide) rfl ?_
              refine J_goto F (tgt := 3) dX5_walkTo_106 (by decide) ?_
              refine J_sub [1, 2, 3, 4, 5, 0] rfl ?_
              exact i3 _ _ h
set_option maxRecDepth 20000 in
set_option maxHeartbeats 4000000 in
theorem C_X5_walkTo (l : Launch) (G : Gp) (x1 : Int32) (x2 : Int32) (x3 : Int32) (x4 : Int32)  {σ : St} {Q : St → Prop} (h : wp_X5_walkTo σ x1 x2 x3 x4 Q) : Cn l yX5_walkTo cX5_walkTo 6 none 3 81 G [.ref (gb G + 180), .int x1, .int x2, .int x3, .int x4] σ (qV Q) := by
  refine Cn_of (L := [(0, .ref (gb G + 180)), (1, .int x1), (2, .int x2), (3, .int x3), (4, .int x4)]) RX5 (by decide) rfl (Nat.le_of_ble_eq_true rfl) rfl ?_
  intro p e s m below meth c F
  unfold wp_X5_walkTo at h
  refine J_ic F dX5_walkTo_0 ki_0 ?_
  refine J_is F (L' := [(5, .int (nI 0)), (0, .ref (gb G + 180)), (1, .int x1), (2, .int x2), (3, .int x3), (4, .int x4)]) dX5_walkTo_1 (by decide) rfl ?_
  refine J_sub [1, 2, 3, 4, 5, 0] rfl ?_
  obtain ⟨n9, h⟩ := h
  exact wk_X5_walkTo_3 F  n9 _ _ h
theorem dX5_walkAll_0 : decode cX5_walkAll 0 = .ok (.aload_n 0, 1) := by decide +kernel
theorem dX5_walkAll_1 : decode cX5_walkAll 1 = .ok (.iconst 0, 1) := by decide +kernel
theorem dX5_walkAll_2 : decode cX5_walkAll 2 = .ok (.putfield 9, 3) := by decide +kernel
theorem dX5_walkAll_5 : decode cX5_walkAll 5 = .ok (.aload_n 0, 1) := by decide +kernel
theorem dX5_walkAll_6 : decode cX5_walkAll 6 = .ok (.iconst 0, 1) := by decide +kernel
theorem dX5_walkAll_7 : decode cX5_walkAll 7 = .ok (.putfield 15, 3) := by decide +kernel
theorem dX5_walkAll_10 : decode cX5_walkAll 10 = .ok (.aload_n 0, 1) := by decide +kernel
theorem dX5_walkAll_11 : decode cX5_walkAll 11 = .ok (.iconst (-1), 1) := by decide +kernel
theorem dX5_walkAll_12 : decode cX5_walkAll 12 = .ok (.putfield 18, 3) := by decide +kernel
theorem dX5_walkAll_15 : decode cX5_walkAll 15 = .ok (.aload_n 0, 1) := by decide +kernel
theorem dX5_walkAll_16 : decode cX5_walkAll 16 = .ok (.iconst 0, 1) := by decide +kernel
theorem dX5_walkAll_17 : decode cX5_walkAll 17 = .ok (.putfield 21, 3) := by decide +kernel
theorem dX5_walkAll_20 : decode cX5_walkAll 20 = .ok (.aload_n 0, 1) := by decide +kernel
theorem dX5_walkAll_21 : decode cX5_walkAll 21 = .ok (.getfield 24, 3) := by decide +kernel
theorem dX5_walkAll_24 : decode cX5_walkAll 24 = .ok (.aload_n 1, 1) := by decide +kernel
theorem dX5_walkAll_25 : decode cX5_walkAll 25 = .ok (.iload_n 2, 1) := by decide +kernel
theorem dX5_walkAll_26 : decode cX5_walkAll 26 = .ok (.invokevirtual 28, 3) := by decide +kernel
theorem dX5_walkAll_29 : decode cX5_walkAll 29 = .ok (.iconst 0, 1) := by decide +kernel
theorem dX5_walkAll_30 : decode cX5_walkAll 30 = .ok (.istore 5, 2) := by decide +kernel
theorem dX5_walkAll_32 : decode cX5_walkAll 32 = .ok (.iload 5, 2) := by decide +kernel
theorem dX5_walkAll_34 : decode cX5_walkAll 34 = .ok (.bipush 10, 2) := by decide +kernel
theorem dX5_walkAll_36 : decode cX5_walkAll 36 = .ok (.if_icmp .ge 79, 3) := by decide +kernel
theorem dX5_walkAll_39 : decode cX5_walkAll 39 = .ok (.iload_n 3, 1) := by decide +kernel
theorem dX5_walkAll_40 : decode cX5_walkAll 40 = .ok (.iload 5, 2) := by decide +kernel
theorem dX5_walkAll_42 : decode cX5_walkAll 42 = .ok (.ishr, 1) := by decide +kernel
theorem dX5_walkAll_43 : decode cX5_walkAll 43 = .ok (.iconst 1, 1) := by decide +kernel
theorem dX5_walkAll_44 : decode cX5_walkAll 44 = .ok (.iand, 1) := by decide +kernel
theorem dX5_walkAll_45 : decode cX5_walkAll 45 = .ok (.ifCond .eq 13, 3) := by decide +kernel
theorem dX5_walkAll_48 : decode cX5_walkAll 48 = .ok (.aload_n 1, 1) := by decide +kernel
theorem dX5_walkAll_49 : decode cX5_walkAll 49 = .ok (.iload 5, 2) := by decide +kernel
theorem dX5_walkAll_51 : decode cX5_walkAll 51 = .ok (.iconst 0, 1) := by decide +kernel
theorem dX5_walkAll_52 : decode cX5_walkAll 52 = .ok (.invokevirtual 34, 3) := by decide +kernel
theorem dX5_walkAll_55 : decode cX5_walkAll 55 = .ok (.goto 4, 3) := by decide +kernel
theorem dX5_walkAll_58 : decode cX5_walkAll 58 = .ok (.iconst (-1), 1) := by decide +kernel
theorem dX5_walkAll_59 : decode cX5_walkAll 59 = .ok (.istore 6, 2) := by decide +kernel
theorem dX5_walkAll_61 : decode cX5_walkAll 61 = .ok (.iload 6, 2) := by decide +kernel
theorem dX5_walkAll_63 : decode cX5_walkAll 63 = .ok (.iconst (-1), 1) := by decide +kernel
theorem dX5_walkAll_64 : decode cX5_walkAll 64 = .ok (.if_icmp .eq 45, 3) := by decide +kernel
theorem dX5_walkAll_67 : decode cX5_walkAll 67 = .ok (.iload 6, 2) := by decide +kernel
theorem dX5_walkAll_69 : decode cX5_walkAll 69 = .ok (.invokestatic 40, 3) := by decide +kernel
theorem dX5_walkAll_72 : decode cX5_walkAll 72 = .ok (.istore 7, 2) := by decide +kernel
theorem dX5_walkAll_74 : decode cX5_walkAll 74 = .ok (.aload_n 0, 1) := by decide +kernel
theorem dX5_walkAll_75 : decode cX5_walkAll 75 = .ok (.getfield 24, 3) := by decide +kernel
theorem dX5_walkAll_78 : decode cX5_walkAll 78 = .ok (.aload_n 1, 1) := by decide +kernel
theorem dX5_walkAll_79 : decode cX5_walkAll 79 = .ok (.iload_n 2, 1) := by decide +kernel
theorem dX5_walkAll_80 : decode cX5_walkAll 80 = .ok (.iload 6, 2) := by decide +kernel
theorem dX5_walkAll_82 : decode cX5_walkAll 82 = .ok (.iload 7, 2) := by decide +kernel
theorem dX5_walkAll_84 : decode cX5_walkAll 84 = .ok (.invokestatic 44, 3) := by decide +kernel
theorem dX5_walkAll_87 : decode cX5_walkAll 87 = .ok (.iload 6, 2) := by decide +kernel
theorem dX5_walkAll_89 : decode cX5_walkAll 89 = .ok (.iload 7, 2) := by decide +kernel
theorem dX5_walkAll_91 : decode cX5_walkAll 91 = .ok (.invokestatic 47, 3) := by decide +kernel
theorem dX5_walkAll_94 : decode cX5_walkAll 94 = .ok (.invokevirtual 50, 3) := by decide +kernel
theorem dX5_walkAll_97 : decode cX5_walkAll 97 = .ok (.aload_n 0, 1) := by decide +kernel
theorem dX5_walkAll_98 : decode cX5_walkAll 98 = .ok (.iload 5, 2) := by decide +kernel
theorem dX5_walkAll_100 : decode cX5_walkAll 100 = .ok (.iconst 1, 1) := by decide +kernel
theorem dX5_walkAll_101 : decode cX5_walkAll 101 = .ok (.iload_n 2, 1) := by decide +kernel
theorem dX5_walkAll_102 : decode cX5_walkAll 102 = .ok (.ishl, 1) := by decide +kernel
theorem dX5_walkAll_103 : decode cX5_walkAll 103 = .ok (.iload_n 3, 1) := by decide +kernel
theorem dX5_walkAll_104 : decode cX5_walkAll 104 = .ok (.iload 4, 2) := by decide +kernel
theorem dX5_walkAll_106 : decode cX5_walkAll 106 = .ok (.invokevirtual 54, 3) := by decide +kernel
theorem dX5_walkAll_109 : decode cX5_walkAll 109 = .ok (.iinc 5 1, 3) := by decide +kernel
theorem dX5_walkAll_112 : decode cX5_walkAll 112 = .ok (.goto (-80), 3) := by decide +kernel
theorem dX5_walkAll_115 : decode cX5_walkAll 115 = .ok (.return_, 1) := by decide +kernel
set_option maxRecDepth 20000 in
set_option maxHeartbeats 4000000 in
theorem wk_X5_walkAll_59 {p : Program} {l : Launch} {e : Env} {s : State} {m : MethodId} {args : Array Value} {below : List Frame} {meth : Method} {c : Code} {G : Gp} {σ : St} {a1 : Nat} {x2 : Int32} {x3 : Int32} {x4 : Int32} {x5 : Int32} {t0 : Int32} {ih32 : St → Int32 → Prop} {Q : St → Prop} (F : FX p s m args meth c cX5_walkAll 8 none RX5 G) (y1 : lay a1 = (4, 0)) (i32 : ∀ (σ : St) (x5 : Int32), ih32 σ x5 → J p l e (rmF 4 106) s m args below meth c 8 G (MQ below (QQ G (qV Q)) args s 0 0 (fr G)) 0 0 32 [(0, .ref (gb G + 180)), (1, .ref (gb G + a1)), (2, .int x2), (3, .int x3), (4, .int x4), (5, .int x5)] [] σ) (h : wp_X5_walkAll_59 σ a1 x2 x3 x4 x5 t0 ih32 Q) : J p l e (rmF 4 106) s m args below meth c 8 G (MQ below (QQ G (qV Q)) args s 0 0 (fr G)) 0 0 59 [(0, .ref (gb G + 180)), (1, .ref (gb G + a1)), (2, .int x2), (3, .int x3), (4, .int x4), (5, .int x5)] [.int t0] σ := by
  unfold wp_X5_walkAll_59 at h
  refine J_is F (L' := [(6, .int t0), (0, .ref (gb G + 180)), (1, .ref (gb G + a1)), (2, .int x2), (3, .int x3), (4, .int x4), (5, .int x5)]) dX5_walkAll_59 (by decide) rfl ?_
  refine J_il F 0 dX5_walkAll_61 rfl ?_
  refine J_ic F dX5_walkAll_63 ki_m1 ?_
  refine J_ceq F (tgt := 109) dX5_walkAll_64 (by decide) (fun c_1 => ?_) (fun c_1 => ?_)
  · have h := h.1 c_1
    obtain ⟨x5_2, ex5_2⟩ : ∃ z : Int32, z = x5 + (nI 1) := ⟨_, rfl⟩
    have h := h x5_2 ex5_2
    refine J_iinc F (v := x5_2) (L' := [(5, .int x5_2), (6, .int t0), (0, .ref (gb G + 180)), (1, .ref (gb G + a1)), (2, .int x2), (3, .int x3), (4, .int x4)]) 6 dX5_walkAll_109 rfl (by rw [ki_1, ex5_2]) (by decide) rfl ?_
    refine J_goto F (tgt := 32) dX5_walkAll_112 (by decide) ?_
    refine J_sub [2, 3, 4, 5, 6, 0] rfl ?_
    exact i32 _ _ h
  · have h := h.2 c_1
    refine J_il F 0 dX5_walkAll_67 rfl ?_
    refine J_callSi F (As := [.int t0]) (st := []) (C_X4_depthOf l G t0  h) lm_X5_40 li_X4_depthOf ini_X4 lc_X4_depthOf hd_X4_depthOf (by decide) (Nat.le_of_ble_eq_true rfl) (by decide) rfl dX5_walkAll_69 (fun r_3 σ_4 hh => ?_)
    clear h
    obtain ⟨e9, h⟩ := hh
    subst σ_4
    refine J_is F (L' := [(7, .int r_3), (6, .int t0), (0, .ref (gb G + 180)), (1, .ref (gb G + a1)), (2, .int x2), (3, .int x3), (4, .int x4), (5, .int x5)]) dX5_walkAll_72 (by decide) rfl ?_
    refine J_aln F 2 dX5_walkAll_74 rfl rfl ?_
    refine J_gfa F (ci := 5) 0 rfl inX5 ly_180 (by decide) (by decide) rfl lf_X5_24 rfl dX5_walkAll_75 ?_
    refine J_aln F 3 dX5_walkAll_78 rfl rfl ?_
    refine J_iln F 4 dX5_walkAll_79 rfl rfl ?_
    refine J_il F 1 dX5_walkAll_80 rfl ?_
    refine J_il F 0 dX5_walkAll_82 rfl ?_
    refine J_callSi F (As := [.int t0, .int r_3]) (st := [.int x2, .ref (gb G + a1), .ref (gb G + 176)]) (C_X4_leastX l G t0 r_3  h) lm_X5_44 li_X4_leastX ini_X4 lc_X4_leastX hd_X4_leastX (by decide) (Nat.le_of_ble_eq_true rfl) (by decide) rfl dX5_walkAll_84 (fun r_5 σ_6 hh => ?_)
    clear h
    obtain ⟨e9, h⟩ := hh
    subst σ_6
    refine J_il F 1 dX5_walkAll_87 rfl ?_
    refine J_il F 0 dX5_walkAll_89 rfl ?_
    refine J_callSi F (As := [.int t0, .int r_3]) (st := [.int r_5, .int x2, .ref (gb G + a1), .ref (gb G + 176)]) (C_X4_leastY l G t0 r_3  h) lm_X5_47 li_X4_leastY ini_X4 lc_X4_leastY hd_X4_leastY (by decide) (Nat.le_of_ble_eq_true rfl) (by decide) rfl dX5_walkAll_91 (fun r_7 σ_8 hh => ?_)
    clear h
    obtain ⟨e9, h⟩ := hh
    subst σ_8
    refine J_callVv F (As := [.ref (gb G + a1), .int x2, .int r_5, .int r_7]) (st := []) (C_X7_lookFar l G a1 x2 r_5 r_7 y1 h) (ci := 7) ly_176 (by decide) rfl rfl lm_X5_50 li_X7_lookFar ls_X7_lookFar ini_X7 lc_X7_lookFar hd_X7_lookFar (by decide) (Nat.le_of_ble_eq_true rfl) (by decide) rfl dX5_walkAll_94 (fun σ_9 h => ?_)
    refine J_aln F 2 dX5_walkAll_97 rfl rfl ?_
    refine J_il F 7 dX5_walkAll_98 rfl ?_
    refine J_ic F dX5_walkAll_100 ki_1 ?_
    refine J_iln F 4 dX5_walkAll_101 rfl rfl ?_
    refine J_ishl F dX5_walkAll_102 ?_
    refine J_iln F 5 dX5_walkAll_103 rfl rfl ?_
    refine J_il F 6 dX5_walkAll_104 rfl ?_
    refine J_callVv F (As := [.int x5, .int ((nI 1) <<< (x2 &&& 31)), .int x3, .int x4]) (st := []) (C_X5_walkTo l G x5 ((nI 1) <<< (x2 &&& 31)) x3 x4  h) (ci := 5) ly_180 (by decide) rfl rfl lm_X5_54 li_X5_walkTo ls_X5_walkTo ini_X5 lc_X5_walkTo hd_X5_walkTo (by decide) (Nat.le_of_ble_eq_true rfl) (by decide) rfl dX5_walkAll_106 (fun σ_10 h => ?_)
    obtain ⟨x5_11, ex5_11⟩ : ∃ z : Int32, z = x5 + (nI 1) := ⟨_, rfl⟩
    have h := h x5_11 ex5_11
    refine J_iinc F (v := x5_11) (L' := [(5, .int x5_11), (7, .int r_3), (6, .int t0), (0, .ref (gb G + 180)), (1, .ref (gb G + a1)), (2, .int x2), (3, .int x3), (4, .int x4)]) 7 dX5_walkAll_109 rfl (by rw [ki_1, ex5_11]) (by decide) rfl ?_
    refine J_goto F (tgt := 32) dX5_walkAll_112 (by decide) ?_
    refine J_sub [3, 4, 5, 6, 7, 0] rfl ?_
    exact i32 _ _ h
set_option maxRecDepth 20000 in
set_option maxHeartbeats 4000000 in
theorem wk_X5_walkAll_32 {p : Program} {l : Launch} {e : Env} {s : State} {m : MethodId} {args : Array Value} {below : List Frame} {meth : Method} {c : Code} {G : Gp} {a1 : Nat} {x2 : Int32} {x3 : Int32} {x4 : Int32}  {Q : St → Prop} (F : FX p s m args meth c cX5_walkAll 8 none RX5 G) (y1 : lay a1 = (4, 0))  : ∀ (n9 : Nat) (σ : St) (x5 : Int32), LP2 (wp_X5_walkAll_32 a1 x2 x3 x4 Q) n9 σ x5 → J p l e (rmF 4 106) s m args below meth c 8 G (MQ below (QQ G (qV Q)) args s 0 0 (fr G)) 0 0 32 [(0, .ref (gb G + 180)), (1, .ref (gb G + a1)), (2, .int x2), (3, .int x3), (4, .int x4), (5, .int x5)] [] σ := by
  intro n9
  induction n9 with
  | zero => intro σ x5 h; exact h.elim
  | succ n9 i32 =>
    intro σ x5 h
    have h : wp_X5_walkAll_32 a1 x2 x3 x4 Q (LP2 (wp_X5_walkAll_32 a1 x2 x3 x4 Q) n9) σ x5 := h
    unfold wp_X5_walkAll_32 at h
    refine J_il F 5 dX5_walkAll_32 rfl ?_
    refine J_bi F dX5_walkAll_34 kb_10 ?_
    refine J_cge F (tgt := 115) dX5_walkAll_36 (by decide) (fun c_12 => ?_) (fun c_12 => ?_)
    · have h := h.1 c_12
      exact J_retv F ⟨rfl, h⟩ dX5_walkAll_115
    · have h := h.2 c_12
      refine J_iln F 3 dX5_walkAll_39 rfl rfl ?_
      refine J_il F 5 dX5_walkAll_40 rfl ?_
      refine J_ishr F dX5_walkAll_42 ?_
      refine J_ic F dX5_walkAll_43 ki_1 ?_
      refine J_iand F dX5_walkAll_44 ?_
      refine J_zeq F (tgt := 58) dX5_walkAll_45 (by decide) (fun c_13 => ?_) (fun c_13 => ?_)
      · have h := h.1 c_13
        refine J_ic F dX5_walkAll_58 ki_m1 ?_
        exact wk_X5_walkAll_59 F y1 i32 h
      · have h := h.2 c_13
        refine J_aln F 1 dX5_walkAll_48 rfl rfl ?_
        refine J_il F 5 dX5_walkAll_49 rfl ?_
        refine J_ic F dX5_walkAll_51 ki_0 ?_
        refine J_callVi F (As := [.int x5, .int (nI 0)]) (st := []) (C_X4_zoneOf l G a1 x5 (nI 0) y1 h) (ci := 4) y1 (by decide) rfl rfl lm_X5_34 li_X4_zoneOf ls_X4_zoneOf ini_X4 lc_X4_zoneOf hd_X4_zoneOf (by decide) (Nat.le_of_ble_eq_true rfl) (by decide) rfl dX5_walkAll_52 (fun r_14 σ_15 hh => ?_)
        clear h
        obtain ⟨e9, h⟩ := hh
        subst σ_15
        refine J_goto F (tgt := 59) dX5_walkAll_55 (by decide) ?_
        exact wk_X5_walkAll_59 F y1 i32 h
set_option maxRecDepth 20000 in
set_option maxHeartbeats 4000000 in
theorem C_X5_walkAll (l : Launch) (G : Gp) (a1 : Nat) (x2 : Int32) (x3 : Int32) (x4 : Int32) (y1 : lay a1 = (4, 0)) {σ : St} {Q : St → Prop} (h : wp_X5_walkAll σ a1 x2 x3 x4 Q) : Cn l yX5_walkAll cX5_walkAll 8 none 4 106 G [.ref (gb G + 180), .ref (gb G + a1), .int x2, .int x3, .int x4] σ (qV Q) := by
  refine Cn_of (L := [(0, .ref (gb G + 180)), (1, .ref (gb G + a1)), (2, .int x2), (3, .int x3), (4, .int x4)]) RX5 (by decide) rfl (Nat.le_of_ble_eq_true rfl) rfl ?_
  intro p e s m below meth c F
  unfold wp_X5_walkAll at h
  refine J_aln F 0 dX5_walkAll_0 rfl rfl ?_
  refine J_ic F dX5_walkAll_1 ki_0 ?_
  refine J_pfi F (ci := 5) 1 rfl inX5 tyX5 tyX5_ok nmX5 ly_180 (by decide) (by decide) rfl lf_X5_9 rfl rfl (tyX5_ok 1 (by decide)) rfl rfl dX5_walkAll_2 ?_
  refine J_st (fun σ_16 eσ_16 => ?_)
  have h := h σ_16 eσ_16
  refine J_aln F 0 dX5_walkAll_5 rfl rfl ?_
  refine J_ic F dX5_walkAll_6 ki_0 ?_
  refine J_pfi F (ci := 5) 2 rfl inX5 tyX5 tyX5_ok nmX5 ly_180 (by decide) (by decide) rfl lf_X5_15 rfl rfl (tyX5_ok 2 (by decide)) rfl rfl dX5_walkAll_7 ?_
  refine J_st (fun σ_17 eσ_17 => ?_)
  have h := h σ_17 eσ_17
  refine J_aln F 0 dX5_walkAll_10 rfl rfl ?_
  refine J_ic F dX5_walkAll_11 ki_m1 ?_
  refine J_pfi F (ci := 5) 3 rfl inX5 tyX5 tyX5_ok nmX5 ly_180 (by decide) (by decide) rfl lf_X5_18 rfl rfl (tyX5_ok 3 (by decide)) rfl rfl dX5_walkAll_12 ?_
  refine J_st (fun σ_18 eσ_18 => ?_)
  have h := h σ_18 eσ_18
  refine J_aln F 0 dX5_walkAll_15 rfl rfl ?_
  refine J_ic F dX5_walkAll_16 ki_0 ?_
  refine J_pfi F (ci := 5) 4 rfl inX5 tyX5 tyX5_ok nmX5 ly_180 (by decide) (by decide) rfl lf_X5_21 rfl rfl (tyX5_ok 4 (by decide)) rfl rfl dX5_walkAll_17 ?_
  refine J_st (fun σ_19 eσ_19 => ?_)
  have h := h σ_19 eσ_19
  refine J_aln F 0 dX5_walkAll_20 rfl rfl ?_
  refine J_gfa F (ci := 5) 0 rfl inX5 ly_180 (by decide) (by decide) rfl lf_X5_24 rfl dX5_walkAll_21 ?_
  refine J_aln F 1 dX5_walkAll_24 rfl rfl ?_
  refine J_iln F 2 dX5_walkAll_25 rfl rfl ?_
  refine J_callVv F (As := [.ref (gb G + a1), .int x2]) (st := []) (C_X7_lookBeside l G a1 x2 y1 h) (ci := 7) ly_176 (by decide) rfl rfl lm_X5_28 li_X7_lookBeside ls_X7_lookBeside ini_X7 lc_X7_lookBeside hd_X7_lookBeside (by decide) (Nat.le_of_ble_eq_true rfl) (by decide) rfl dX5_walkAll_26 (fun σ_20 h => ?_)
  refine J_ic F dX5_walkAll_29 ki_0 ?_
  refine J_is F (L' := [(5, .int (nI 0)), (0, .ref (gb G + 180)), (1, .ref (gb G + a1)), (2, .int x2), (3, .int x3), (4, .int x4)]) dX5_walkAll_30 (by decide) rfl ?_
  refine J_sub [1, 2, 3, 4, 5, 0] rfl ?_
  obtain ⟨n9, h⟩ := h
  exact wk_X5_walkAll_32 F y1 n9 _ _ h
theorem dX7_besideIn_0 : decode cX7_besideIn 0 = .ok (.aload_n 0, 1) := by decide +kernel
theorem dX7_besideIn_1 : decode cX7_besideIn 1 = .ok (.getfield 9, 3) := by decide +kernel
theorem dX7_besideIn_4 : decode cX7_besideIn 4 = .ok (.iload_n 1, 1) := by decide +kernel
theorem dX7_besideIn_5 : decode cX7_besideIn 5 = .ok (.bipush 10, 2) := by decide +kernel
theorem dX7_besideIn_7 : decode cX7_besideIn 7 = .ok (.imul, 1) := by decide +kernel
theorem dX7_besideIn_8 : decode cX7_besideIn 8 = .ok (.iload_n 2, 1) := by decide +kernel
theorem dX7_besideIn_9 : decode cX7_besideIn 9 = .ok (.iadd, 1) := by decide +kernel
theorem dX7_besideIn_10 : decode cX7_besideIn 10 = .ok (.iaload, 1) := by decide +kernel
theorem dX7_besideIn_11 : decode cX7_besideIn 11 = .ok (.ireturn, 1) := by decide +kernel
set_option maxRecDepth 20000 in
set_option maxHeartbeats 4000000 in
theorem C_X7_besideIn (l : Launch) (G : Gp) (x1 : Int32) (x2 : Int32)  {σ : St} {Q : Int32 → Prop} (h : wp_X7_besideIn σ x1 x2 Q) : Cn l yX7_besideIn cX7_besideIn 3 (some .int) 0 0 G [.ref (gb G + 176), .int x1, .int x2] σ (qI (fun r σ' => σ' = σ ∧ Q r)) := by
  refine Cn_of (L := [(0, .ref (gb G + 176)), (1, .int x1), (2, .int x2)]) RX7 (by decide) rfl (Nat.le_of_ble_eq_true rfl) rfl ?_
  intro p e s m below meth c F
  unfold wp_X7_besideIn at h
  refine J_aln F 0 dX7_besideIn_0 rfl rfl ?_
  refine J_gfa F (ci := 7) 0 rfl inX7 ly_176 (by decide) (by decide) rfl lf_X7_9 rfl dX7_besideIn_1 ?_
  refine J_iln F 1 dX7_besideIn_4 rfl rfl ?_
  refine J_bi F dX7_besideIn_5 kb_10 ?_
  refine J_imul F dX7_besideIn_7 ?_
  refine J_iln F 2 dX7_besideIn_8 rfl rfl ?_
  refine J_iadd F dX7_besideIn_9 ?_
  obtain ⟨h_1, h⟩ := h
  refine J_iald F ly_177 h_1 dX7_besideIn_10 ?_
  exact J_reti F ⟨_, rfl, rfl, h⟩ dX7_besideIn_11
theorem dX7_hopsOrNone_0 : decode cX7_hopsOrNone 0 = .ok (.aload_n 0, 1) := by decide +kernel
theorem dX7_hopsOrNone_1 : decode cX7_hopsOrNone 1 = .ok (.getfield 25, 3) := by decide +kernel
theorem dX7_hopsOrNone_4 : decode cX7_hopsOrNone 4 = .ok (.ifCond .eq 7, 3) := by decide +kernel
theorem dX7_hopsOrNone_7 : decode cX7_hopsOrNone 7 = .ok (.iconst (-1), 1) := by decide +kernel
theorem dX7_hopsOrNone_8 : decode cX7_hopsOrNone 8 = .ok (.goto 7, 3) := by decide +kernel
theorem dX7_hopsOrNone_11 : decode cX7_hopsOrNone 11 = .ok (.aload_n 0, 1) := by decide +kernel
theorem dX7_hopsOrNone_12 : decode cX7_hopsOrNone 12 = .ok (.getfield 21, 3) := by decide +kernel
theorem dX7_hopsOrNone_15 : decode cX7_hopsOrNone 15 = .ok (.ireturn, 1) := by decide +kernel
set_option maxRecDepth 20000 in
set_option maxHeartbeats 4000000 in
theorem C_X7_hopsOrNone (l : Launch) (G : Gp)   {σ : St} {Q : Int32 → Prop} (h : wp_X7_hopsOrNone σ  Q) : Cn l yX7_hopsOrNone cX7_hopsOrNone 1 (some .int) 0 0 G [.ref (gb G + 176)] σ (qI (fun r σ' => σ' = σ ∧ Q r)) := by
  refine Cn_of (L := [(0, .ref (gb G + 176))]) RX7 (by decide) rfl (Nat.le_of_ble_eq_true rfl) rfl ?_
  intro p e s m below meth c F
  unfold wp_X7_hopsOrNone at h
  refine J_aln F 0 dX7_hopsOrNone_0 rfl rfl ?_
  refine J_gfi F (ci := 7) 4 rfl inX7 ly_176 (by decide) (by decide) rfl lf_X7_25 rfl dX7_hopsOrNone_1 ?_
  refine J_zeq F (tgt := 11) dX7_hopsOrNone_4 (by decide) (fun c_1 => ?_) (fun c_1 => ?_)
  · have h := h.1 c_1
    refine J_aln F 0 dX7_hopsOrNone_11 rfl rfl ?_
    refine J_gfi F (ci := 7) 3 rfl inX7 ly_176 (by decide) (by decide) rfl lf_X7_21 rfl dX7_hopsOrNone_12 ?_
    exact J_reti F ⟨_, rfl, rfl, h⟩ dX7_hopsOrNone_15
  · have h := h.2 c_1
    refine J_ic F dX7_hopsOrNone_7 ki_m1 ?_
    refine J_goto F (tgt := 15) dX7_hopsOrNone_8 (by decide) ?_
    exact J_reti F ⟨_, rfl, rfl, h⟩ dX7_hopsOrNone_15
theorem dX7_nodeOfWay_0 : decode cX7_nodeOfWay 0 = .ok (.iload_n 1, 1) := by decide +kernel
theorem dX7_nodeOfWay_1 : decode cX7_nodeOfWay 1 = .ok (.ifCond .lt 20, 3) := by decide +kernel
theorem dX7_nodeOfWay_4 : decode cX7_nodeOfWay 4 = .ok (.iload_n 1, 1) := by decide +kernel
theorem dX7_nodeOfWay_5 : decode cX7_nodeOfWay 5 = .ok (.aload_n 0, 1) := by decide +kernel
theorem dX7_nodeOfWay_6 : decode cX7_nodeOfWay 6 = .ok (.getfield 21, 3) := by decide +kernel
theorem dX7_nodeOfWay_9 : decode cX7_nodeOfWay 9 = .ok (.if_icmp .gt 12, 3) := by decide +kernel
theorem dX7_nodeOfWay_12 : decode cX7_nodeOfWay 12 = .ok (.aload_n 0, 1) := by decide +kernel
theorem dX7_nodeOfWay_13 : decode cX7_nodeOfWay 13 = .ok (.getfield 18, 3) := by decide +kernel
theorem dX7_nodeOfWay_16 : decode cX7_nodeOfWay 16 = .ok (.iload_n 1, 1) := by decide +kernel
theorem dX7_nodeOfWay_17 : decode cX7_nodeOfWay 17 = .ok (.iaload, 1) := by decide +kernel
theorem dX7_nodeOfWay_18 : decode cX7_nodeOfWay 18 = .ok (.goto 4, 3) := by decide +kernel
theorem dX7_nodeOfWay_21 : decode cX7_nodeOfWay 21 = .ok (.iconst (-1), 1) := by decide +kernel
theorem dX7_nodeOfWay_22 : decode cX7_nodeOfWay 22 = .ok (.ireturn, 1) := by decide +kernel
set_option maxRecDepth 20000 in
set_option maxHeartbeats 4000000 in
theorem C_X7_nodeOfWay (l : Launch) (G : Gp) (x1 : Int32)  {σ : St} {Q : Int32 → Prop} (h : wp_X7_nodeOfWay σ x1 Q) : Cn l yX7_nodeOfWay cX7_nodeOfWay 2 (some .int) 0 0 G [.ref (gb G + 176), .int x1] σ (qI (fun r σ' => σ' = σ ∧ Q r)) := by
  refine Cn_of (L := [(0, .ref (gb G + 176)), (1, .int x1)]) RX7 (by decide) rfl (Nat.le_of_ble_eq_true rfl) rfl ?_
  intro p e s m below meth c F
  unfold wp_X7_nodeOfWay at h
  refine J_iln F 1 dX7_nodeOfWay_0 rfl rfl ?_
  refine J_zlt F (tgt := 21) dX7_nodeOfWay_1 (by decide) (fun c_1 => ?_) (fun c_1 => ?_)
  · have h := h.1 c_1
    refine J_ic F dX7_nodeOfWay_21 ki_m1 ?_
    exact J_reti F ⟨_, rfl, rfl, h⟩ dX7_nodeOfWay_22
  · have h := h.2 c_1
    refine J_iln F 1 dX7_nodeOfWay_4 rfl rfl ?_
    refine J_aln F 0 dX7_nodeOfWay_5 rfl rfl ?_
    refine J_gfi F (ci := 7) 3 rfl inX7 ly_176 (by decide) (by decide) rfl lf_X7_21 rfl dX7_nodeOfWay_6 ?_
    refine J_cgt F (tgt := 21) dX7_nodeOfWay_9 (by decide) (fun c_2 => ?_) (fun c_2 => ?_)
    · have h := h.1 c_2
      refine J_ic F dX7_nodeOfWay_21 ki_m1 ?_
      exact J_reti F ⟨_, rfl, rfl, h⟩ dX7_nodeOfWay_22
    · have h := h.2 c_2
      refine J_aln F 0 dX7_nodeOfWay_12 rfl rfl ?_
      refine J_gfa F (ci := 7) 2 rfl inX7 ly_176 (by decide) (by decide) rfl lf_X7_18 rfl dX7_nodeOfWay_13 ?_
      refine J_iln F 1 dX7_nodeOfWay_16 rfl rfl ?_
      obtain ⟨h_3, h⟩ := h
      refine J_iald F ly_179 h_3 dX7_nodeOfWay_17 ?_
      refine J_goto F (tgt := 22) dX7_nodeOfWay_18 (by decide) ?_
      exact J_reti F ⟨_, rfl, rfl, h⟩ dX7_nodeOfWay_22
theorem dX7_lastNode_0 : decode cX7_lastNode 0 = .ok (.aload_n 0, 1) := by decide +kernel
theorem dX7_lastNode_1 : decode cX7_lastNode 1 = .ok (.getfield 18, 3) := by decide +kernel
theorem dX7_lastNode_4 : decode cX7_lastNode 4 = .ok (.aload_n 0, 1) := by decide +kernel
theorem dX7_lastNode_5 : decode cX7_lastNode 5 = .ok (.getfield 21, 3) := by decide +kernel
theorem dX7_lastNode_8 : decode cX7_lastNode 8 = .ok (.iaload, 1) := by decide +kernel
theorem dX7_lastNode_9 : decode cX7_lastNode 9 = .ok (.ireturn, 1) := by decide +kernel
set_option maxRecDepth 20000 in
set_option maxHeartbeats 4000000 in
theorem C_X7_lastNode (l : Launch) (G : Gp)   {σ : St} {Q : Int32 → Prop} (h : wp_X7_lastNode σ  Q) : Cn l yX7_lastNode cX7_lastNode 1 (some .int) 0 0 G [.ref (gb G + 176)] σ (qI (fun r σ' => σ' = σ ∧ Q r)) := by
  refine Cn_of (L := [(0, .ref (gb G + 176))]) RX7 (by decide) rfl (Nat.le_of_ble_eq_true rfl) rfl ?_
  intro p e s m below meth c F
  unfold wp_X7_lastNode at h
  refine J_aln F 0 dX7_lastNode_0 rfl rfl ?_
  refine J_gfa F (ci := 7) 2 rfl inX7 ly_176 (by decide) (by decide) rfl lf_X7_18 rfl dX7_lastNode_1 ?_
  refine J_aln F 0 dX7_lastNode_4 rfl rfl ?_
  refine J_gfi F (ci := 7) 3 rfl inX7 ly_176 (by decide) (by decide) rfl lf_X7_21 rfl dX7_lastNode_5 ?_
  obtain ⟨h_1, h⟩ := h
  refine J_iald F ly_179 h_1 dX7_lastNode_8 ?_
  exact J_reti F ⟨_, rfl, rfl, h⟩ dX7_lastNode_9
