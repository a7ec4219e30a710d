theorem dX3_takeWord_0 : decode cX3_takeWord 0 = .ok (.aload_n 0, 1) := by decide +kernel
theorem dX3_takeWord_1 : decode cX3_takeWord 1 = .ok (.invokevirtual 29, 3) := by decide +kernel
theorem dX3_takeWord_4 : decode cX3_takeWord 4 = .ok (.aload_n 0, 1) := by decide +kernel
theorem dX3_takeWord_5 : decode cX3_takeWord 5 = .ok (.getfield 9, 3) := by decide +kernel
theorem dX3_takeWord_8 : decode cX3_takeWord 8 = .ok (.aload_n 1, 1) := by decide +kernel
theorem dX3_takeWord_9 : decode cX3_takeWord 9 = .ok (.invokevirtual 103, 3) := by decide +kernel
theorem dX3_takeWord_12 : decode cX3_takeWord 12 = .ok (.iadd, 1) := by decide +kernel
theorem dX3_takeWord_13 : decode cX3_takeWord 13 = .ok (.istore_n 2, 1) := by decide +kernel
theorem dX3_takeWord_14 : decode cX3_takeWord 14 = .ok (.iload_n 2, 1) := by decide +kernel
theorem dX3_takeWord_15 : decode cX3_takeWord 15 = .ok (.aload_n 0, 1) := by decide +kernel
theorem dX3_takeWord_16 : decode cX3_takeWord 16 = .ok (.getfield 25, 3) := by decide +kernel
theorem dX3_takeWord_19 : decode cX3_takeWord 19 = .ok (.getfield 32, 3) := by decide +kernel
theorem dX3_takeWord_22 : decode cX3_takeWord 22 = .ok (.if_icmp .gt 15, 3) := by decide +kernel
theorem dX3_takeWord_25 : decode cX3_takeWord 25 = .ok (.aload_n 0, 1) := by decide +kernel
theorem dX3_takeWord_26 : decode cX3_takeWord 26 = .ok (.iload_n 2, 1) := by decide +kernel
theorem dX3_takeWord_27 : decode cX3_takeWord 27 = .ok (.bipush 97, 2) := by decide +kernel
theorem dX3_takeWord_29 : decode cX3_takeWord 29 = .ok (.bipush 122, 2) := by decide +kernel
theorem dX3_takeWord_31 : decode cX3_takeWord 31 = .ok (.invokevirtual 91, 3) := by decide +kernel
theorem dX3_takeWord_34 : decode cX3_takeWord 34 = .ok (.ifCond .eq 5, 3) := by decide +kernel
theorem dX3_takeWord_37 : decode cX3_takeWord 37 = .ok (.iconst 0, 1) := by decide +kernel
theorem dX3_takeWord_38 : decode cX3_takeWord 38 = .ok (.ireturn, 1) := by decide +kernel
theorem dX3_takeWord_39 : decode cX3_takeWord 39 = .ok (.iconst 0, 1) := by decide +kernel
theorem dX3_takeWord_40 : decode cX3_takeWord 40 = .ok (.istore_n 3, 1) := by decide +kernel
theorem dX3_takeWord_41 : decode cX3_takeWord 41 = .ok (.iload_n 3, 1) := by decide +kernel
theorem dX3_takeWord_42 : decode cX3_takeWord 42 = .ok (.aload_n 1, 1) := by decide +kernel
theorem dX3_takeWord_43 : decode cX3_takeWord 43 = .ok (.invokevirtual 103, 3) := by decide +kernel
theorem dX3_takeWord_46 : decode cX3_takeWord 46 = .ok (.if_icmp .ge 34, 3) := by decide +kernel
theorem dX3_takeWord_49 : decode cX3_takeWord 49 = .ok (.aload_n 0, 1) := by decide +kernel
theorem dX3_takeWord_50 : decode cX3_takeWord 50 = .ok (.aload_n 0, 1) := by decide +kernel
theorem dX3_takeWord_51 : decode cX3_takeWord 51 = .ok (.getfield 9, 3) := by decide +kernel
theorem dX3_takeWord_54 : decode cX3_takeWord 54 = .ok (.iload_n 3, 1) := by decide +kernel
theorem dX3_takeWord_55 : decode cX3_takeWord 55 = .ok (.iadd, 1) := by decide +kernel
theorem dX3_takeWord_56 : decode cX3_takeWord 56 = .ok (.aload_n 1, 1) := by decide +kernel
theorem dX3_takeWord_57 : decode cX3_takeWord 57 = .ok (.iload_n 3, 1) := by decide +kernel
theorem dX3_takeWord_58 : decode cX3_takeWord 58 = .ok (.invokevirtual 108, 3) := by decide +kernel
theorem dX3_takeWord_61 : decode cX3_takeWord 61 = .ok (.aload_n 1, 1) := by decide +kernel
theorem dX3_takeWord_62 : decode cX3_takeWord 62 = .ok (.iload_n 3, 1) := by decide +kernel
theorem dX3_takeWord_63 : decode cX3_takeWord 63 = .ok (.invokevirtual 108, 3) := by decide +kernel
theorem dX3_takeWord_66 : decode cX3_takeWord 66 = .ok (.invokevirtual 91, 3) := by decide +kernel
theorem dX3_takeWord_69 : decode cX3_takeWord 69 = .ok (.ifCond .ne 5, 3) := by decide +kernel
theorem dX3_takeWord_72 : decode cX3_takeWord 72 = .ok (.iconst 0, 1) := by decide +kernel
theorem dX3_takeWord_73 : decode cX3_takeWord 73 = .ok (.ireturn, 1) := by decide +kernel
theorem dX3_takeWord_74 : decode cX3_takeWord 74 = .ok (.iinc 3 1, 3) := by decide +kernel
theorem dX3_takeWord_77 : decode cX3_takeWord 77 = .ok (.goto (-36), 3) := by decide +kernel
theorem dX3_takeWord_80 : decode cX3_takeWord 80 = .ok (.aload_n 0, 1) := by decide +kernel
theorem dX3_takeWord_81 : decode cX3_takeWord 81 = .ok (.iload_n 2, 1) := by decide +kernel
theorem dX3_takeWord_82 : decode cX3_takeWord 82 = .ok (.putfield 9, 3) := by decide +kernel
theorem dX3_takeWord_85 : decode cX3_takeWord 85 = .ok (.iconst 1, 1) := by decide +kernel
theorem dX3_takeWord_86 : decode cX3_takeWord 86 = .ok (.ireturn, 1) := by decide +kernel
set_option maxRecDepth 20000 in
set_option maxHeartbeats 4000000 in
theorem wk_X3_takeWord_41 {p : Program} {l : Launch} {e : Env} {s : State} {m : MethodId} {args : Array Value} {below : List Frame} {meth : Method} {c : Code} {G : Gp} {σ : St} {w1 : Nat} {x2 : Int32}  {Q : Int32 → St → Prop} (F : FX p s m args meth c cX3_takeWord 4 (some .boolean) RX3 G) (y1 : w1 < 12)  : ∀ (n9 : Nat) (x3 : Int32), LP1 (wp_X3_takeWord_41 σ w1 x2 Q) n9 x3 → J p l e (rmF 5 120) s m args below meth c 4 G (MQ below (QQ G (qI Q)) args s 0 0 (fr G)) 0 0 41 [(0, .ref (gb G + 3)), (1, .ref (gx G w1)), (2, .int x2), (3, .int x3)] [] σ := by
  intro n9
  induction n9 with
  | zero => intro x3 h; exact h.elim
  | succ n9 i41 =>
    intro x3 h
    have h : wp_X3_takeWord_41 σ w1 x2 Q (LP1 (wp_X3_takeWord_41 σ w1 x2 Q) n9) x3 := h
    unfold wp_X3_takeWord_41 at h
    refine J_iln F 3 dX3_takeWord_41 rfl rfl ?_
    refine J_aln F 1 dX3_takeWord_42 rfl rfl ?_
    refine J_slen F y1 lm_X3_103 (by decide) (Nat.le_of_ble_eq_true rfl) (by decide) dX3_takeWord_43 ?_
    refine J_cge F (tgt := 80) dX3_takeWord_46 (by decide) (fun c_1 => ?_) (fun c_1 => ?_)
    · have h := h.1 c_1
      refine J_aln F 0 dX3_takeWord_80 rfl rfl ?_
      refine J_iln F 2 dX3_takeWord_81 rfl rfl ?_
      refine J_pfi F (ci := 3) 1 rfl inX3 tyX3 tyX3_ok nmX3 ly_3 (by decide) (by decide) rfl lf_X3_9 rfl rfl (tyX3_ok 1 (by decide)) rfl rfl dX3_takeWord_82 ?_
      refine J_st (fun σ_2 eσ_2 => ?_)
      have h := h σ_2 eσ_2
      refine J_ic F dX3_takeWord_85 ki_1 ?_
      exact J_retz F (Or.inr rfl) ⟨_, rfl, h⟩ dX3_takeWord_86
    · have h := h.2 c_1
      refine J_aln F 0 dX3_takeWord_49 rfl rfl ?_
      refine J_aln F 0 dX3_takeWord_50 rfl rfl ?_
      refine J_gfi F (ci := 3) 1 rfl inX3 ly_3 (by decide) (by decide) rfl lf_X3_9 rfl dX3_takeWord_51 ?_
      refine J_iln F 3 dX3_takeWord_54 rfl rfl ?_
      refine J_iadd F dX3_takeWord_55 ?_
      refine J_aln F 1 dX3_takeWord_56 rfl rfl ?_
      refine J_iln F 3 dX3_takeWord_57 rfl rfl ?_
      obtain ⟨h_3, h⟩ := h
      refine J_char F y1 h_3 lm_X3_108 (by decide) (Nat.le_of_ble_eq_true rfl) (by decide) dX3_takeWord_58 ?_
      refine J_aln F 1 dX3_takeWord_61 rfl rfl ?_
      refine J_iln F 3 dX3_takeWord_62 rfl rfl ?_
      obtain ⟨h_4, h⟩ := h
      refine J_char F y1 h_4 lm_X3_108 (by decide) (Nat.le_of_ble_eq_true rfl) (by decide) dX3_takeWord_63 ?_
      refine J_callVi F (As := [.int ((σ 3 1) + x3), .int ((litB.getD w1 []).getD (Int32.toNatClampNeg x3) 0), .int ((litB.getD w1 []).getD (Int32.toNatClampNeg x3) 0)]) (st := []) (C_X3_isBetween l G ((σ 3 1) + x3) ((litB.getD w1 []).getD (Int32.toNatClampNeg x3) 0) ((litB.getD w1 []).getD (Int32.toNatClampNeg x3) 0)  h) (ci := 3) ly_3 (by decide) rfl rfl lm_X3_91 li_X3_isBetween ls_X3_isBetween ini_X3 lc_X3_isBetween hd_X3_isBetween (by decide) (Nat.le_of_ble_eq_true rfl) (by decide) rfl dX3_takeWord_66 (fun r_5 σ_6 hh => ?_)
      clear h
      obtain ⟨e9, h⟩ := hh
      subst σ_6
      refine J_zne F (tgt := 74) dX3_takeWord_69 (by decide) (fun c_7 => ?_) (fun c_7 => ?_)
      · have h := h.1 c_7
        obtain ⟨x3_8, ex3_8⟩ : ∃ z : Int32, z = x3 + (nI 1) := ⟨_, rfl⟩
        have h := h x3_8 ex3_8
        refine J_iinc F (v := x3_8) (L' := [(3, .int x3_8), (0, .ref (gb G + 3)), (1, .ref (gx G w1)), (2, .int x2)]) 3 dX3_takeWord_74 rfl (by rw [ki_1, ex3_8]) (by decide) rfl ?_
        refine J_goto F (tgt := 41) dX3_takeWord_77 (by decide) ?_
        refine J_sub [1, 2, 3, 0] rfl ?_
        exact i41 _ h
      · have h := h.2 c_7
        refine J_ic F dX3_takeWord_72 ki_0 ?_
        exact J_retz F (Or.inl rfl) ⟨_, rfl, h⟩ dX3_takeWord_73
set_option maxRecDepth 20000 in
set_option maxHeartbeats 4000000 in
theorem C_X3_takeWord (l : Launch) (G : Gp) (w1 : Nat) (y1 : w1 < 12) {σ : St} {Q : Int32 → St → Prop} (h : wp_X3_takeWord σ w1 Q) : Cn l yX3_takeWord cX3_takeWord 4 (some .boolean) 5 120 G [.ref (gb G + 3), .ref (gx G w1)] σ (qI Q) := by
  refine Cn_of (L := [(0, .ref (gb G + 3)), (1, .ref (gx G w1))]) RX3 (by decide) rfl (Nat.le_of_ble_eq_true rfl) rfl ?_
  intro p e s m below meth c F
  unfold wp_X3_takeWord at h
  refine J_aln F 0 dX3_takeWord_0 rfl rfl ?_
  refine J_callVv F (As := []) (st := []) (C_X3_skipBlanks l G   h) (ci := 3) ly_3 (by decide) rfl rfl lm_X3_29 li_X3_skipBlanks ls_X3_skipBlanks ini_X3 lc_X3_skipBlanks hd_X3_skipBlanks (by decide) (Nat.le_of_ble_eq_true rfl) (by decide) rfl dX3_takeWord_1 (fun σ_9 h => ?_)
  refine J_aln F 0 dX3_takeWord_4 rfl rfl ?_
  refine J_gfi F (ci := 3) 1 rfl inX3 ly_3 (by decide) (by decide) rfl lf_X3_9 rfl dX3_takeWord_5 ?_
  refine J_aln F 1 dX3_takeWord_8 rfl rfl ?_
  refine J_slen F y1 lm_X3_103 (by decide) (Nat.le_of_ble_eq_true rfl) (by decide) dX3_takeWord_9 ?_
  refine J_iadd F dX3_takeWord_12 ?_
  refine J_top (fun x2_10 ex2_10 => ?_)
  have h := h x2_10 ex2_10
  refine J_isn F (L' := [(2, .int x2_10), (0, .ref (gb G + 3)), (1, .ref (gx G w1))]) dX3_takeWord_13 rfl (by decide) rfl ?_
  refine J_iln F 0 dX3_takeWord_14 rfl rfl ?_
  refine J_aln F 1 dX3_takeWord_15 rfl rfl ?_
  refine J_gfa F (ci := 3) 0 rfl inX3 ly_3 (by decide) (by decide) rfl lf_X3_25 rfl dX3_takeWord_16 ?_
  refine J_gfi F (ci := 6) 1 rfl inX6 ly_1 (by decide) (by decide) rfl lf_X3_32 rfl dX3_takeWord_19 ?_
  refine J_cgt F (tgt := 37) dX3_takeWord_22 (by decide) (fun c_11 => ?_) (fun c_11 => ?_)
  · have h := h.1 c_11
    refine J_ic F dX3_takeWord_37 ki_0 ?_
    exact J_retz F (Or.inl rfl) ⟨_, rfl, h⟩ dX3_takeWord_38
  · have h := h.2 c_11
    refine J_aln F 1 dX3_takeWord_25 rfl rfl ?_
    refine J_iln F 0 dX3_takeWord_26 rfl rfl ?_
    refine J_bi F dX3_takeWord_27 kb_97 ?_
    refine J_bi F dX3_takeWord_29 kb_122 ?_
    refine J_callVi F (As := [.int x2_10, .int (nI 97), .int (nI 122)]) (st := []) (C_X3_isBetween l G x2_10 (nI 97) (nI 122)  h) (ci := 3) ly_3 (by decide) rfl rfl lm_X3_91 li_X3_isBetween ls_X3_isBetween ini_X3 lc_X3_isBetween hd_X3_isBetween (by decide) (Nat.le_of_ble_eq_true rfl) (by decide) rfl dX3_takeWord_31 (fun r_12 σ_13 hh => ?_)
    clear h
    obtain ⟨e9, h⟩ := hh
    subst σ_13
    refine J_zeq F (tgt := 39) dX3_takeWord_34 (by decide) (fun c_14 => ?_) (fun c_14 => ?_)
    · have h := h.1 c_14
      refine J_ic F dX3_takeWord_39 ki_0 ?_
      refine J_isn F (L' := [(3, .int (nI 0)), (2, .int x2_10), (0, .ref (gb G + 3)), (1, .ref (gx G w1))]) dX3_takeWord_40 rfl (by decide) rfl ?_
      refine J_sub [2, 3, 1, 0] rfl ?_
      obtain ⟨n9, h⟩ := h
      exact wk_X3_takeWord_41 F y1 n9 _ h
    · have h := h.2 c_14
      refine J_ic F dX3_takeWord_37 ki_0 ?_
      exact J_retz F (Or.inl rfl) ⟨_, rfl, h⟩ dX3_takeWord_38
theorem dX3_takeKind_0 : decode cX3_takeKind 0 = .ok (.aload_n 0, 1) := by decide +kernel
theorem dX3_takeKind_1 : decode cX3_takeKind 1 = .ok (.ldc 48, 2) := by decide +kernel
theorem dX3_takeKind_3 : decode cX3_takeKind 3 = .ok (.invokevirtual 50, 3) := by decide +kernel
theorem dX3_takeKind_6 : decode cX3_takeKind 6 = .ok (.ifCond .eq 7, 3) := by decide +kernel
theorem dX3_takeKind_9 : decode cX3_takeKind 9 = .ok (.iconst 0, 1) := by decide +kernel
theorem dX3_takeKind_10 : decode cX3_takeKind 10 = .ok (.goto 126, 3) := by decide +kernel
theorem dX3_takeKind_13 : decode cX3_takeKind 13 = .ok (.aload_n 0, 1) := by decide +kernel
theorem dX3_takeKind_14 : decode cX3_takeKind 14 = .ok (.ldc 54, 2) := by decide +kernel
theorem dX3_takeKind_16 : decode cX3_takeKind 16 = .ok (.invokevirtual 50, 3) := by decide +kernel
theorem dX3_takeKind_19 : decode cX3_takeKind 19 = .ok (.ifCond .eq 7, 3) := by decide +kernel
theorem dX3_takeKind_22 : decode cX3_takeKind 22 = .ok (.iconst 1, 1) := by decide +kernel
theorem dX3_takeKind_23 : decode cX3_takeKind 23 = .ok (.goto 113, 3) := by decide +kernel
theorem dX3_takeKind_26 : decode cX3_takeKind 26 = .ok (.aload_n 0, 1) := by decide +kernel
theorem dX3_takeKind_27 : decode cX3_takeKind 27 = .ok (.ldc 56, 2) := by decide +kernel
theorem dX3_takeKind_29 : decode cX3_takeKind 29 = .ok (.invokevirtual 50, 3) := by decide +kernel
theorem dX3_takeKind_32 : decode cX3_takeKind 32 = .ok (.ifCond .eq 7, 3) := by decide +kernel
theorem dX3_takeKind_35 : decode cX3_takeKind 35 = .ok (.iconst 2, 1) := by decide +kernel
theorem dX3_takeKind_36 : decode cX3_takeKind 36 = .ok (.goto 100, 3) := by decide +kernel
theorem dX3_takeKind_39 : decode cX3_takeKind 39 = .ok (.aload_n 0, 1) := by decide +kernel
theorem dX3_takeKind_40 : decode cX3_takeKind 40 = .ok (.ldc 58, 2) := by decide +kernel
theorem dX3_takeKind_42 : decode cX3_takeKind 42 = .ok (.invokevirtual 50, 3) := by decide +kernel
theorem dX3_takeKind_45 : decode cX3_takeKind 45 = .ok (.ifCond .eq 7, 3) := by decide +kernel
theorem dX3_takeKind_48 : decode cX3_takeKind 48 = .ok (.iconst 4, 1) := by decide +kernel
theorem dX3_takeKind_49 : decode cX3_takeKind 49 = .ok (.goto 87, 3) := by decide +kernel
theorem dX3_takeKind_52 : decode cX3_takeKind 52 = .ok (.aload_n 0, 1) := by decide +kernel
theorem dX3_takeKind_53 : decode cX3_takeKind 53 = .ok (.ldc 60, 2) := by decide +kernel
theorem dX3_takeKind_55 : decode cX3_takeKind 55 = .ok (.invokevirtual 50, 3) := by decide +kernel
theorem dX3_takeKind_58 : decode cX3_takeKind 58 = .ok (.ifCond .eq 7, 3) := by decide +kernel
theorem dX3_takeKind_61 : decode cX3_takeKind 61 = .ok (.iconst 5, 1) := by decide +kernel
theorem dX3_takeKind_62 : decode cX3_takeKind 62 = .ok (.goto 74, 3) := by decide +kernel
theorem dX3_takeKind_65 : decode cX3_takeKind 65 = .ok (.aload_n 0, 1) := by decide +kernel
theorem dX3_takeKind_66 : decode cX3_takeKind 66 = .ok (.ldc 62, 2) := by decide +kernel
theorem dX3_takeKind_68 : decode cX3_takeKind 68 = .ok (.invokevirtual 50, 3) := by decide +kernel
theorem dX3_takeKind_71 : decode cX3_takeKind 71 = .ok (.ifCond .eq 8, 3) := by decide +kernel
theorem dX3_takeKind_74 : decode cX3_takeKind 74 = .ok (.bipush 6, 2) := by decide +kernel
theorem dX3_takeKind_76 : decode cX3_takeKind 76 = .ok (.goto 60, 3) := by decide +kernel
theorem dX3_takeKind_79 : decode cX3_takeKind 79 = .ok (.aload_n 0, 1) := by decide +kernel
theorem dX3_takeKind_80 : decode cX3_takeKind 80 = .ok (.ldc 64, 2) := by decide +kernel
theorem dX3_takeKind_82 : decode cX3_takeKind 82 = .ok (.invokevirtual 50, 3) := by decide +kernel
theorem dX3_takeKind_85 : decode cX3_takeKind 85 = .ok (.ifCond .eq 8, 3) := by decide +kernel
theorem dX3_takeKind_88 : decode cX3_takeKind 88 = .ok (.bipush 7, 2) := by decide +kernel
theorem dX3_takeKind_90 : decode cX3_takeKind 90 = .ok (.goto 46, 3) := by decide +kernel
theorem dX3_takeKind_93 : decode cX3_takeKind 93 = .ok (.aload_n 0, 1) := by decide +kernel
theorem dX3_takeKind_94 : decode cX3_takeKind 94 = .ok (.ldc 66, 2) := by decide +kernel
theorem dX3_takeKind_96 : decode cX3_takeKind 96 = .ok (.invokevirtual 50, 3) := by decide +kernel
theorem dX3_takeKind_99 : decode cX3_takeKind 99 = .ok (.ifCond .eq 8, 3) := by decide +kernel
theorem dX3_takeKind_102 : decode cX3_takeKind 102 = .ok (.bipush 8, 2) := by decide +kernel
theorem dX3_takeKind_104 : decode cX3_takeKind 104 = .ok (.goto 32, 3) := by decide +kernel
theorem dX3_takeKind_107 : decode cX3_takeKind 107 = .ok (.aload_n 0, 1) := by decide +kernel
theorem dX3_takeKind_108 : decode cX3_takeKind 108 = .ok (.ldc 68, 2) := by decide +kernel
theorem dX3_takeKind_110 : decode cX3_takeKind 110 = .ok (.invokevirtual 50, 3) := by decide +kernel
theorem dX3_takeKind_113 : decode cX3_takeKind 113 = .ok (.ifCond .eq 8, 3) := by decide +kernel
theorem dX3_takeKind_116 : decode cX3_takeKind 116 = .ok (.bipush 9, 2) := by decide +kernel
theorem dX3_takeKind_118 : decode cX3_takeKind 118 = .ok (.goto 18, 3) := by decide +kernel
theorem dX3_takeKind_121 : decode cX3_takeKind 121 = .ok (.aload_n 0, 1) := by decide +kernel
theorem dX3_takeKind_122 : decode cX3_takeKind 122 = .ok (.ldc 70, 2) := by decide +kernel
theorem dX3_takeKind_124 : decode cX3_takeKind 124 = .ok (.invokevirtual 50, 3) := by decide +kernel
theorem dX3_takeKind_127 : decode cX3_takeKind 127 = .ok (.ifCond .eq 8, 3) := by decide +kernel
theorem dX3_takeKind_130 : decode cX3_takeKind 130 = .ok (.bipush 10, 2) := by decide +kernel
theorem dX3_takeKind_132 : decode cX3_takeKind 132 = .ok (.goto 4, 3) := by decide +kernel
theorem dX3_takeKind_135 : decode cX3_takeKind 135 = .ok (.iconst (-1), 1) := by decide +kernel
theorem dX3_takeKind_136 : decode cX3_takeKind 136 = .ok (.istore_n 2, 1) := by decide +kernel
theorem dX3_takeKind_137 : decode cX3_takeKind 137 = .ok (.aload_n 1, 1) := by decide +kernel
theorem dX3_takeKind_138 : decode cX3_takeKind 138 = .ok (.iload_n 2, 1) := by decide +kernel
theorem dX3_takeKind_139 : decode cX3_takeKind 139 = .ok (.iconst 0, 1) := by decide +kernel
theorem dX3_takeKind_140 : decode cX3_takeKind 140 = .ok (.iconst 0, 1) := by decide +kernel
theorem dX3_takeKind_141 : decode cX3_takeKind 141 = .ok (.iconst 0, 1) := by decide +kernel
theorem dX3_takeKind_142 : decode cX3_takeKind 142 = .ok (.iconst 0, 1) := by decide +kernel
theorem dX3_takeKind_143 : decode cX3_takeKind 143 = .ok (.invokevirtual 72, 3) := by decide +kernel
theorem dX3_takeKind_146 : decode cX3_takeKind 146 = .ok (.iload_n 2, 1) := by decide +kernel
theorem dX3_takeKind_147 : decode cX3_takeKind 147 = .ok (.iconst (-1), 1) := by decide +kernel
theorem dX3_takeKind_148 : decode cX3_takeKind 148 = .ok (.if_icmp .eq 7, 3) := by decide +kernel
theorem dX3_takeKind_151 : decode cX3_takeKind 151 = .ok (.iconst 1, 1) := by decide +kernel
theorem dX3_takeKind_152 : decode cX3_takeKind 152 = .ok (.goto 4, 3) := by decide +kernel
theorem dX3_takeKind_155 : decode cX3_takeKind 155 = .ok (.iconst 0, 1) := by decide +kernel
theorem dX3_takeKind_156 : decode cX3_takeKind 156 = .ok (.ireturn, 1) := by decide +kernel
set_option maxRecDepth 20000 in
set_option maxHeartbeats 4000000 in
theorem wk_X3_takeKind_136 {p : Program} {l : Launch} {e : Env} {s : State} {m : MethodId} {args : Array Value} {below : List Frame} {meth : Method} {c : Code} {G : Gp} {σ : St} {t0 : Int32}  {Q : Int32 → St → Prop} (F : FX p s m args meth c cX3_takeKind 3 (some .boolean) RX3 G)   (h : wp_X3_takeKind_136 σ t0 Q) : J p l e (rmF 6 143) s m args below meth c 3 G (MQ below (QQ G (qI Q)) args s 0 0 (fr G)) 0 0 136 [(1, .ref (gb G + 4))] [.int t0] σ := by
  unfold wp_X3_takeKind_136 at h
  refine J_isn F (L' := [(2, .int t0), (1, .ref (gb G + 4))]) dX3_takeKind_136 rfl (by decide) rfl ?_
  refine J_aln F 1 dX3_takeKind_137 rfl rfl ?_
  refine J_iln F 0 dX3_takeKind_138 rfl rfl ?_
  refine J_ic F dX3_takeKind_139 ki_0 ?_
  refine J_ic F dX3_takeKind_140 ki_0 ?_
  refine J_ic F dX3_takeKind_141 ki_0 ?_
  refine J_ic F dX3_takeKind_142 ki_0 ?_
  refine J_callVv F (As := [.int t0, .int (nI 0), .int (nI 0), .int (nI 0), .int (nI 0)]) (st := []) (C_X0_tell l G t0 (nI 0) (nI 0) (nI 0) (nI 0)  h) (ci := 0) ly_4 (by decide) rfl rfl lm_X3_72 li_X0_tell ls_X0_tell ini_X0 lc_X0_tell hd_X0_tell (by decide) (Nat.le_of_ble_eq_true rfl) (by decide) rfl dX3_takeKind_143 (fun σ_1 h => ?_)
  refine J_iln F 0 dX3_takeKind_146 rfl rfl ?_
  refine J_ic F dX3_takeKind_147 ki_m1 ?_
  refine J_ceq F (tgt := 155) dX3_takeKind_148 (by decide) (fun c_2 => ?_) (fun c_2 => ?_)
  · have h := h.1 c_2
    refine J_ic F dX3_takeKind_155 ki_0 ?_
    exact J_retz F (Or.inl rfl) ⟨_, rfl, h⟩ dX3_takeKind_156
  · have h := h.2 c_2
    refine J_ic F dX3_takeKind_151 ki_1 ?_
    refine J_goto F (tgt := 156) dX3_takeKind_152 (by decide) ?_
    exact J_retz F (Or.inr rfl) ⟨_, rfl, h⟩ dX3_takeKind_156
set_option maxRecDepth 20000 in
set_option maxHeartbeats 4000000 in
theorem C_X3_takeKind (l : Launch) (G : Gp)   {σ : St} {Q : Int32 → St → Prop} (h : wp_X3_takeKind σ  Q) : Cn l yX3_takeKind cX3_takeKind 3 (some .boolean) 6 143 G [.ref (gb G + 3), .ref (gb G + 4)] σ (qI Q) := by
  refine Cn_of (L := [(0, .ref (gb G + 3)), (1, .ref (gb G + 4))]) RX3 (by decide) rfl (Nat.le_of_ble_eq_true rfl) rfl ?_
  intro p e s m below meth c F
  unfold wp_X3_takeKind at h
  refine J_aln F 0 dX3_takeKind_0 rfl rfl ?_
  refine J_lds F (i := 0) txR (Or.inl ⟨rfl, rfl⟩) (q := (48, "net")) (w := 0) rfl dX3_takeKind_1 ?_
  refine J_callVi F (As := [.ref (gx G 0)]) (st := []) (C_X3_takeWord l G 0 (by decide) h) (ci := 3) ly_3 (by decide) rfl rfl lm_X3_50 li_X3_takeWord ls_X3_takeWord ini_X3 lc_X3_takeWord hd_X3_takeWord (by decide) (Nat.le_of_ble_eq_true rfl) (by decide) rfl dX3_takeKind_3 (fun r_3 σ_4 h => ?_)
  refine J_zeq F (tgt := 13) dX3_takeKind_6 (by decide) (fun c_5 => ?_) (fun c_5 => ?_)
  · have h := h.1 c_5
    refine J_aln F 0 dX3_takeKind_13 rfl rfl ?_
    refine J_lds F (i := 0) txR (Or.inl ⟨rfl, rfl⟩) (q := (54, "landmark")) (w := 1) rfl dX3_takeKind_14 ?_
    refine J_callVi F (As := [.ref (gx G 1)]) (st := []) (C_X3_takeWord l G 1 (by decide) h) (ci := 3) ly_3 (by decide) rfl rfl lm_X3_50 li_X3_takeWord ls_X3_takeWord ini_X3 lc_X3_takeWord hd_X3_takeWord (by decide) (Nat.le_of_ble_eq_true rfl) (by decide) rfl dX3_takeKind_16 (fun r_6 σ_7 h => ?_)
    refine J_zeq F (tgt := 26) dX3_takeKind_19 (by decide) (fun c_8 => ?_) (fun c_8 => ?_)
    · have h := h.1 c_8
      refine J_aln F 0 dX3_takeKind_26 rfl rfl ?_
      refine J_lds F (i := 0) txR (Or.inl ⟨rfl, rfl⟩) (q := (56, "join")) (w := 2) rfl dX3_takeKind_27 ?_
      refine J_callVi F (As := [.ref (gx G 2)]) (st := []) (C_X3_takeWord l G 2 (by decide) h) (ci := 3) ly_3 (by decide) rfl rfl lm_X3_50 li_X3_takeWord ls_X3_takeWord ini_X3 lc_X3_takeWord hd_X3_takeWord (by decide) (Nat.le_of_ble_eq_true rfl) (by decide) rfl dX3_takeKind_29 (fun r_9 σ_10 h => ?_)
      refine J_zeq F (tgt := 39) dX3_takeKind_32 (by decide) (fun c_11 => ?_) (fun c_11 => ?_)
      · have h := h.1 c_11
        refine J_aln F 0 dX3_takeKind_39 rfl rfl ?_
        refine J_lds F (i := 0) txR (Or.inl ⟨rfl, rfl⟩) (q := (58, "leave")) (w := 3) rfl dX3_takeKind_40 ?_
        refine J_callVi F (As := [.ref (gx G 3)]) (st := []) (C_X3_takeWord l G 3 (by decide) h) (ci := 3) ly_3 (by decide) rfl rfl lm_X3_50 li_X3_takeWord ls_X3_takeWord ini_X3 lc_X3_takeWord hd_X3_takeWord (by decide) (Nat.le_of_ble_eq_true rfl) (by decide) rfl dX3_takeKind_42 (fun r_12 σ_13 h => ?_)
        refine J_zeq F (tgt := 52) dX3_takeKind_45 (by decide) (fun c_14 => ?_) (fun c_14 => ?_)
        · have h := h.1 c_14
          refine J_aln F 0 dX3_takeKind_52 rfl rfl ?_
          refine J_lds F (i := 0) txR (Or.inl ⟨rfl, rfl⟩) (q := (60, "crash")) (w := 4) rfl dX3_takeKind_53 ?_
          refine J_callVi F (As := [.ref (gx G 4)]) (st := []) (C_X3_takeWord l G 4 (by decide) h) (ci := 3) ly_3 (by decide) rfl rfl lm_X3_50 li_X3_takeWord ls_X3_takeWord ini_X3 lc_X3_takeWord hd_X3_takeWord (by decide) (Nat.le_of_ble_eq_true rfl) (by decide) rfl dX3_takeKind_55 (fun r_15 σ_16 h => ?_)
          refine J_zeq F (tgt := 65) dX3_takeKind_58 (by decide) (fun c_17 => ?_) (fun c_17 => ?_)
          · have h := h.1 c_17
            refine J_aln F 0 dX3_takeKind_65 rfl rfl ?_
            refine J_lds F (i := 0) txR (Or.inl ⟨rfl, rfl⟩) (q := (62, "notice")) (w := 5) rfl dX3_takeKind_66 ?_
            refine J_callVi F (As := [.ref (gx G 5)]) (st := []) (C_X3_takeWord l G 5 (by decide) h) (ci := 3) ly_3 (by decide) rfl rfl lm_X3_50 li_X3_takeWord ls_X3_takeWord ini_X3 lc_X3_takeWord hd_X3_takeWord (by decide) (Nat.le_of_ble_eq_true rfl) (by decide) rfl dX3_takeKind_68 (fun r_18 σ_19 h => ?_)
            refine J_zeq F (tgt := 79) dX3_takeKind_71 (by decide) (fun c_20 => ?_) (fun c_20 => ?_)
            · have h := h.1 c_20
              refine J_aln F 0 dX3_takeKind_79 rfl rfl ?_
              refine J_lds F (i := 0) txR (Or.inl ⟨rfl, rfl⟩) (q := (64, "tidy")) (w := 6) rfl dX3_takeKind_80 ?_
              refine J_callVi F (As := [.ref (gx G 6)]) (st := []) (C_X3_takeWord l G 6 (by decide) h) (ci := 3) ly_3 (by decide) rfl rfl lm_X3_50 li_X3_takeWord ls_X3_takeWord ini_X3 lc_X3_takeWord hd_X3_takeWord (by decide) (Nat.le_of_ble_eq_true rfl) (by decide) rfl dX3_takeKind_82 (fun r_21 σ_22 h => ?_)
              refine J_zeq F (tgt := 93) dX3_takeKind_85 (by decide) (fun c_23 => ?_) (fun c_23 => ?_)
              · have h := h.1 c_23
                refine J_aln F 0 dX3_takeKind_93 rfl rfl ?_
                refine J_lds F (i := 0) txR (Or.inl ⟨rfl, rfl⟩) (q := (66, "put")) (w := 7) rfl dX3_takeKind_94 ?_
                refine J_callVi F (As := [.ref (gx G 7)]) (st := []) (C_X3_takeWord l G 7 (by decide) h) (ci := 3) ly_3 (by decide) rfl rfl lm_X3_50 li_X3_takeWord ls_X3_takeWord ini_X3 lc_X3_takeWord hd_X3_takeWord (by decide) (Nat.le_of_ble_eq_true rfl) (by decide) rfl dX3_takeKind_96 (fun r_24 σ_25 h => ?_)
                refine J_zeq F (tgt := 107) dX3_takeKind_99 (by decide) (fun c_26 => ?_) (fun c_26 => ?_)
                · have h := h.1 c_26
                  refine J_aln F 0 dX3_takeKind_107 rfl rfl ?_
                  refine J_lds F (i := 0) txR (Or.inl ⟨rfl, rfl⟩) (q := (68, "cut")) (w := 8) rfl dX3_takeKind_108 ?_
                  refine J_callVi F (As := [.ref (gx G 8)]) (st := []) (C_X3_takeWord l G 8 (by decide) h) (ci := 3) ly_3 (by decide) rfl rfl lm_X3_50 li_X3_takeWord ls_X3_takeWord ini_X3 lc_X3_takeWord hd_X3_takeWord (by decide) (Nat.le_of_ble_eq_true rfl) (by decide) rfl dX3_takeKind_110 (fun r_27 σ_28 h => ?_)
                  refine J_zeq F (tgt := 121) dX3_takeKind_113 (by decide) (fun c_29 => ?_) (fun c_29 => ?_)
                  · have h := h.1 c_29
                    refine J_aln F 0 dX3_takeKind_121 rfl rfl ?_
                    refine J_lds F (i := 0) txR (Or.inl ⟨rfl, rfl⟩) (q := (70, "mend")) (w := 9) rfl dX3_takeKind_122 ?_
                    refine J_callVi F (As := [.ref (gx G 9)]) (st := []) (C_X3_takeWord l G 9 (by decide) h) (ci := 3) ly_3 (by decide) rfl rfl lm_X3_50 li_X3_takeWord ls_X3_takeWord ini_X3 lc_X3_takeWord hd_X3_takeWord (by decide) (Nat.le_of_ble_eq_true rfl) (by decide) rfl dX3_takeKind_124 (fun r_30 σ_31 h => ?_)
                    refine J_zeq F (tgt := 135) dX3_takeKind_127 (by decide) (fun c_32 => ?_) (fun c_32 => ?_)
                    · have h := h.1 c_32
                      refine J_ic F dX3_takeKind_135 ki_m1 ?_
                      refine J_sub [1] rfl ?_
                      exact wk_X3_takeKind_136 F  h
                    · have h := h.2 c_32
                      refine J_bi F dX3_takeKind_130 kb_10 ?_
                      refine J_goto F (tgt := 136) dX3_takeKind_132 (by decide) ?_
                      refine J_sub [1] rfl ?_
                      exact wk_X3_takeKind_136 F  h
                  · have h := h.2 c_29
                    refine J_bi F dX3_takeKind_116 kb_9 ?_
                    refine J_goto F (tgt := 136) dX3_takeKind_118 (by decide) ?_
                    refine J_sub [1] rfl ?_
                    exact wk_X3_takeKind_136 F  h
                · have h := h.2 c_26
                  refine J_bi F dX3_takeKind_102 kb_8 ?_
                  refine J_goto F (tgt := 136) dX3_takeKind_104 (by decide) ?_
                  refine J_sub [1] rfl ?_
                  exact wk_X3_takeKind_136 F  h
              · have h := h.2 c_23
                refine J_bi F dX3_takeKind_88 kb_7 ?_
                refine J_goto F (tgt := 136) dX3_takeKind_90 (by decide) ?_
                refine J_sub [1] rfl ?_
                exact wk_X3_takeKind_136 F  h
            · have h := h.2 c_20
              refine J_bi F dX3_takeKind_74 kb_6 ?_
              refine J_goto F (tgt := 136) dX3_takeKind_76 (by decide) ?_
              refine J_sub [1] rfl ?_
              exact wk_X3_takeKind_136 F  h
          · have h := h.2 c_17
            refine J_ic F dX3_takeKind_61 ki_5 ?_
            refine J_goto F (tgt := 136) dX3_takeKind_62 (by decide) ?_
            refine J_sub [1] rfl ?_
            exact wk_X3_takeKind_136 F  h
        · have h := h.2 c_14
          refine J_ic F dX3_takeKind_48 ki_4 ?_
          refine J_goto F (tgt := 136) dX3_takeKind_49 (by decide) ?_
          refine J_sub [1] rfl ?_
          exact wk_X3_takeKind_136 F  h
      · have h := h.2 c_11
        refine J_ic F dX3_takeKind_35 ki_2 ?_
        refine J_goto F (tgt := 136) dX3_takeKind_36 (by decide) ?_
        refine J_sub [1] rfl ?_
        exact wk_X3_takeKind_136 F  h
    · have h := h.2 c_8
      refine J_ic F dX3_takeKind_22 ki_1 ?_
      refine J_goto F (tgt := 136) dX3_takeKind_23 (by decide) ?_
      refine J_sub [1] rfl ?_
      exact wk_X3_takeKind_136 F  h
  · have h := h.2 c_5
    refine J_ic F dX3_takeKind_9 ki_0 ?_
    refine J_goto F (tgt := 136) dX3_takeKind_10 (by decide) ?_
    refine J_sub [1] rfl ?_
    exact wk_X3_takeKind_136 F  h
theorem dX3_takeAim_0 : decode cX3_takeAim 0 = .ok (.aload_n 0, 1) := by decide +kernel
theorem dX3_takeAim_1 : decode cX3_takeAim 1 = .ok (.ldc 88, 2) := by decide +kernel
theorem dX3_takeAim_3 : decode cX3_takeAim 3 = .ok (.invokevirtual 50, 3) := by decide +kernel
theorem dX3_takeAim_6 : decode cX3_takeAim 6 = .ok (.ifCond .eq 10, 3) := by decide +kernel
theorem dX3_takeAim_9 : decode cX3_takeAim 9 = .ok (.aload_n 1, 1) := by decide +kernel
theorem dX3_takeAim_10 : decode cX3_takeAim 10 = .ok (.iconst 3, 1) := by decide +kernel
theorem dX3_takeAim_11 : decode cX3_takeAim 11 = .ok (.putfield 78, 3) := by decide +kernel
theorem dX3_takeAim_14 : decode cX3_takeAim 14 = .ok (.iconst 1, 1) := by decide +kernel
theorem dX3_takeAim_15 : decode cX3_takeAim 15 = .ok (.ireturn, 1) := by decide +kernel
theorem dX3_takeAim_16 : decode cX3_takeAim 16 = .ok (.aload_n 0, 1) := by decide +kernel
theorem dX3_takeAim_17 : decode cX3_takeAim 17 = .ok (.ldc 90, 2) := by decide +kernel
theorem dX3_takeAim_19 : decode cX3_takeAim 19 = .ok (.invokevirtual 50, 3) := by decide +kernel
theorem dX3_takeAim_22 : decode cX3_takeAim 22 = .ok (.ifCond .eq 31, 3) := by decide +kernel
theorem dX3_takeAim_25 : decode cX3_takeAim 25 = .ok (.aload_n 0, 1) := by decide +kernel
theorem dX3_takeAim_26 : decode cX3_takeAim 26 = .ok (.aload_n 1, 1) := by decide +kernel
theorem dX3_takeAim_27 : decode cX3_takeAim 27 = .ok (.iconst 2, 1) := by decide +kernel
theorem dX3_takeAim_28 : decode cX3_takeAim 28 = .ok (.iconst 0, 1) := by decide +kernel
theorem dX3_takeAim_29 : decode cX3_takeAim 29 = .ok (.bipush 31, 2) := by decide +kernel
theorem dX3_takeAim_31 : decode cX3_takeAim 31 = .ok (.invokevirtual 81, 3) := by decide +kernel
theorem dX3_takeAim_34 : decode cX3_takeAim 34 = .ok (.ifCond .eq 19, 3) := by decide +kernel
theorem dX3_takeAim_37 : decode cX3_takeAim 37 = .ok (.aload_n 0, 1) := by decide +kernel
theorem dX3_takeAim_38 : decode cX3_takeAim 38 = .ok (.aload_n 1, 1) := by decide +kernel
theorem dX3_takeAim_39 : decode cX3_takeAim 39 = .ok (.iconst 3, 1) := by decide +kernel
theorem dX3_takeAim_40 : decode cX3_takeAim 40 = .ok (.iconst 0, 1) := by decide +kernel
theorem dX3_takeAim_41 : decode cX3_takeAim 41 = .ok (.bipush 31, 2) := by decide +kernel
theorem dX3_takeAim_43 : decode cX3_takeAim 43 = .ok (.invokevirtual 81, 3) := by decide +kernel
theorem dX3_takeAim_46 : decode cX3_takeAim 46 = .ok (.ifCond .eq 7, 3) := by decide +kernel
theorem dX3_takeAim_49 : decode cX3_takeAim 49 = .ok (.iconst 1, 1) := by decide +kernel
theorem dX3_takeAim_50 : decode cX3_takeAim 50 = .ok (.goto 4, 3) := by decide +kernel
theorem dX3_takeAim_53 : decode cX3_takeAim 53 = .ok (.iconst 0, 1) := by decide +kernel
theorem dX3_takeAim_54 : decode cX3_takeAim 54 = .ok (.ireturn, 1) := by decide +kernel
set_option maxRecDepth 20000 in
set_option maxHeartbeats 4000000 in
theorem C_X3_takeAim (l : Launch) (G : Gp)   {σ : St} {Q : Int32 → St → Prop} (h : wp_X3_takeAim σ  Q) : Cn l yX3_takeAim cX3_takeAim 2 (some .boolean) 6 143 G [.ref (gb G + 3), .ref (gb G + 4)] σ (qI Q) := by
  refine Cn_of (L := [(0, .ref (gb G + 3)), (1, .ref (gb G + 4))]) RX3 (by decide) rfl (Nat.le_of_ble_eq_true rfl) rfl ?_
  intro p e s m below meth c F
  unfold wp_X3_takeAim at h
  refine J_aln F 0 dX3_takeAim_0 rfl rfl ?_
  refine J_lds F (i := 0) txR (Or.inl ⟨rfl, rfl⟩) (q := (88, "near")) (w := 10) rfl dX3_takeAim_1 ?_
  refine J_callVi F (As := [.ref (gx G 10)]) (st := []) (C_X3_takeWord l G 10 (by decide) h) (ci := 3) ly_3 (by decide) rfl rfl lm_X3_50 li_X3_takeWord ls_X3_takeWord ini_X3 lc_X3_takeWord hd_X3_takeWord (by decide) (Nat.le_of_ble_eq_true rfl) (by decide) rfl dX3_takeAim_3 (fun r_1 σ_2 h => ?_)
  refine J_zeq F (tgt := 16) dX3_takeAim_6 (by decide) (fun c_3 => ?_) (fun c_3 => ?_)
  · have h := h.1 c_3
    refine J_aln F 0 dX3_takeAim_16 rfl rfl ?_
    refine J_lds F (i := 0) txR (Or.inl ⟨rfl, rfl⟩) (q := (90, "at")) (w := 11) rfl dX3_takeAim_17 ?_
    refine J_callVi F (As := [.ref (gx G 11)]) (st := []) (C_X3_takeWord l G 11 (by decide) h) (ci := 3) ly_3 (by decide) rfl rfl lm_X3_50 li_X3_takeWord ls_X3_takeWord ini_X3 lc_X3_takeWord hd_X3_takeWord (by decide) (Nat.le_of_ble_eq_true rfl) (by decide) rfl dX3_takeAim_19 (fun r_4 σ_5 h => ?_)
    refine J_zeq F (tgt := 53) dX3_takeAim_22 (by decide) (fun c_6 => ?_) (fun c_6 => ?_)
    · have h := h.1 c_6
      refine J_ic F dX3_takeAim_53 ki_0 ?_
      exact J_retz F (Or.inl rfl) ⟨_, rfl, h⟩ dX3_takeAim_54
    · have h := h.2 c_6
      refine J_aln F 0 dX3_takeAim_25 rfl rfl ?_
      refine J_aln F 1 dX3_takeAim_26 rfl rfl ?_
      refine J_ic F dX3_takeAim_27 ki_2 ?_
      refine J_ic F dX3_takeAim_28 ki_0 ?_
      refine J_bi F dX3_takeAim_29 kb_31 ?_
      refine J_callVi F (As := [.ref (gb G + 4), .int (nI 2), .int (nI 0), .int (nI 31)]) (st := []) (C_X3_takeNumber l G (nI 2) (nI 0) (nI 31)  h) (ci := 3) ly_3 (by decide) rfl rfl lm_X3_81 li_X3_takeNumber ls_X3_takeNumber ini_X3 lc_X3_takeNumber hd_X3_takeNumber (by decide) (Nat.le_of_ble_eq_true rfl) (by decide) rfl dX3_takeAim_31 (fun r_7 σ_8 h => ?_)
      refine J_zeq F (tgt := 53) dX3_takeAim_34 (by decide) (fun c_9 => ?_) (fun c_9 => ?_)
      · have h := h.1 c_9
        refine J_ic F dX3_takeAim_53 ki_0 ?_
        exact J_retz F (Or.inl rfl) ⟨_, rfl, h⟩ dX3_takeAim_54
      · have h := h.2 c_9
        refine J_aln F 0 dX3_takeAim_37 rfl rfl ?_
        refine J_aln F 1 dX3_takeAim_38 rfl rfl ?_
        refine J_ic F dX3_takeAim_39 ki_3 ?_
        refine J_ic F dX3_takeAim_40 ki_0 ?_
        refine J_bi F dX3_takeAim_41 kb_31 ?_
        refine J_callVi F (As := [.ref (gb G + 4), .int (nI 3), .int (nI 0), .int (nI 31)]) (st := []) (C_X3_takeNumber l G (nI 3) (nI 0) (nI 31)  h) (ci := 3) ly_3 (by decide) rfl rfl lm_X3_81 li_X3_takeNumber ls_X3_takeNumber ini_X3 lc_X3_takeNumber hd_X3_takeNumber (by decide) (Nat.le_of_ble_eq_true rfl) (by decide) rfl dX3_takeAim_43 (fun r_10 σ_11 h => ?_)
        refine J_zeq F (tgt := 53) dX3_takeAim_46 (by decide) (fun c_12 => ?_) (fun c_12 => ?_)
        · have h := h.1 c_12
          refine J_ic F dX3_takeAim_53 ki_0 ?_
          exact J_retz F (Or.inl rfl) ⟨_, rfl, h⟩ dX3_takeAim_54
        · have h := h.2 c_12
          refine J_ic F dX3_takeAim_49 ki_1 ?_
          refine J_goto F (tgt := 54) dX3_takeAim_50 (by decide) ?_
          exact J_retz F (Or.inr rfl) ⟨_, rfl, h⟩ dX3_takeAim_54
  · have h := h.2 c_3
    refine J_aln F 1 dX3_takeAim_9 rfl rfl ?_
    refine J_ic F dX3_takeAim_10 ki_3 ?_
    refine J_pfi F (ci := 0) 1 rfl inX0 tyX0 tyX0_ok nmX0 ly_4 (by decide) (by decide) rfl lf_X3_78 rfl rfl (tyX0_ok 1 (by decide)) rfl rfl dX3_takeAim_11 ?_
    refine J_st (fun σ_13 eσ_13 => ?_)
    have h := h σ_13 eσ_13
    refine J_ic F dX3_takeAim_14 ki_1 ?_
    exact J_retz F (Or.inr rfl) ⟨_, rfl, h⟩ dX3_takeAim_15
theorem dX3_takeNumbers_0 : decode cX3_takeNumbers 0 = .ok (.aload_n 1, 1) := by decide +kernel
theorem dX3_takeNumbers_1 : decode cX3_takeNumbers 1 = .ok (.getfield 78, 3) := by decide +kernel
theorem dX3_takeNumbers_4 : decode cX3_takeNumbers 4 = .ok (.tableswitch 184 0 9 #[56, 65, 95, 184, 133, 133, 133, 184, 143, 174], 56) := by decide +kernel
theorem dX3_takeNumbers_60 : decode cX3_takeNumbers 60 = .ok (.aload_n 0, 1) := by decide +kernel
theorem dX3_takeNumbers_61 : decode cX3_takeNumbers 61 = .ok (.aload_n 1, 1) := by decide +kernel
theorem dX3_takeNumbers_62 : decode cX3_takeNumbers 62 = .ok (.iconst 0, 1) := by decide +kernel
theorem dX3_takeNumbers_63 : decode cX3_takeNumbers 63 = .ok (.iconst 1, 1) := by decide +kernel
theorem dX3_takeNumbers_64 : decode cX3_takeNumbers 64 = .ok (.iconst 3, 1) := by decide +kernel
theorem dX3_takeNumbers_65 : decode cX3_takeNumbers 65 = .ok (.invokevirtual 81, 3) := by decide +kernel
theorem dX3_takeNumbers_68 : decode cX3_takeNumbers 68 = .ok (.ireturn, 1) := by decide +kernel
theorem dX3_takeNumbers_69 : decode cX3_takeNumbers 69 = .ok (.aload_n 0, 1) := by decide +kernel
theorem dX3_takeNumbers_70 : decode cX3_takeNumbers 70 = .ok (.aload_n 1, 1) := by decide +kernel
theorem dX3_takeNumbers_71 : decode cX3_takeNumbers 71 = .ok (.iconst 0, 1) := by decide +kernel
theorem dX3_takeNumbers_72 : decode cX3_takeNumbers 72 = .ok (.iconst 0, 1) := by decide +kernel
theorem dX3_takeNumbers_73 : decode cX3_takeNumbers 73 = .ok (.bipush 99, 2) := by decide +kernel
theorem dX3_takeNumbers_75 : decode cX3_takeNumbers 75 = .ok (.invokevirtual 81, 3) := by decide +kernel
theorem dX3_takeNumbers_78 : decode cX3_takeNumbers 78 = .ok (.ifCond .eq 19, 3) := by decide +kernel
theorem dX3_takeNumbers_81 : decode cX3_takeNumbers 81 = .ok (.aload_n 0, 1) := by decide +kernel
theorem dX3_takeNumbers_82 : decode cX3_takeNumbers 82 = .ok (.aload_n 1, 1) := by decide +kernel
theorem dX3_takeNumbers_83 : decode cX3_takeNumbers 83 = .ok (.iconst 1, 1) := by decide +kernel
theorem dX3_takeNumbers_84 : decode cX3_takeNumbers 84 = .ok (.iconst 0, 1) := by decide +kernel
theorem dX3_takeNumbers_85 : decode cX3_takeNumbers 85 = .ok (.bipush 99, 2) := by decide +kernel
theorem dX3_takeNumbers_87 : decode cX3_takeNumbers 87 = .ok (.invokevirtual 81, 3) := by decide +kernel
theorem dX3_takeNumbers_90 : decode cX3_takeNumbers 90 = .ok (.ifCond .eq 7, 3) := by decide +kernel
theorem dX3_takeNumbers_93 : decode cX3_takeNumbers 93 = .ok (.iconst 1, 1) := by decide +kernel
theorem dX3_takeNumbers_94 : decode cX3_takeNumbers 94 = .ok (.goto 4, 3) := by decide +kernel
theorem dX3_takeNumbers_97 : decode cX3_takeNumbers 97 = .ok (.iconst 0, 1) := by decide +kernel
theorem dX3_takeNumbers_98 : decode cX3_takeNumbers 98 = .ok (.ireturn, 1) := by decide +kernel
theorem dX3_takeNumbers_99 : decode cX3_takeNumbers 99 = .ok (.aload_n 0, 1) := by decide +kernel
theorem dX3_takeNumbers_100 : decode cX3_takeNumbers 100 = .ok (.aload_n 1, 1) := by decide +kernel
theorem dX3_takeNumbers_101 : decode cX3_takeNumbers 101 = .ok (.iconst 0, 1) := by decide +kernel
theorem dX3_takeNumbers_102 : decode cX3_takeNumbers 102 = .ok (.iconst 0, 1) := by decide +kernel
theorem dX3_takeNumbers_103 : decode cX3_takeNumbers 103 = .ok (.bipush 99, 2) := by decide +kernel
theorem dX3_takeNumbers_105 : decode cX3_takeNumbers 105 = .ok (.invokevirtual 81, 3) := by decide +kernel
theorem dX3_takeNumbers_108 : decode cX3_takeNumbers 108 = .ok (.ifCond .eq 27, 3) := by decide +kernel
theorem dX3_takeNumbers_111 : decode cX3_takeNumbers 111 = .ok (.aload_n 0, 1) := by decide +kernel
theorem dX3_takeNumbers_112 : decode cX3_takeNumbers 112 = .ok (.aload_n 1, 1) := by decide +kernel
theorem dX3_takeNumbers_113 : decode cX3_takeNumbers 113 = .ok (.iconst 1, 1) := by decide +kernel
theorem dX3_takeNumbers_114 : decode cX3_takeNumbers 114 = .ok (.iconst 0, 1) := by decide +kernel
theorem dX3_takeNumbers_115 : decode cX3_takeNumbers 115 = .ok (.bipush 99, 2) := by decide +kernel
theorem dX3_takeNumbers_117 : decode cX3_takeNumbers 117 = .ok (.invokevirtual 81, 3) := by decide +kernel
theorem dX3_takeNumbers_120 : decode cX3_takeNumbers 120 = .ok (.ifCond .eq 15, 3) := by decide +kernel
theorem dX3_takeNumbers_123 : decode cX3_takeNumbers 123 = .ok (.aload_n 0, 1) := by decide +kernel
theorem dX3_takeNumbers_124 : decode cX3_takeNumbers 124 = .ok (.aload_n 1, 1) := by decide +kernel
theorem dX3_takeNumbers_125 : decode cX3_takeNumbers 125 = .ok (.invokevirtual 85, 3) := by decide +kernel
theorem dX3_takeNumbers_128 : decode cX3_takeNumbers 128 = .ok (.ifCond .eq 7, 3) := by decide +kernel
theorem dX3_takeNumbers_131 : decode cX3_takeNumbers 131 = .ok (.iconst 1, 1) := by decide +kernel
theorem dX3_takeNumbers_132 : decode cX3_takeNumbers 132 = .ok (.goto 4, 3) := by decide +kernel
theorem dX3_takeNumbers_135 : decode cX3_takeNumbers 135 = .ok (.iconst 0, 1) := by decide +kernel
theorem dX3_takeNumbers_136 : decode cX3_takeNumbers 136 = .ok (.ireturn, 1) := by decide +kernel
theorem dX3_takeNumbers_137 : decode cX3_takeNumbers 137 = .ok (.aload_n 0, 1) := by decide +kernel
theorem dX3_takeNumbers_138 : decode cX3_takeNumbers 138 = .ok (.aload_n 1, 1) := by decide +kernel
theorem dX3_takeNumbers_139 : decode cX3_takeNumbers 139 = .ok (.iconst 0, 1) := by decide +kernel
theorem dX3_takeNumbers_140 : decode cX3_takeNumbers 140 = .ok (.iconst 0, 1) := by decide +kernel
theorem dX3_takeNumbers_141 : decode cX3_takeNumbers 141 = .ok (.bipush 9, 2) := by decide +kernel
theorem dX3_takeNumbers_143 : decode cX3_takeNumbers 143 = .ok (.invokevirtual 81, 3) := by decide +kernel
theorem dX3_takeNumbers_146 : decode cX3_takeNumbers 146 = .ok (.ireturn, 1) := by decide +kernel
theorem dX3_takeNumbers_147 : decode cX3_takeNumbers 147 = .ok (.aload_n 0, 1) := by decide +kernel
theorem dX3_takeNumbers_148 : decode cX3_takeNumbers 148 = .ok (.aload_n 1, 1) := by decide +kernel
theorem dX3_takeNumbers_149 : decode cX3_takeNumbers 149 = .ok (.iconst 0, 1) := by decide +kernel
theorem dX3_takeNumbers_150 : decode cX3_takeNumbers 150 = .ok (.iconst 0, 1) := by decide +kernel
theorem dX3_takeNumbers_151 : decode cX3_takeNumbers 151 = .ok (.bipush 99, 2) := by decide +kernel
theorem dX3_takeNumbers_153 : decode cX3_takeNumbers 153 = .ok (.invokevirtual 81, 3) := by decide +kernel
theorem dX3_takeNumbers_156 : decode cX3_takeNumbers 156 = .ok (.ifCond .eq 20, 3) := by decide +kernel
theorem dX3_takeNumbers_159 : decode cX3_takeNumbers 159 = .ok (.aload_n 0, 1) := by decide +kernel
theorem dX3_takeNumbers_160 : decode cX3_takeNumbers 160 = .ok (.aload_n 1, 1) := by decide +kernel
theorem dX3_takeNumbers_161 : decode cX3_takeNumbers 161 = .ok (.iconst 1, 1) := by decide +kernel
theorem dX3_takeNumbers_162 : decode cX3_takeNumbers 162 = .ok (.iconst 0, 1) := by decide +kernel
theorem dX3_takeNumbers_163 : decode cX3_takeNumbers 163 = .ok (.sipush 999, 3) := by decide +kernel
theorem dX3_takeNumbers_166 : decode cX3_takeNumbers 166 = .ok (.invokevirtual 81, 3) := by decide +kernel
theorem dX3_takeNumbers_169 : decode cX3_takeNumbers 169 = .ok (.ifCond .eq 7, 3) := by decide +kernel
theorem dX3_takeNumbers_172 : decode cX3_takeNumbers 172 = .ok (.iconst 1, 1) := by decide +kernel
theorem dX3_takeNumbers_173 : decode cX3_takeNumbers 173 = .ok (.goto 4, 3) := by decide +kernel
theorem dX3_takeNumbers_176 : decode cX3_takeNumbers 176 = .ok (.iconst 0, 1) := by decide +kernel
theorem dX3_takeNumbers_177 : decode cX3_takeNumbers 177 = .ok (.ireturn, 1) := by decide +kernel
theorem dX3_takeNumbers_178 : decode cX3_takeNumbers 178 = .ok (.aload_n 0, 1) := by decide +kernel
theorem dX3_takeNumbers_179 : decode cX3_takeNumbers 179 = .ok (.aload_n 1, 1) := by decide +kernel
theorem dX3_takeNumbers_180 : decode cX3_takeNumbers 180 = .ok (.iconst 0, 1) := by decide +kernel
theorem dX3_takeNumbers_181 : decode cX3_takeNumbers 181 = .ok (.iconst 0, 1) := by decide +kernel
theorem dX3_takeNumbers_182 : decode cX3_takeNumbers 182 = .ok (.bipush 99, 2) := by decide +kernel
theorem dX3_takeNumbers_184 : decode cX3_takeNumbers 184 = .ok (.invokevirtual 81, 3) := by decide +kernel
theorem dX3_takeNumbers_187 : decode cX3_takeNumbers 187 = .ok (.ireturn, 1) := by decide +kernel
theorem dX3_takeNumbers_188 : decode cX3_takeNumbers 188 = .ok (.iconst 1, 1) := by decide +kernel
theorem dX3_takeNumbers_189 : decode cX3_takeNumbers 189 = .ok (.ireturn, 1) := by decide +kernel
set_option maxRecDepth 20000 in
set_option maxHeartbeats 4000000 in
theorem wk_X3_takeNumbers_137 {p : Program} {l : Launch} {e : Env} {s : State} {m : MethodId} {args : Array Value} {below : List Frame} {meth : Method} {c : Code} {G : Gp} {σ : St}   {Q : Int32 → St → Prop} (F : FX p s m args meth c cX3_takeNumbers 2 (some .boolean) RX3 G)   (h : wp_X3_takeNumbers_137 σ Q) : J p l e (rmF 7 164) s m args below meth c 2 G (MQ below (QQ G (qI Q)) args s 0 0 (fr G)) 0 0 137 [(0, .ref (gb G + 3)), (1, .ref (gb G + 4))] [] σ := by
  unfold wp_X3_takeNumbers_137 at h
  refine J_aln F 0 dX3_takeNumbers_137 rfl rfl ?_
  refine J_aln F 1 dX3_takeNumbers_138 rfl rfl ?_
  refine J_ic F dX3_takeNumbers_139 ki_0 ?_
  refine J_ic F dX3_takeNumbers_140 ki_0 ?_
  refine J_bi F dX3_takeNumbers_141 kb_9 ?_
  refine J_callVi F (As := [.ref (gb G + 4), .int (nI 0), .int (nI 0), .int (nI 9)]) (st := []) (C_X3_takeNumber l G (nI 0) (nI 0) (nI 9)  h) (ci := 3) ly_3 (by decide) rfl rfl lm_X3_81 li_X3_takeNumber ls_X3_takeNumber ini_X3 lc_X3_takeNumber hd_X3_takeNumber (by decide) (Nat.le_of_ble_eq_true rfl) (by decide) rfl dX3_takeNumbers_143 (fun r_1 σ_2 h => ?_)
  obtain ⟨h_3, h⟩ := h
  exact J_retz F h_3 ⟨_, rfl, h⟩ dX3_takeNumbers_146
set_option maxRecDepth 20000 in
set_option maxHeartbeats 4000000 in
theorem C_X3_takeNumbers (l : Launch) (G : Gp)   {σ : St} {Q : Int32 → St → Prop} (h : wp_X3_takeNumbers σ  Q) : Cn l yX3_takeNumbers cX3_takeNumbers 2 (some .boolean) 7 164 G [.ref (gb G + 3), .ref (gb G + 4)] σ (qI Q) := by
  refine Cn_of (L := [(0, .ref (gb G + 3)), (1, .ref (gb G + 4))]) RX3 (by decide) rfl (Nat.le_of_ble_eq_true rfl) rfl ?_
  intro p e s m below meth c F
  unfold wp_X3_takeNumbers at h
  refine J_aln F 1 dX3_takeNumbers_0 rfl rfl ?_
  refine J_gfi F (ci := 0) 1 rfl inX0 ly_4 (by decide) (by decide) rfl lf_X3_78 rfl dX3_takeNumbers_1 ?_
  refine J_top (fun q_5 eq_5 => ?_)
  have h := h q_5 eq_5
  refine J_case (v := nI 0) (fun c_6 => ?_) (fun c_6 => ?_)
  · have h := h.1 c_6
    refine J_tabIn F (off := 56) (tgt := 60) dX3_takeNumbers_4 (by decide) (by decide) (by decide) (by decide) ?_
    refine J_aln F 0 dX3_takeNumbers_60 rfl rfl ?_
    refine J_aln F 1 dX3_takeNumbers_61 rfl rfl ?_
    refine J_ic F dX3_takeNumbers_62 ki_0 ?_
    refine J_ic F dX3_takeNumbers_63 ki_1 ?_
    refine J_ic F dX3_takeNumbers_64 ki_3 ?_
    refine J_callVi F (As := [.ref (gb G + 4), .int (nI 0), .int (nI 1), .int (nI 3)]) (st := []) (C_X3_takeNumber l G (nI 0) (nI 1) (nI 3)  h) (ci := 3) ly_3 (by decide) rfl rfl lm_X3_81 li_X3_takeNumber ls_X3_takeNumber ini_X3 lc_X3_takeNumber hd_X3_takeNumber (by decide) (Nat.le_of_ble_eq_true rfl) (by decide) rfl dX3_takeNumbers_65 (fun r_7 σ_8 h => ?_)
    obtain ⟨h_9, h⟩ := h
    exact J_retz F h_9 ⟨_, rfl, h⟩ dX3_takeNumbers_68
  · have h := h.2 c_6
    refine J_case (v := nI 1) (fun c_10 => ?_) (fun c_10 => ?_)
    · have h := h.1 c_10
      refine J_tabIn F (off := 65) (tgt := 69) dX3_takeNumbers_4 (by decide) (by decide) (by decide) (by decide) ?_
      refine J_aln F 0 dX3_takeNumbers_69 rfl rfl ?_
      refine J_aln F 1 dX3_takeNumbers_70 rfl rfl ?_
      refine J_ic F dX3_takeNumbers_71 ki_0 ?_
      refine J_ic F dX3_takeNumbers_72 ki_0 ?_
      refine J_bi F dX3_takeNumbers_73 kb_99 ?_
      refine J_callVi F (As := [.ref (gb G + 4), .int (nI 0), .int (nI 0), .int (nI 99)]) (st := []) (C_X3_takeNumber l G (nI 0) (nI 0) (nI 99)  h) (ci := 3) ly_3 (by decide) rfl rfl lm_X3_81 li_X3_takeNumber ls_X3_takeNumber ini_X3 lc_X3_takeNumber hd_X3_takeNumber (by decide) (Nat.le_of_ble_eq_true rfl) (by decide) rfl dX3_takeNumbers_75 (fun r_11 σ_12 h => ?_)
      refine J_zeq F (tgt := 97) dX3_takeNumbers_78 (by decide) (fun c_13 => ?_) (fun c_13 => ?_)
      · have h := h.1 c_13
        refine J_ic F dX3_takeNumbers_97 ki_0 ?_
        exact J_retz F (Or.inl rfl) ⟨_, rfl, h⟩ dX3_takeNumbers_98
      · have h := h.2 c_13
        refine J_aln F 0 dX3_takeNumbers_81 rfl rfl ?_
        refine J_aln F 1 dX3_takeNumbers_82 rfl rfl ?_
        refine J_ic F dX3_takeNumbers_83 ki_1 ?_
        refine J_ic F dX3_takeNumbers_84 ki_0 ?_
        refine J_bi F dX3_takeNumbers_85 kb_99 ?_
        refine J_callVi F (As := [.ref (gb G + 4), .int (nI 1), .int (nI 0), .int (nI 99)]) (st := []) (C_X3_takeNumber l G (nI 1) (nI 0) (nI 99)  h) (ci := 3) ly_3 (by decide) rfl rfl lm_X3_81 li_X3_takeNumber ls_X3_takeNumber ini_X3 lc_X3_takeNumber hd_X3_takeNumber (by decide) (Nat.le_of_ble_eq_true rfl) (by decide) rfl dX3_takeNumbers_87 (fun r_14 σ_15 h => ?_)
        refine J_zeq F (tgt := 97) dX3_takeNumbers_90 (by decide) (fun c_16 => ?_) (fun c_16 => ?_)
        · have h := h.1 c_16
          refine J_ic F dX3_takeNumbers_97 ki_0 ?_
          exact J_retz F (Or.inl rfl) ⟨_, rfl, h⟩ dX3_takeNumbers_98
        · have h := h.2 c_16
          refine J_ic F dX3_takeNumbers_93 ki_1 ?_
          refine J_goto F (tgt := 98) dX3_takeNumbers_94 (by decide) ?_
          exact J_retz F (Or.inr rfl) ⟨_, rfl, h⟩ dX3_takeNumbers_98
    · have h := h.2 c_10
      refine J_case (v := nI 2) (fun c_17 => ?_) (fun c_17 => ?_)
      · have h := h.1 c_17
        refine J_tabIn F (off := 95) (tgt := 99) dX3_takeNumbers_4 (by decide) (by decide) (by decide) (by decide) ?_
        refine J_aln F 0 dX3_takeNumbers_99 rfl rfl ?_
        refine J_aln F 1 dX3_takeNumbers_100 rfl rfl ?_
        refine J_ic F dX3_takeNumbers_101 ki_0 ?_
        refine J_ic F dX3_takeNumbers_102 ki_0 ?_
        refine J_bi F dX3_takeNumbers_103 kb_99 ?_
        refine J_callVi F (As := [.ref (gb G + 4), .int (nI 0), .int (nI 0), .int (nI 99)]) (st := []) (C_X3_takeNumber l G (nI 0) (nI 0) (nI 99)  h) (ci := 3) ly_3 (by decide) rfl rfl lm_X3_81 li_X3_takeNumber ls_X3_takeNumber ini_X3 lc_X3_takeNumber hd_X3_takeNumber (by decide) (Nat.le_of_ble_eq_true rfl) (by decide) rfl dX3_takeNumbers_105 (fun r_18 σ_19 h => ?_)
        refine J_zeq F (tgt := 135) dX3_takeNumbers_108 (by decide) (fun c_20 => ?_) (fun c_20 => ?_)
        · have h := h.1 c_20
          refine J_ic F dX3_takeNumbers_135 ki_0 ?_
          exact J_retz F (Or.inl rfl) ⟨_, rfl, h⟩ dX3_takeNumbers_136
        · have h := h.2 c_20
          refine J_aln F 0 dX3_takeNumbers_111 rfl rfl ?_
          refine J_aln F 1 dX3_takeNumbers_112 rfl rfl ?_
          refine J_ic F dX3_takeNumbers_113 ki_1 ?_
          refine J_ic F dX3_takeNumbers_114 ki_0 ?_
          refine J_bi F dX3_takeNumbers_115 kb_99 ?_
          refine J_callVi F (As := [.ref (gb G + 4), .int (nI 1), .int (nI 0), .int (nI 99)]) (st := []) (C_X3_takeNumber l G (nI 1) (nI 0) (nI 99)  h) (ci := 3) ly_3 (by decide) rfl rfl lm_X3_81 li_X3_takeNumber ls_X3_takeNumber ini_X3 lc_X3_takeNumber hd_X3_takeNumber (by decide) (Nat.le_of_ble_eq_true rfl) (by decide) rfl dX3_takeNumbers_117 (fun r_21 σ_22 h => ?_)
          refine J_zeq F (tgt := 135) dX3_takeNumbers_120 (by decide) (fun c_23 => ?_) (fun c_23 => ?_)
          · have h := h.1 c_23
            refine J_ic F dX3_takeNumbers_135 ki_0 ?_
            exact J_retz F (Or.inl rfl) ⟨_, rfl, h⟩ dX3_takeNumbers_136
          · have h := h.2 c_23
            refine J_aln F 0 dX3_takeNumbers_123 rfl rfl ?_
            refine J_aln F 1 dX3_takeNumbers_124 rfl rfl ?_
            refine J_callVi F (As := [.ref (gb G + 4)]) (st := []) (C_X3_takeAim l G   h) (ci := 3) ly_3 (by decide) rfl rfl lm_X3_85 li_X3_takeAim ls_X3_takeAim ini_X3 lc_X3_takeAim hd_X3_takeAim (by decide) (Nat.le_of_ble_eq_true rfl) (by decide) rfl dX3_takeNumbers_125 (fun r_24 σ_25 h => ?_)
            refine J_zeq F (tgt := 135) dX3_takeNumbers_128 (by decide) (fun c_26 => ?_) (fun c_26 => ?_)
            · have h := h.1 c_26
              refine J_ic F dX3_takeNumbers_135 ki_0 ?_
              exact J_retz F (Or.inl rfl) ⟨_, rfl, h⟩ dX3_takeNumbers_136
            · have h := h.2 c_26
              refine J_ic F dX3_takeNumbers_131 ki_1 ?_
              refine J_goto F (tgt := 136) dX3_takeNumbers_132 (by decide) ?_
              exact J_retz F (Or.inr rfl) ⟨_, rfl, h⟩ dX3_takeNumbers_136
      · have h := h.2 c_17
        refine J_case (v := nI 3) (fun c_27 => ?_) (fun c_27 => ?_)
        · have h := h.1 c_27
          refine J_tabIn F (off := 184) (tgt := 188) dX3_takeNumbers_4 (by decide) (by decide) (by decide) (by decide) ?_
          refine J_ic F dX3_takeNumbers_188 ki_1 ?_
          exact J_retz F (Or.inr rfl) ⟨_, rfl, h⟩ dX3_takeNumbers_189
        · have h := h.2 c_27
          refine J_case (v := nI 4) (fun c_28 => ?_) (fun c_28 => ?_)
          · have h := h.1 c_28
            refine J_tabIn F (off := 133) (tgt := 137) dX3_takeNumbers_4 (by decide) (by decide) (by decide) (by decide) ?_
            exact wk_X3_takeNumbers_137 F  h
          · have h := h.2 c_28
            refine J_case (v := nI 5) (fun c_29 => ?_) (fun c_29 => ?_)
            · have h := h.1 c_29
              refine J_tabIn F (off := 133) (tgt := 137) dX3_takeNumbers_4 (by decide) (by decide) (by decide) (by decide) ?_
              exact wk_X3_takeNumbers_137 F  h
            · have h := h.2 c_29
              refine J_case (v := nI 6) (fun c_30 => ?_) (fun c_30 => ?_)
              · have h := h.1 c_30
                refine J_tabIn F (off := 133) (tgt := 137) dX3_takeNumbers_4 (by decide) (by decide) (by decide) (by decide) ?_
                exact wk_X3_takeNumbers_137 F  h
              · have h := h.2 c_30
                refine J_case (v := nI 7) (fun c_31 => ?_) (fun c_31 => ?_)
                · have h := h.1 c_31
                  refine J_tabIn F (off := 184) (tgt := 188) dX3_takeNumbers_4 (by decide) (by decide) (by decide) (by decide) ?_
                  refine J_ic F dX3_takeNumbers_188 ki_1 ?_
                  exact J_retz F (Or.inr rfl) ⟨_, rfl, h⟩ dX3_takeNumbers_189
                · have h := h.2 c_31
                  refine J_case (v := nI 8) (fun c_32 => ?_) (fun c_32 => ?_)
                  · have h := h.1 c_32
                    refine J_tabIn F (off := 143) (tgt := 147) dX3_takeNumbers_4 (by decide) (by decide) (by decide) (by decide) ?_
                    refine J_aln F 0 dX3_takeNumbers_147 rfl rfl ?_
                    refine J_aln F 1 dX3_takeNumbers_148 rfl rfl ?_
                    refine J_ic F dX3_takeNumbers_149 ki_0 ?_
                    refine J_ic F dX3_takeNumbers_150 ki_0 ?_
                    refine J_bi F dX3_takeNumbers_151 kb_99 ?_
                    refine J_callVi F (As := [.ref (gb G + 4), .int (nI 0), .int (nI 0), .int (nI 99)]) (st := []) (C_X3_takeNumber l G (nI 0) (nI 0) (nI 99)  h) (ci := 3) ly_3 (by decide) rfl rfl lm_X3_81 li_X3_takeNumber ls_X3_takeNumber ini_X3 lc_X3_takeNumber hd_X3_takeNumber (by decide) (Nat.le_of_ble_eq_true rfl) (by decide) rfl dX3_takeNumbers_153 (fun r_33 σ_34 h => ?_)
                    refine J_zeq F (tgt := 176) dX3_takeNumbers_156 (by decide) (fun c_35 => ?_) (fun c_35 => ?_)
                    · have h := h.1 c_35
                      refine J_ic F dX3_takeNumbers_176 ki_0 ?_
                      exact J_retz F (Or.inl rfl) ⟨_, rfl, h⟩ dX3_takeNumbers_177
                    · have h := h.2 c_35
                      refine J_aln F 0 dX3_takeNumbers_159 rfl rfl ?_
                      refine J_aln F 1 dX3_takeNumbers_160 rfl rfl ?_
                      refine J_ic F dX3_takeNumbers_161 ki_1 ?_
                      refine J_ic F dX3_takeNumbers_162 ki_0 ?_
                      refine J_si F dX3_takeNumbers_163 ks_999 ?_
                      refine J_callVi F (As := [.ref (gb G + 4), .int (nI 1), .int (nI 0), .int (nI 999)]) (st := []) (C_X3_takeNumber l G (nI 1) (nI 0) (nI 999)  h) (ci := 3) ly_3 (by decide) rfl rfl lm_X3_81 li_X3_takeNumber ls_X3_takeNumber ini_X3 lc_X3_takeNumber hd_X3_takeNumber (by decide) (Nat.le_of_ble_eq_true rfl) (by decide) rfl dX3_takeNumbers_166 (fun r_36 σ_37 h => ?_)
                      refine J_zeq F (tgt := 176) dX3_takeNumbers_169 (by decide) (fun c_38 => ?_) (fun c_38 => ?_)
                      · have h := h.1 c_38
                        refine J_ic F dX3_takeNumbers_176 ki_0 ?_
                        exact J_retz F (Or.inl rfl) ⟨_, rfl, h⟩ dX3_takeNumbers_177
                      · have h := h.2 c_38
                        refine J_ic F dX3_takeNumbers_172 ki_1 ?_
                        refine J_goto F (tgt := 177) dX3_takeNumbers_173 (by decide) ?_
                        exact J_retz F (Or.inr rfl) ⟨_, rfl, h⟩ dX3_takeNumbers_177
                  · have h := h.2 c_32
                    refine J_case (v := nI 9) (fun c_39 => ?_) (fun c_39 => ?_)
                    · have h := h.1 c_39
                      refine J_tabIn F (off := 174) (tgt := 178) dX3_takeNumbers_4 (by decide) (by decide) (by decide) (by decide) ?_
                      refine J_aln F 0 dX3_takeNumbers_178 rfl rfl ?_
                      refine J_aln F 1 dX3_takeNumbers_179 rfl rfl ?_
                      refine J_ic F dX3_takeNumbers_180 ki_0 ?_
                      refine J_ic F dX3_takeNumbers_181 ki_0 ?_
                      refine J_bi F dX3_takeNumbers_182 kb_99 ?_
                      refine J_callVi F (As := [.ref (gb G + 4), .int (nI 0), .int (nI 0), .int (nI 99)]) (st := []) (C_X3_takeNumber l G (nI 0) (nI 0) (nI 99)  h) (ci := 3) ly_3 (by decide) rfl rfl lm_X3_81 li_X3_takeNumber ls_X3_takeNumber ini_X3 lc_X3_takeNumber hd_X3_takeNumber (by decide) (Nat.le_of_ble_eq_true rfl) (by decide) rfl dX3_takeNumbers_184 (fun r_40 σ_41 h => ?_)
                      obtain ⟨h_42, h⟩ := h
                      exact J_retz F h_42 ⟨_, rfl, h⟩ dX3_takeNumbers_187
                    · have h := h.2 c_39
                      refine J_tabOut F (tgt := 188) dX3_takeNumbers_4 (tab_out 0 9 (fun k h1 h2 => by rcases (show k = 0 ∨ k = 1 ∨ k = 2 ∨ k = 3 ∨ k = 4 ∨ k = 5 ∨ k = 6 ∨ k = 7 ∨ k = 8 ∨ k = 9 by omega) with rfl | rfl | rfl | rfl | rfl | rfl | rfl | rfl | rfl | rfl <;> assumption)) (by decide) ?_
                      refine J_ic F dX3_takeNumbers_188 ki_1 ?_
                      exact J_retz F (Or.inr rfl) ⟨_, rfl, h⟩ dX3_takeNumbers_189
theorem dX3_takeAct_0 : decode cX3_takeAct 0 = .ok (.aload_n 0, 1) := by decide +kernel
theorem dX3_takeAct_1 : decode cX3_takeAct 1 = .ok (.invokevirtual 29, 3) := by decide +kernel
theorem dX3_takeAct_4 : decode cX3_takeAct 4 = .ok (.aload_n 0, 1) := by decide +kernel
theorem dX3_takeAct_5 : decode cX3_takeAct 5 = .ok (.getfield 9, 3) := by decide +kernel
theorem dX3_takeAct_8 : decode cX3_takeAct 8 = .ok (.aload_n 0, 1) := by decide +kernel
theorem dX3_takeAct_9 : decode cX3_takeAct 9 = .ok (.getfield 25, 3) := by decide +kernel
theorem dX3_takeAct_12 : decode cX3_takeAct 12 = .ok (.getfield 32, 3) := by decide +kernel
theorem dX3_takeAct_15 : decode cX3_takeAct 15 = .ok (.if_icmp .lt 5, 3) := by decide +kernel
theorem dX3_takeAct_18 : decode cX3_takeAct 18 = .ok (.iconst 0, 1) := by decide +kernel
theorem dX3_takeAct_19 : decode cX3_takeAct 19 = .ok (.ireturn, 1) := by decide +kernel
theorem dX3_takeAct_20 : decode cX3_takeAct 20 = .ok (.aload_n 0, 1) := by decide +kernel
theorem dX3_takeAct_21 : decode cX3_takeAct 21 = .ok (.aload_n 0, 1) := by decide +kernel
theorem dX3_takeAct_22 : decode cX3_takeAct 22 = .ok (.getfield 18, 3) := by decide +kernel
theorem dX3_takeAct_25 : decode cX3_takeAct 25 = .ok (.ifCond .le 14, 3) := by decide +kernel
theorem dX3_takeAct_28 : decode cX3_takeAct 28 = .ok (.aload_n 0, 1) := by decide +kernel
theorem dX3_takeAct_29 : decode cX3_takeAct 29 = .ok (.invokevirtual 37, 3) := by decide +kernel
theorem dX3_takeAct_32 : decode cX3_takeAct 32 = .ok (.ifCond .ne 7, 3) := by decide +kernel
theorem dX3_takeAct_35 : decode cX3_takeAct 35 = .ok (.iconst 1, 1) := by decide +kernel
theorem dX3_takeAct_36 : decode cX3_takeAct 36 = .ok (.goto 4, 3) := by decide +kernel
theorem dX3_takeAct_39 : decode cX3_takeAct 39 = .ok (.iconst 0, 1) := by decide +kernel
theorem dX3_takeAct_40 : decode cX3_takeAct 40 = .ok (.putfield 21, 3) := by decide +kernel
theorem dX3_takeAct_43 : decode cX3_takeAct 43 = .ok (.aload_n 0, 1) := by decide +kernel
theorem dX3_takeAct_44 : decode cX3_takeAct 44 = .ok (.getfield 21, 3) := by decide +kernel
theorem dX3_takeAct_47 : decode cX3_takeAct 47 = .ok (.ifCond .eq 5, 3) := by decide +kernel
theorem dX3_takeAct_50 : decode cX3_takeAct 50 = .ok (.iconst 0, 1) := by decide +kernel
theorem dX3_takeAct_51 : decode cX3_takeAct 51 = .ok (.ireturn, 1) := by decide +kernel
theorem dX3_takeAct_52 : decode cX3_takeAct 52 = .ok (.aload_n 0, 1) := by decide +kernel
theorem dX3_takeAct_53 : decode cX3_takeAct 53 = .ok (.invokevirtual 29, 3) := by decide +kernel
theorem dX3_takeAct_56 : decode cX3_takeAct 56 = .ok (.aload_n 0, 1) := by decide +kernel
theorem dX3_takeAct_57 : decode cX3_takeAct 57 = .ok (.aload_n 0, 1) := by decide +kernel
theorem dX3_takeAct_58 : decode cX3_takeAct 58 = .ok (.getfield 9, 3) := by decide +kernel
theorem dX3_takeAct_61 : decode cX3_takeAct 61 = .ok (.putfield 15, 3) := by decide +kernel
theorem dX3_takeAct_64 : decode cX3_takeAct 64 = .ok (.aload_n 0, 1) := by decide +kernel
theorem dX3_takeAct_65 : decode cX3_takeAct 65 = .ok (.aload_n 0, 1) := by decide +kernel
theorem dX3_takeAct_66 : decode cX3_takeAct 66 = .ok (.getfield 18, 3) := by decide +kernel
theorem dX3_takeAct_69 : decode cX3_takeAct 69 = .ok (.bipush 14, 2) := by decide +kernel
theorem dX3_takeAct_71 : decode cX3_takeAct 71 = .ok (.if_icmp .ge 19, 3) := by decide +kernel
theorem dX3_takeAct_74 : decode cX3_takeAct 74 = .ok (.aload_n 0, 1) := by decide +kernel
theorem dX3_takeAct_75 : decode cX3_takeAct 75 = .ok (.aload_n 1, 1) := by decide +kernel
theorem dX3_takeAct_76 : decode cX3_takeAct 76 = .ok (.invokevirtual 41, 3) := by decide +kernel
theorem dX3_takeAct_79 : decode cX3_takeAct 79 = .ok (.ifCond .eq 11, 3) := by decide +kernel
theorem dX3_takeAct_82 : decode cX3_takeAct 82 = .ok (.aload_n 0, 1) := by decide +kernel
theorem dX3_takeAct_83 : decode cX3_takeAct 83 = .ok (.aload_n 1, 1) := by decide +kernel
theorem dX3_takeAct_84 : decode cX3_takeAct 84 = .ok (.invokevirtual 45, 3) := by decide +kernel
theorem dX3_takeAct_87 : decode cX3_takeAct 87 = .ok (.ifCond .ne 7, 3) := by decide +kernel
theorem dX3_takeAct_90 : decode cX3_takeAct 90 = .ok (.iconst 1, 1) := by decide +kernel
theorem dX3_takeAct_91 : decode cX3_takeAct 91 = .ok (.goto 4, 3) := by decide +kernel
theorem dX3_takeAct_94 : decode cX3_takeAct 94 = .ok (.iconst 0, 1) := by decide +kernel
theorem dX3_takeAct_95 : decode cX3_takeAct 95 = .ok (.putfield 21, 3) := by decide +kernel
theorem dX3_takeAct_98 : decode cX3_takeAct 98 = .ok (.aload_n 0, 1) := by decide +kernel
theorem dX3_takeAct_99 : decode cX3_takeAct 99 = .ok (.dup, 1) := by decide +kernel
theorem dX3_takeAct_100 : decode cX3_takeAct 100 = .ok (.getfield 18, 3) := by decide +kernel
theorem dX3_takeAct_103 : decode cX3_takeAct 103 = .ok (.iconst 1, 1) := by decide +kernel
theorem dX3_takeAct_104 : decode cX3_takeAct 104 = .ok (.iadd, 1) := by decide +kernel
theorem dX3_takeAct_105 : decode cX3_takeAct 105 = .ok (.putfield 18, 3) := by decide +kernel
theorem dX3_takeAct_108 : decode cX3_takeAct 108 = .ok (.aload_n 0, 1) := by decide +kernel
theorem dX3_takeAct_109 : decode cX3_takeAct 109 = .ok (.getfield 21, 3) := by decide +kernel
theorem dX3_takeAct_112 : decode cX3_takeAct 112 = .ok (.ifCond .ne 7, 3) := by decide +kernel
theorem dX3_takeAct_115 : decode cX3_takeAct 115 = .ok (.iconst 1, 1) := by decide +kernel
theorem dX3_takeAct_116 : decode cX3_takeAct 116 = .ok (.goto 4, 3) := by decide +kernel
theorem dX3_takeAct_119 : decode cX3_takeAct 119 = .ok (.iconst 0, 1) := by decide +kernel
theorem dX3_takeAct_120 : decode cX3_takeAct 120 = .ok (.ireturn, 1) := by decide +kernel
set_option maxRecDepth 20000 in
set_option maxHeartbeats 4000000 in
theorem wk_X3_takeAct_95 {p : Program} {l : Launch} {e : Env} {s : State} {m : MethodId} {args : Array Value} {below : List Frame} {meth : Method} {c : Code} {G : Gp} {σ : St} {t1 : Int32}  {Q : Int32 → St → Prop} (F : FX p s m args meth c cX3_takeAct 2 (some .boolean) RX3 G)   (h : wp_X3_takeAct_95 σ t1 Q) : J p l e (rmF 8 185) s m args below meth c 2 G (MQ below (QQ G (qI Q)) args s 0 0 (fr G)) 0 0 95 [(0, .ref (gb G + 3))] [.int t1, .ref (gb G + 3)] σ := by
  unfold wp_X3_takeAct_95 at h
  obtain ⟨h_1, h⟩ := h
  refine J_pfi F (ci := 3) 4 rfl inX3 tyX3 tyX3_ok nmX3 ly_3 (by decide) (by decide) rfl lf_X3_21 rfl rfl (tyX3_ok 4 (by decide)) (nz_b h_1) (nz_f h_1) dX3_takeAct_95 ?_
  refine J_st (fun σ_2 eσ_2 => ?_)
  have h := h σ_2 eσ_2
  refine J_aln F 0 dX3_takeAct_98 rfl rfl ?_
  refine J_dup F dX3_takeAct_99 rfl ?_
  refine J_gfi F (ci := 3) 3 rfl inX3 ly_3 (by decide) (by decide) rfl lf_X3_18 rfl dX3_takeAct_100 ?_
  refine J_ic F dX3_takeAct_103 ki_1 ?_
  refine J_iadd F dX3_takeAct_104 ?_
  refine J_pfi F (ci := 3) 3 rfl inX3 tyX3 tyX3_ok nmX3 ly_3 (by decide) (by decide) rfl lf_X3_18 rfl rfl (tyX3_ok 3 (by decide)) rfl rfl dX3_takeAct_105 ?_
  refine J_st (fun σ_3 eσ_3 => ?_)
  have h := h σ_3 eσ_3
  refine J_aln F 0 dX3_takeAct_108 rfl rfl ?_
  refine J_gfi F (ci := 3) 4 rfl inX3 ly_3 (by decide) (by decide) rfl lf_X3_21 rfl dX3_takeAct_109 ?_
  refine J_zne F (tgt := 119) dX3_takeAct_112 (by decide) (fun c_4 => ?_) (fun c_4 => ?_)
  · have h := h.1 c_4
    refine J_ic F dX3_takeAct_119 ki_0 ?_
    exact J_retz F (Or.inl rfl) ⟨_, rfl, h⟩ dX3_takeAct_120
  · have h := h.2 c_4
    refine J_ic F dX3_takeAct_115 ki_1 ?_
    refine J_goto F (tgt := 120) dX3_takeAct_116 (by decide) ?_
    exact J_retz F (Or.inr rfl) ⟨_, rfl, h⟩ dX3_takeAct_120
set_option maxRecDepth 20000 in
set_option maxHeartbeats 4000000 in
theorem wk_X3_takeAct_90 {p : Program} {l : Launch} {e : Env} {s : State} {m : MethodId} {args : Array Value} {below : List Frame} {meth : Method} {c : Code} {G : Gp} {σ : St}   {Q : Int32 → St → Prop} (F : FX p s m args meth c cX3_takeAct 2 (some .boolean) RX3 G)   (h : wp_X3_takeAct_90 σ Q) : J p l e (rmF 8 185) s m args below meth c 2 G (MQ below (QQ G (qI Q)) args s 0 0 (fr G)) 0 0 90 [(0, .ref (gb G + 3))] [.ref (gb G + 3)] σ := by
  unfold wp_X3_takeAct_90 at h
  refine J_ic F dX3_takeAct_90 ki_1 ?_
  refine J_goto F (tgt := 95) dX3_takeAct_91 (by decide) ?_
  exact wk_X3_takeAct_95 F  h
set_option maxRecDepth 20000 in
set_option maxHeartbeats 4000000 in
theorem wk_X3_takeAct_40 {p : Program} {l : Launch} {e : Env} {s : State} {m : MethodId} {args : Array Value} {below : List Frame} {meth : Method} {c : Code} {G : Gp} {σ : St} {t1 : Int32}  {Q : Int32 → St → Prop} (F : FX p s m args meth c cX3_takeAct 2 (some .boolean) RX3 G)   (h : wp_X3_takeAct_40 σ t1 Q) : J p l e (rmF 8 185) s m args below meth c 2 G (MQ below (QQ G (qI Q)) args s 0 0 (fr G)) 0 0 40 [(0, .ref (gb G + 3)), (1, .ref (gb G + 4))] [.int t1, .ref (gb G + 3)] σ := by
  unfold wp_X3_takeAct_40 at h
  obtain ⟨h_5, h⟩ := h
  refine J_pfi F (ci := 3) 4 rfl inX3 tyX3 tyX3_ok nmX3 ly_3 (by decide) (by decide) rfl lf_X3_21 rfl rfl (tyX3_ok 4 (by decide)) (nz_b h_5) (nz_f h_5) dX3_takeAct_40 ?_
  refine J_st (fun σ_6 eσ_6 => ?_)
  have h := h σ_6 eσ_6
  refine J_aln F 0 dX3_takeAct_43 rfl rfl ?_
  refine J_gfi F (ci := 3) 4 rfl inX3 ly_3 (by decide) (by decide) rfl lf_X3_21 rfl dX3_takeAct_44 ?_
  refine J_zeq F (tgt := 52) dX3_takeAct_47 (by decide) (fun c_7 => ?_) (fun c_7 => ?_)
  · have h := h.1 c_7
    refine J_aln F 0 dX3_takeAct_52 rfl rfl ?_
    refine J_callVv F (As := []) (st := []) (C_X3_skipBlanks l G   h) (ci := 3) ly_3 (by decide) rfl rfl lm_X3_29 li_X3_skipBlanks ls_X3_skipBlanks ini_X3 lc_X3_skipBlanks hd_X3_skipBlanks (by decide) (Nat.le_of_ble_eq_true rfl) (by decide) rfl dX3_takeAct_53 (fun σ_8 h => ?_)
    refine J_aln F 0 dX3_takeAct_56 rfl rfl ?_
    refine J_aln F 0 dX3_takeAct_57 rfl rfl ?_
    refine J_gfi F (ci := 3) 1 rfl inX3 ly_3 (by decide) (by decide) rfl lf_X3_9 rfl dX3_takeAct_58 ?_
    refine J_pfi F (ci := 3) 2 rfl inX3 tyX3 tyX3_ok nmX3 ly_3 (by decide) (by decide) rfl lf_X3_15 rfl rfl (tyX3_ok 2 (by decide)) rfl rfl dX3_takeAct_61 ?_
    refine J_st (fun σ_9 eσ_9 => ?_)
    have h := h σ_9 eσ_9
    refine J_aln F 0 dX3_takeAct_64 rfl rfl ?_
    refine J_aln F 0 dX3_takeAct_65 rfl rfl ?_
    refine J_gfi F (ci := 3) 3 rfl inX3 ly_3 (by decide) (by decide) rfl lf_X3_18 rfl dX3_takeAct_66 ?_
    refine J_bi F dX3_takeAct_69 kb_14 ?_
    refine J_cge F (tgt := 90) dX3_takeAct_71 (by decide) (fun c_10 => ?_) (fun c_10 => ?_)
    · have h := h.1 c_10
      refine J_sub [0] rfl ?_
      exact wk_X3_takeAct_90 F  h
    · have h := h.2 c_10
      refine J_aln F 0 dX3_takeAct_74 rfl rfl ?_
      refine J_aln F 1 dX3_takeAct_75 rfl rfl ?_
      refine J_callVi F (As := [.ref (gb G + 4)]) (st := [.ref (gb G + 3)]) (C_X3_takeKind l G   h) (ci := 3) ly_3 (by decide) rfl rfl lm_X3_41 li_X3_takeKind ls_X3_takeKind ini_X3 lc_X3_takeKind hd_X3_takeKind (by decide) (Nat.le_of_ble_eq_true rfl) (by decide) rfl dX3_takeAct_76 (fun r_11 σ_12 h => ?_)
      refine J_zeq F (tgt := 90) dX3_takeAct_79 (by decide) (fun c_13 => ?_) (fun c_13 => ?_)
      · have h := h.1 c_13
        refine J_sub [0] rfl ?_
        exact wk_X3_takeAct_90 F  h
      · have h := h.2 c_13
        refine J_aln F 0 dX3_takeAct_82 rfl rfl ?_
        refine J_aln F 1 dX3_takeAct_83 rfl rfl ?_
        refine J_callVi F (As := [.ref (gb G + 4)]) (st := [.ref (gb G + 3)]) (C_X3_takeNumbers l G   h) (ci := 3) ly_3 (by decide) rfl rfl lm_X3_45 li_X3_takeNumbers ls_X3_takeNumbers ini_X3 lc_X3_takeNumbers hd_X3_takeNumbers (by decide) (Nat.le_of_ble_eq_true rfl) (by decide) rfl dX3_takeAct_84 (fun r_14 σ_15 h => ?_)
        refine J_zne F (tgt := 94) dX3_takeAct_87 (by decide) (fun c_16 => ?_) (fun c_16 => ?_)
        · have h := h.1 c_16
          refine J_ic F dX3_takeAct_94 ki_0 ?_
          refine J_sub [0] rfl ?_
          exact wk_X3_takeAct_95 F  h
        · have h := h.2 c_16
          refine J_sub [0] rfl ?_
          exact wk_X3_takeAct_90 F  h
  · have h := h.2 c_7
    refine J_ic F dX3_takeAct_50 ki_0 ?_
    exact J_retz F (Or.inl rfl) ⟨_, rfl, h⟩ dX3_takeAct_51
set_option maxRecDepth 20000 in
set_option maxHeartbeats 4000000 in
theorem wk_X3_takeAct_39 {p : Program} {l : Launch} {e : Env} {s : State} {m : MethodId} {args : Array Value} {below : List Frame} {meth : Method} {c : Code} {G : Gp} {σ : St}   {Q : Int32 → St → Prop} (F : FX p s m args meth c cX3_takeAct 2 (some .boolean) RX3 G)   (h : wp_X3_takeAct_39 σ Q) : J p l e (rmF 8 185) s m args below meth c 2 G (MQ below (QQ G (qI Q)) args s 0 0 (fr G)) 0 0 39 [(0, .ref (gb G + 3)), (1, .ref (gb G + 4))] [.ref (gb G + 3)] σ := by
  unfold wp_X3_takeAct_39 at h
  refine J_ic F dX3_takeAct_39 ki_0 ?_
  exact wk_X3_takeAct_40 F  h
set_option maxRecDepth 20000 in
set_option maxHeartbeats 4000000 in
theorem C_X3_takeAct (l : Launch) (G : Gp)   {σ : St} {Q : Int32 → St → Prop} (h : wp_X3_takeAct σ  Q) : Cn l yX3_takeAct cX3_takeAct 2 (some .boolean) 8 185 G [.ref (gb G + 3), .ref (gb G + 4)] σ (qI Q) := by
  refine Cn_of (L := [(0, .ref (gb G + 3)), (1, .ref (gb G + 4))]) RX3 (by decide) rfl (Nat.le_of_ble_eq_true rfl) rfl ?_
  intro p e s m below meth c F
  unfold wp_X3_takeAct at h
  refine J_aln F 0 dX3_takeAct_0 rfl rfl ?_
  refine J_callVv F (As := []) (st := []) (C_X3_skipBlanks l G   h) (ci := 3) ly_3 (by decide) rfl rfl lm_X3_29 li_X3_skipBlanks ls_X3_skipBlanks ini_X3 lc_X3_skipBlanks hd_X3_skipBlanks (by decide) (Nat.le_of_ble_eq_true rfl) (by decide) rfl dX3_takeAct_1 (fun σ_17 h => ?_)
  refine J_aln F 0 dX3_takeAct_4 rfl rfl ?_
  refine J_gfi F (ci := 3) 1 rfl inX3 ly_3 (by decide) (by decide) rfl lf_X3_9 rfl dX3_takeAct_5 ?_
  refine J_aln F 0 dX3_takeAct_8 rfl rfl ?_
  refine J_gfa F (ci := 3) 0 rfl inX3 ly_3 (by decide) (by decide) rfl lf_X3_25 rfl dX3_takeAct_9 ?_
  refine J_gfi F (ci := 6) 1 rfl inX6 ly_1 (by decide) (by decide) rfl lf_X3_32 rfl dX3_takeAct_12 ?_
  refine J_clt F (tgt := 20) dX3_takeAct_15 (by decide) (fun c_18 => ?_) (fun c_18 => ?_)
  · have h := h.1 c_18
    refine J_aln F 0 dX3_takeAct_20 rfl rfl ?_
    refine J_aln F 0 dX3_takeAct_21 rfl rfl ?_
    refine J_gfi F (ci := 3) 3 rfl inX3 ly_3 (by decide) (by decide) rfl lf_X3_18 rfl dX3_takeAct_22 ?_
    refine J_zle F (tgt := 39) dX3_takeAct_25 (by decide) (fun c_19 => ?_) (fun c_19 => ?_)
    · have h := h.1 c_19
      exact wk_X3_takeAct_39 F  h
    · have h := h.2 c_19
      refine J_aln F 0 dX3_takeAct_28 rfl rfl ?_
      refine J_callVi F (As := []) (st := [.ref (gb G + 3)]) (C_X3_takeSemicolon l G   h) (ci := 3) ly_3 (by decide) rfl rfl lm_X3_37 li_X3_takeSemicolon ls_X3_takeSemicolon ini_X3 lc_X3_takeSemicolon hd_X3_takeSemicolon (by decide) (Nat.le_of_ble_eq_true rfl) (by decide) rfl dX3_takeAct_29 (fun r_20 σ_21 h => ?_)
      refine J_zne F (tgt := 39) dX3_takeAct_32 (by decide) (fun c_22 => ?_) (fun c_22 => ?_)
      · have h := h.1 c_22
        exact wk_X3_takeAct_39 F  h
      · have h := h.2 c_22
        refine J_ic F dX3_takeAct_35 ki_1 ?_
        refine J_goto F (tgt := 40) dX3_takeAct_36 (by decide) ?_
        exact wk_X3_takeAct_40 F  h
  · have h := h.2 c_18
    refine J_ic F dX3_takeAct_18 ki_0 ?_
    exact J_retz F (Or.inl rfl) ⟨_, rfl, h⟩ dX3_takeAct_19
theorem dX9_has_0 : decode cX9_has 0 = .ok (.aload_n 0, 1) := by decide +kernel
theorem dX9_has_1 : decode cX9_has 1 = .ok (.invokevirtual 249, 3) := by decide +kernel
theorem dX9_has_4 : decode cX9_has 4 = .ok (.istore_n 2, 1) := by decide +kernel
theorem dX9_has_5 : decode cX9_has 5 = .ok (.iload_n 2, 1) := by decide +kernel
theorem dX9_has_6 : decode cX9_has 6 = .ok (.aload_n 0, 1) := by decide +kernel
theorem dX9_has_7 : decode cX9_has 7 = .ok (.getfield 246, 3) := by decide +kernel
theorem dX9_has_10 : decode cX9_has 10 = .ok (.if_icmp .ge 25, 3) := by decide +kernel
theorem dX9_has_13 : decode cX9_has 13 = .ok (.aload_n 0, 1) := by decide +kernel
theorem dX9_has_14 : decode cX9_has 14 = .ok (.getfield 23, 3) := by decide +kernel
theorem dX9_has_17 : decode cX9_has 17 = .ok (.iload_n 2, 1) := by decide +kernel
theorem dX9_has_18 : decode cX9_has 18 = .ok (.iaload, 1) := by decide +kernel
theorem dX9_has_19 : decode cX9_has 19 = .ok (.bipush 97, 2) := by decide +kernel
theorem dX9_has_21 : decode cX9_has 21 = .ok (.bipush 122, 2) := by decide +kernel
theorem dX9_has_23 : decode cX9_has 23 = .ok (.invokestatic 77, 3) := by decide +kernel
theorem dX9_has_26 : decode cX9_has 26 = .ok (.ifCond .eq 9, 3) := by decide +kernel
theorem dX9_has_29 : decode cX9_has 29 = .ok (.iinc 2 1, 3) := by decide +kernel
theorem dX9_has_32 : decode cX9_has 32 = .ok (.goto (-27), 3) := by decide +kernel
theorem dX9_has_35 : decode cX9_has 35 = .ok (.aload_n 0, 1) := by decide +kernel
theorem dX9_has_36 : decode cX9_has 36 = .ok (.getfield 26, 3) := by decide +kernel
theorem dX9_has_39 : decode cX9_has 39 = .ok (.iconst (-1), 1) := by decide +kernel
theorem dX9_has_40 : decode cX9_has 40 = .ok (.if_icmp .ne 16, 3) := by decide +kernel
theorem dX9_has_43 : decode cX9_has 43 = .ok (.iload_n 2, 1) := by decide +kernel
theorem dX9_has_44 : decode cX9_has 44 = .ok (.aload_n 0, 1) := by decide +kernel
theorem dX9_has_45 : decode cX9_has 45 = .ok (.getfield 243, 3) := by decide +kernel
theorem dX9_has_48 : decode cX9_has 48 = .ok (.isub, 1) := by decide +kernel
theorem dX9_has_49 : decode cX9_has 49 = .ok (.aload_n 1, 1) := by decide +kernel
theorem dX9_has_50 : decode cX9_has 50 = .ok (.invokevirtual 252, 3) := by decide +kernel
theorem dX9_has_53 : decode cX9_has 53 = .ok (.if_icmp .eq 5, 3) := by decide +kernel
theorem dX9_has_56 : decode cX9_has 56 = .ok (.iconst 0, 1) := by decide +kernel
theorem dX9_has_57 : decode cX9_has 57 = .ok (.ireturn, 1) := by decide +kernel
theorem dX9_has_58 : decode cX9_has 58 = .ok (.iconst 0, 1) := by decide +kernel
theorem dX9_has_59 : decode cX9_has 59 = .ok (.istore_n 3, 1) := by decide +kernel
theorem dX9_has_60 : decode cX9_has 60 = .ok (.iload_n 3, 1) := by decide +kernel
theorem dX9_has_61 : decode cX9_has 61 = .ok (.aload_n 1, 1) := by decide +kernel
theorem dX9_has_62 : decode cX9_has 62 = .ok (.invokevirtual 252, 3) := by decide +kernel
theorem dX9_has_65 : decode cX9_has 65 = .ok (.if_icmp .ge 30, 3) := by decide +kernel
theorem dX9_has_68 : decode cX9_has 68 = .ok (.aload_n 0, 1) := by decide +kernel
theorem dX9_has_69 : decode cX9_has 69 = .ok (.getfield 23, 3) := by decide +kernel
theorem dX9_has_72 : decode cX9_has 72 = .ok (.aload_n 0, 1) := by decide +kernel
theorem dX9_has_73 : decode cX9_has 73 = .ok (.getfield 243, 3) := by decide +kernel
theorem dX9_has_76 : decode cX9_has 76 = .ok (.iload_n 3, 1) := by decide +kernel
theorem dX9_has_77 : decode cX9_has 77 = .ok (.iadd, 1) := by decide +kernel
theorem dX9_has_78 : decode cX9_has 78 = .ok (.iaload, 1) := by decide +kernel
theorem dX9_has_79 : decode cX9_has 79 = .ok (.aload_n 1, 1) := by decide +kernel
theorem dX9_has_80 : decode cX9_has 80 = .ok (.iload_n 3, 1) := by decide +kernel
theorem dX9_has_81 : decode cX9_has 81 = .ok (.invokevirtual 257, 3) := by decide +kernel
theorem dX9_has_84 : decode cX9_has 84 = .ok (.if_icmp .eq 5, 3) := by decide +kernel
theorem dX9_has_87 : decode cX9_has 87 = .ok (.iconst 0, 1) := by decide +kernel
theorem dX9_has_88 : decode cX9_has 88 = .ok (.ireturn, 1) := by decide +kernel
theorem dX9_has_89 : decode cX9_has 89 = .ok (.iinc 3 1, 3) := by decide +kernel
theorem dX9_has_92 : decode cX9_has 92 = .ok (.goto (-32), 3) := by decide +kernel
theorem dX9_has_95 : decode cX9_has 95 = .ok (.aload_n 0, 1) := by decide +kernel
theorem dX9_has_96 : decode cX9_has 96 = .ok (.iload_n 2, 1) := by decide +kernel
theorem dX9_has_97 : decode cX9_has 97 = .ok (.putfield 243, 3) := by decide +kernel
theorem dX9_has_100 : decode cX9_has 100 = .ok (.iconst 1, 1) := by decide +kernel
theorem dX9_has_101 : decode cX9_has 101 = .ok (.ireturn, 1) := by decide +kernel
set_option maxRecDepth 20000 in
set_option maxHeartbeats 4000000 in
theorem wk_X9_has_60 {p : Program} {l : Launch} {e : Env} {s : State} {m : MethodId} {args : Array Value} {below : List Frame} {meth : Method} {c : Code} {G : Gp} {σ : St} {w1 : Nat} {x2 : Int32}  {Q : Int32 → St → Prop} (F : FX p s m args meth c cX9_has 4 (some .boolean) RX9 G) (y1 : w1 < 12)  : ∀ (n9 : Nat) (x3 : Int32), LP1 (wp_X9_has_60 σ w1 x2 Q) n9 x3 → J p l e (rmF 5 120) s m args below meth c 4 G (MQ below (QQ G (qI Q)) args s 0 0 (fr G)) 0 0 60 [(0, .ref (gb G + 244)), (1, .ref (gx G w1)), (2, .int x2), (3, .int x3)] [] σ := by
  intro n9
  induction n9 with
  | zero => intro x3 h; exact h.elim
  | succ n9 i60 =>
    intro x3 h
    have h : wp_X9_has_60 σ w1 x2 Q (LP1 (wp_X9_has_60 σ w1 x2 Q) n9) x3 := h
    unfold wp_X9_has_60 at h
    refine J_iln F 3 dX9_has_60 rfl rfl ?_
    refine J_aln F 1 dX9_has_61 rfl rfl ?_
    refine J_slen F y1 lm_X9_252 (by decide) (Nat.le_of_ble_eq_true rfl) (by decide) dX9_has_62 ?_
    refine J_cge F (tgt := 95) dX9_has_65 (by decide) (fun c_1 => ?_) (fun c_1 => ?_)
    · have h := h.1 c_1
      refine J_aln F 0 dX9_has_95 rfl rfl ?_
      refine J_iln F 2 dX9_has_96 rfl rfl ?_
      refine J_pfi F (ci := 9) 11 rfl inX9 tyX9 tyX9_ok nmX9 ly_244 (by decide) (by decide) rfl lf_X9_243 rfl rfl (tyX9_ok 11 (by decide)) rfl rfl dX9_has_97 ?_
      refine J_st (fun σ_2 eσ_2 => ?_)
      have h := h σ_2 eσ_2
      refine J_ic F dX9_has_100 ki_1 ?_
      exact J_retz F (Or.inr rfl) ⟨_, rfl, h⟩ dX9_has_101
    · have h := h.2 c_1
      refine J_aln F 0 dX9_has_68 rfl rfl ?_
      refine J_gfa F (ci := 9) 8 rfl inX9 ly_244 (by decide) (by decide) rfl lf_X9_23 rfl dX9_has_69 ?_
      refine J_aln F 0 dX9_has_72 rfl rfl ?_
      refine J_gfi F (ci := 9) 11 rfl inX9 ly_244 (by decide) (by decide) rfl lf_X9_243 rfl dX9_has_73 ?_
      refine J_iln F 3 dX9_has_76 rfl rfl ?_
      refine J_iadd F dX9_has_77 ?_
      obtain ⟨h_3, h⟩ := h
      refine J_iald F ly_249 h_3 dX9_has_78 ?_
      refine J_aln F 1 dX9_has_79 rfl rfl ?_
      refine J_iln F 3 dX9_has_80 rfl rfl ?_
      obtain ⟨h_4, h⟩ := h
      refine J_char F y1 h_4 lm_X9_257 (by decide) (Nat.le_of_ble_eq_true rfl) (by decide) dX9_has_81 ?_
      refine J_ceq F (tgt := 89) dX9_has_84 (by decide) (fun c_5 => ?_) (fun c_5 => ?_)
      · have h := h.1 c_5
        obtain ⟨x3_6, ex3_6⟩ : ∃ z : Int32, z = x3 + (nI 1) := ⟨_, rfl⟩
        have h := h x3_6 ex3_6
        refine J_iinc F (v := x3_6) (L' := [(3, .int x3_6), (0, .ref (gb G + 244)), (1, .ref (gx G w1)), (2, .int x2)]) 3 dX9_has_89 rfl (by rw [ki_1, ex3_6]) (by decide) rfl ?_
        refine J_goto F (tgt := 60) dX9_has_92 (by decide) ?_
        refine J_sub [1, 2, 3, 0] rfl ?_
        exact i60 _ h
      · have h := h.2 c_5
        refine J_ic F dX9_has_87 ki_0 ?_
        exact J_retz F (Or.inl rfl) ⟨_, rfl, h⟩ dX9_has_88
set_option maxRecDepth 20000 in
set_option maxHeartbeats 4000000 in
theorem wk_X9_has_35 {p : Program} {l : Launch} {e : Env} {s : State} {m : MethodId} {args : Array Value} {below : List Frame} {meth : Method} {c : Code} {G : Gp} {σ : St} {w1 : Nat} {x2 : Int32}  {Q : Int32 → St → Prop} (F : FX p s m args meth c cX9_has 4 (some .boolean) RX9 G) (y1 : w1 < 12)  (h : wp_X9_has_35 σ w1 x2 Q) : J p l e (rmF 5 120) s m args below meth c 4 G (MQ below (QQ G (qI Q)) args s 0 0 (fr G)) 0 0 35 [(0, .ref (gb G + 244)), (1, .ref (gx G w1)), (2, .int x2)] [] σ := by
  unfold wp_X9_has_35 at h
  refine J_aln F 0 dX9_has_35 rfl rfl ?_
  refine J_gfi F (ci := 9) 12 rfl inX9 ly_244 (by decide) (by decide) rfl lf_X9_26 rfl dX9_has_36 ?_
  refine J_ic F dX9_has_39 ki_m1 ?_
  refine J_cne F (tgt := 56) dX9_has_40 (by decide) (fun c_7 => ?_) (fun c_7 => ?_)
  · have h := h.1 c_7
    refine J_ic F dX9_has_56 ki_0 ?_
    exact J_retz F (Or.inl rfl) ⟨_, rfl, h⟩ dX9_has_57
  · have h := h.2 c_7
    refine J_iln F 2 dX9_has_43 rfl rfl ?_
    refine J_aln F 0 dX9_has_44 rfl rfl ?_
    refine J_gfi F (ci := 9) 11 rfl inX9 ly_244 (by decide) (by decide) rfl lf_X9_243 rfl dX9_has_45 ?_
    refine J_isub F dX9_has_48 ?_
    refine J_aln F 1 dX9_has_49 rfl rfl ?_
    refine J_slen F y1 lm_X9_252 (by decide) (Nat.le_of_ble_eq_true rfl) (by decide) dX9_has_50 ?_
    refine J_ceq F (tgt := 58) dX9_has_53 (by decide) (fun c_8 => ?_) (fun c_8 => ?_)
    · have h := h.1 c_8
      refine J_ic F dX9_has_58 ki_0 ?_
      refine J_isn F (L' := [(3, .int (nI 0)), (0, .ref (gb G + 244)), (1, .ref (gx G w1)), (2, .int x2)]) dX9_has_59 rfl (by decide) rfl ?_
      refine J_sub [1, 2, 3, 0] rfl ?_
      obtain ⟨n9, h⟩ := h
      exact wk_X9_has_60 F y1 n9 _ h
    · have h := h.2 c_8
      refine J_ic F dX9_has_56 ki_0 ?_
      exact J_retz F (Or.inl rfl) ⟨_, rfl, h⟩ dX9_has_57
set_option maxRecDepth 20000 in
set_option maxHeartbeats 4000000 in
theorem wk_X9_has_5 {p : Program} {l : Launch} {e : Env} {s : State} {m : MethodId} {args : Array Value} {below : List Frame} {meth : Method} {c : Code} {G : Gp} {σ : St} {w1 : Nat}  {Q : Int32 → St → Prop} (F : FX p s m args meth c cX9_has 4 (some .boolean) RX9 G) (y1 : w1 < 12)  : ∀ (n9 : Nat) (x2 : Int32), LP1 (wp_X9_has_5 σ w1 Q) n9 x2 → J p l e (rmF 5 120) s m args below meth c 4 G (MQ below (QQ G (qI Q)) args s 0 0 (fr G)) 0 0 5 [(0, .ref (gb G + 244)), (1, .ref (gx G w1)), (2, .int x2)] [] σ := by
  intro n9
  induction n9 with
  | zero => intro x2 h; exact h.elim
  | succ n9 i5 =>
    intro x2 h
    have h : wp_X9_has_5 σ w1 Q (LP1 (wp_X9_has_5 σ w1 Q) n9) x2 := h
    unfold wp_X9_has_5 at h
    refine J_iln F 2 dX9_has_5 rfl rfl ?_
    refine J_aln F 0 dX9_has_6 rfl rfl ?_
    refine J_gfi F (ci := 9) 10 rfl inX9 ly_244 (by decide) (by decide) rfl lf_X9_246 rfl dX9_has_7 ?_
    refine J_cge F (tgt := 35) dX9_has_10 (by decide) (fun c_9 => ?_) (fun c_9 => ?_)
    · have h := h.1 c_9
      exact wk_X9_has_35 F y1 h
    · have h := h.2 c_9
      refine J_aln F 0 dX9_has_13 rfl rfl ?_
      refine J_gfa F (ci := 9) 8 rfl inX9 ly_244 (by decide) (by decide) rfl lf_X9_23 rfl dX9_has_14 ?_
      refine J_iln F 2 dX9_has_17 rfl rfl ?_
      obtain ⟨h_10, h⟩ := h
      refine J_iald F ly_249 h_10 dX9_has_18 ?_
      refine J_bi F dX9_has_19 kb_97 ?_
      refine J_bi F dX9_has_21 kb_122 ?_
      refine J_callSi F (As := [.int (σ 249 (Int32.toNatClampNeg x2)), .int (nI 97), .int (nI 122)]) (st := []) (C_X9_isIn l G (σ 249 (Int32.toNatClampNeg x2)) (nI 97) (nI 122)  h) lm_X9_77 li_X9_isIn ini_X9 lc_X9_isIn hd_X9_isIn (by decide) (Nat.le_of_ble_eq_true rfl) (by decide) rfl dX9_has_23 (fun r_11 σ_12 hh => ?_)
      clear h
      obtain ⟨e9, h⟩ := hh
      subst σ_12
      refine J_zeq F (tgt := 35) dX9_has_26 (by decide) (fun c_13 => ?_) (fun c_13 => ?_)
      · have h := h.1 c_13
        exact wk_X9_has_35 F y1 h
      · have h := h.2 c_13
        obtain ⟨x2_14, ex2_14⟩ : ∃ z : Int32, z = x2 + (nI 1) := ⟨_, rfl⟩
        have h := h x2_14 ex2_14
        refine J_iinc F (v := x2_14) (L' := [(2, .int x2_14), (0, .ref (gb G + 244)), (1, .ref (gx G w1))]) 2 dX9_has_29 rfl (by rw [ki_1, ex2_14]) (by decide) rfl ?_
        refine J_goto F (tgt := 5) dX9_has_32 (by decide) ?_
        refine J_sub [1, 2, 0] rfl ?_
        exact i5 _ h
set_option maxRecDepth 20000 in
set_option maxHeartbeats 4000000 in
theorem C_X9_has (l : Launch) (G : Gp) (w1 : Nat) (y1 : w1 < 12) {σ : St} {Q : Int32 → St → Prop} (h : wp_X9_has σ w1 Q) : Cn l yX9_has cX9_has 4 (some .boolean) 5 120 G [.ref (gb G + 244), .ref (gx G w1)] σ (qI Q) := by
  refine Cn_of (L := [(0, .ref (gb G + 244)), (1, .ref (gx G w1))]) RX9 (by decide) rfl (Nat.le_of_ble_eq_true rfl) rfl ?_
  intro p e s m below meth c F
  unfold wp_X9_has at h
  refine J_aln F 0 dX9_has_0 rfl rfl ?_
  refine J_callVi F (As := []) (st := []) (C_X9_here l G   h) (ci := 9) ly_244 (by decide) rfl rfl lm_X9_249 li_X9_here ls_X9_here ini_X9 lc_X9_here hd_X9_here (by decide) (Nat.le_of_ble_eq_true rfl) (by decide) rfl dX9_has_1 (fun r_15 σ_16 h => ?_)
  refine J_isn F (L' := [(2, .int r_15), (0, .ref (gb G + 244)), (1, .ref (gx G w1))]) dX9_has_4 rfl (by decide) rfl ?_
  refine J_sub [1, 2, 0] rfl ?_
  obtain ⟨n9, h⟩ := h
  exact wk_X9_has_5 F y1 n9 _ h
theorem dX9_joinText_0 : decode cX9_joinText 0 = .ok (.aload_n 0, 1) := by decide +kernel
theorem dX9_joinText_1 : decode cX9_joinText 1 = .ok (.iconst 0, 1) := by decide +kernel
theorem dX9_joinText_2 : decode cX9_joinText 2 = .ok (.bipush 99, 2) := by decide +kernel
theorem dX9_joinText_4 : decode cX9_joinText 4 = .ok (.invokevirtual 264, 3) := by decide +kernel
theorem dX9_joinText_7 : decode cX9_joinText 7 = .ok (.istore_n 1, 1) := by decide +kernel
theorem dX9_joinText_8 : decode cX9_joinText 8 = .ok (.aload_n 0, 1) := by decide +kernel
theorem dX9_joinText_9 : decode cX9_joinText 9 = .ok (.iconst 0, 1) := by decide +kernel
theorem dX9_joinText_10 : decode cX9_joinText 10 = .ok (.bipush 99, 2) := by decide +kernel
theorem dX9_joinText_12 : decode cX9_joinText 12 = .ok (.invokevirtual 264, 3) := by decide +kernel
theorem dX9_joinText_15 : decode cX9_joinText 15 = .ok (.istore_n 2, 1) := by decide +kernel
theorem dX9_joinText_16 : decode cX9_joinText 16 = .ok (.aload_n 0, 1) := by decide +kernel
theorem dX9_joinText_17 : decode cX9_joinText 17 = .ok (.ldc_w 267, 3) := by decide +kernel
theorem dX9_joinText_20 : decode cX9_joinText 20 = .ok (.invokevirtual 269, 3) := by decide +kernel
theorem dX9_joinText_23 : decode cX9_joinText 23 = .ok (.ifCond .eq 10, 3) := by decide +kernel
theorem dX9_joinText_26 : decode cX9_joinText 26 = .ok (.aload_n 0, 1) := by decide +kernel
theorem dX9_joinText_27 : decode cX9_joinText 27 = .ok (.iload_n 1, 1) := by decide +kernel
theorem dX9_joinText_28 : decode cX9_joinText 28 = .ok (.iload_n 2, 1) := by decide +kernel
theorem dX9_joinText_29 : decode cX9_joinText 29 = .ok (.invokevirtual 273, 3) := by decide +kernel
theorem dX9_joinText_32 : decode cX9_joinText 32 = .ok (.ireturn, 1) := by decide +kernel
theorem dX9_joinText_33 : decode cX9_joinText 33 = .ok (.aload_n 0, 1) := by decide +kernel
theorem dX9_joinText_34 : decode cX9_joinText 34 = .ok (.getfield 26, 3) := by decide +kernel
theorem dX9_joinText_37 : decode cX9_joinText 37 = .ok (.iconst (-1), 1) := by decide +kernel
theorem dX9_joinText_38 : decode cX9_joinText 38 = .ok (.if_icmp .ne 21, 3) := by decide +kernel
theorem dX9_joinText_41 : decode cX9_joinText 41 = .ok (.aload_n 0, 1) := by decide +kernel
theorem dX9_joinText_42 : decode cX9_joinText 42 = .ok (.ldc_w 276, 3) := by decide +kernel
theorem dX9_joinText_45 : decode cX9_joinText 45 = .ok (.invokevirtual 269, 3) := by decide +kernel
theorem dX9_joinText_48 : decode cX9_joinText 48 = .ok (.ifCond .ne 11, 3) := by decide +kernel
theorem dX9_joinText_51 : decode cX9_joinText 51 = .ok (.aload_n 0, 1) := by decide +kernel
theorem dX9_joinText_52 : decode cX9_joinText 52 = .ok (.aload_n 0, 1) := by decide +kernel
theorem dX9_joinText_53 : decode cX9_joinText 53 = .ok (.getfield 243, 3) := by decide +kernel
theorem dX9_joinText_56 : decode cX9_joinText 56 = .ok (.invokevirtual 261, 3) := by decide +kernel
theorem dX9_joinText_59 : decode cX9_joinText 59 = .ok (.aload_n 0, 1) := by decide +kernel
theorem dX9_joinText_60 : decode cX9_joinText 60 = .ok (.iconst 0, 1) := by decide +kernel
theorem dX9_joinText_61 : decode cX9_joinText 61 = .ok (.bipush 31, 2) := by decide +kernel
theorem dX9_joinText_63 : decode cX9_joinText 63 = .ok (.invokevirtual 264, 3) := by decide +kernel
theorem dX9_joinText_66 : decode cX9_joinText 66 = .ok (.istore_n 3, 1) := by decide +kernel
theorem dX9_joinText_67 : decode cX9_joinText 67 = .ok (.aload_n 0, 1) := by decide +kernel
theorem dX9_joinText_68 : decode cX9_joinText 68 = .ok (.iconst 0, 1) := by decide +kernel
theorem dX9_joinText_69 : decode cX9_joinText 69 = .ok (.bipush 31, 2) := by decide +kernel
theorem dX9_joinText_71 : decode cX9_joinText 71 = .ok (.invokevirtual 264, 3) := by decide +kernel
theorem dX9_joinText_74 : decode cX9_joinText 74 = .ok (.istore 4, 2) := by decide +kernel
theorem dX9_joinText_76 : decode cX9_joinText 76 = .ok (.aload_n 0, 1) := by decide +kernel
theorem dX9_joinText_77 : decode cX9_joinText 77 = .ok (.getfield 26, 3) := by decide +kernel
theorem dX9_joinText_80 : decode cX9_joinText 80 = .ok (.iconst (-1), 1) := by decide +kernel
theorem dX9_joinText_81 : decode cX9_joinText 81 = .ok (.if_icmp .ne 15, 3) := by decide +kernel
theorem dX9_joinText_84 : decode cX9_joinText 84 = .ok (.aload_n 0, 1) := by decide +kernel
theorem dX9_joinText_85 : decode cX9_joinText 85 = .ok (.iload_n 1, 1) := by decide +kernel
theorem dX9_joinText_86 : decode cX9_joinText 86 = .ok (.iload_n 2, 1) := by decide +kernel
theorem dX9_joinText_87 : decode cX9_joinText 87 = .ok (.iload_n 3, 1) := by decide +kernel
theorem dX9_joinText_88 : decode cX9_joinText 88 = .ok (.iload 4, 2) := by decide +kernel
theorem dX9_joinText_90 : decode cX9_joinText 90 = .ok (.invokevirtual 196, 3) := by decide +kernel
theorem dX9_joinText_93 : decode cX9_joinText 93 = .ok (.goto 4, 3) := by decide +kernel
theorem dX9_joinText_96 : decode cX9_joinText 96 = .ok (.iconst 0, 1) := by decide +kernel
theorem dX9_joinText_97 : decode cX9_joinText 97 = .ok (.ireturn, 1) := by decide +kernel
set_option maxRecDepth 20000 in
set_option maxHeartbeats 4000000 in
theorem wk_X9_joinText_59 {p : Program} {l : Launch} {e : Env} {s : State} {m : MethodId} {args : Array Value} {below : List Frame} {meth : Method} {c : Code} {G : Gp} {σ : St} {x1 : Int32} {x2 : Int32}  {Q : Int32 → St → Prop} (F : FX p s m args meth c cX9_joinText 5 (some .int) RX9 G)   (h : wp_X9_joinText_59 σ x1 x2 Q) : J p l e (rmF 7 167) s m args below meth c 5 G (MQ below (QQ G (qI Q)) args s 0 0 (fr G)) 0 0 59 [(0, .ref (gb G + 244)), (1, .int x1), (2, .int x2)] [] σ := by
  unfold wp_X9_joinText_59 at h
  refine J_aln F 0 dX9_joinText_59 rfl rfl ?_
  refine J_ic F dX9_joinText_60 ki_0 ?_
  refine J_bi F dX9_joinText_61 kb_31 ?_
  refine J_callVi F (As := [.int (nI 0), .int (nI 31)]) (st := []) (C_X9_number l G (nI 0) (nI 31)  h) (ci := 9) ly_244 (by decide) rfl rfl lm_X9_264 li_X9_number ls_X9_number ini_X9 lc_X9_number hd_X9_number (by decide) (Nat.le_of_ble_eq_true rfl) (by decide) rfl dX9_joinText_63 (fun r_1 σ_2 h => ?_)
  refine J_isn F (L' := [(3, .int r_1), (0, .ref (gb G + 244)), (1, .int x1), (2, .int x2)]) dX9_joinText_66 rfl (by decide) rfl ?_
  refine J_aln F 1 dX9_joinText_67 rfl rfl ?_
  refine J_ic F dX9_joinText_68 ki_0 ?_
  refine J_bi F dX9_joinText_69 kb_31 ?_
  refine J_callVi F (As := [.int (nI 0), .int (nI 31)]) (st := []) (C_X9_number l G (nI 0) (nI 31)  h) (ci := 9) ly_244 (by decide) rfl rfl lm_X9_264 li_X9_number ls_X9_number ini_X9 lc_X9_number hd_X9_number (by decide) (Nat.le_of_ble_eq_true rfl) (by decide) rfl dX9_joinText_71 (fun r_3 σ_4 h => ?_)
  refine J_is F (L' := [(4, .int r_3), (3, .int r_1), (0, .ref (gb G + 244)), (1, .int x1), (2, .int x2)]) dX9_joinText_74 (by decide) rfl ?_
  refine J_aln F 2 dX9_joinText_76 rfl rfl ?_
  refine J_gfi F (ci := 9) 12 rfl inX9 ly_244 (by decide) (by decide) rfl lf_X9_26 rfl dX9_joinText_77 ?_
  refine J_ic F dX9_joinText_80 ki_m1 ?_
  refine J_cne F (tgt := 96) dX9_joinText_81 (by decide) (fun c_5 => ?_) (fun c_5 => ?_)
  · have h := h.1 c_5
    refine J_ic F dX9_joinText_96 ki_0 ?_
    exact J_reti F ⟨_, rfl, h⟩ dX9_joinText_97
  · have h := h.2 c_5
    refine J_aln F 2 dX9_joinText_84 rfl rfl ?_
    refine J_iln F 3 dX9_joinText_85 rfl rfl ?_
    refine J_iln F 4 dX9_joinText_86 rfl rfl ?_
    refine J_iln F 1 dX9_joinText_87 rfl rfl ?_
    refine J_il F 0 dX9_joinText_88 rfl ?_
    refine J_callVi F (As := [.int x1, .int x2, .int r_1, .int r_3]) (st := []) (C_X9_join0 l G x1 x2 r_1 r_3  h) (ci := 9) ly_244 (by decide) rfl rfl lm_X9_196 li_X9_join0 ls_X9_join0 ini_X9 lc_X9_join0 hd_X9_join0 (by decide) (Nat.le_of_ble_eq_true rfl) (by decide) rfl dX9_joinText_90 (fun r_6 σ_7 h => ?_)
    refine J_goto F (tgt := 97) dX9_joinText_93 (by decide) ?_
    exact J_reti F ⟨_, rfl, h⟩ dX9_joinText_97
set_option maxRecDepth 20000 in
set_option maxHeartbeats 4000000 in
theorem C_X9_joinText (l : Launch) (G : Gp)   {σ : St} {Q : Int32 → St → Prop} (h : wp_X9_joinText σ  Q) : Cn l yX9_joinText cX9_joinText 5 (some .int) 7 167 G [.ref (gb G + 244)] σ (qI Q) := by
  refine Cn_of (L := [(0, .ref (gb G + 244))]) RX9 (by decide) rfl (Nat.le_of_ble_eq_true rfl) rfl ?_
  intro p e s m below meth c F
  unfold wp_X9_joinText at h
  refine J_aln F 0 dX9_joinText_0 rfl rfl ?_
  refine J_ic F dX9_joinText_1 ki_0 ?_
  refine J_bi F dX9_joinText_2 kb_99 ?_
  refine J_callVi F (As := [.int (nI 0), .int (nI 99)]) (st := []) (C_X9_number l G (nI 0) (nI 99)  h) (ci := 9) ly_244 (by decide) rfl rfl lm_X9_264 li_X9_number ls_X9_number ini_X9 lc_X9_number hd_X9_number (by decide) (Nat.le_of_ble_eq_true rfl) (by decide) rfl dX9_joinText_4 (fun r_8 σ_9 h => ?_)
  refine J_isn F (L' := [(1, .int r_8), (0, .ref (gb G + 244))]) dX9_joinText_7 rfl (by decide) rfl ?_
  refine J_aln F 1 dX9_joinText_8 rfl rfl ?_
  refine J_ic F dX9_joinText_9 ki_0 ?_
  refine J_bi F dX9_joinText_10 kb_99 ?_
  refine J_callVi F (As := [.int (nI 0), .int (nI 99)]) (st := []) (C_X9_number l G (nI 0) (nI 99)  h) (ci := 9) ly_244 (by decide) rfl rfl lm_X9_264 li_X9_number ls_X9_number ini_X9 lc_X9_number hd_X9_number (by decide) (Nat.le_of_ble_eq_true rfl) (by decide) rfl dX9_joinText_12 (fun r_10 σ_11 h => ?_)
  refine J_isn F (L' := [(2, .int r_10), (1, .int r_8), (0, .ref (gb G + 244))]) dX9_joinText_15 rfl (by decide) rfl ?_
  refine J_aln F 2 dX9_joinText_16 rfl rfl ?_
  refine J_ldsw F txM (Or.inr ⟨rfl, rfl⟩) (q := (267, "near")) (w := 10) rfl dX9_joinText_17 ?_
  refine J_callVi F (As := [.ref (gx G 10)]) (st := []) (C_X9_has l G 10 (by decide) h) (ci := 9) ly_244 (by decide) rfl rfl lm_X9_269 li_X9_has ls_X9_has ini_X9 lc_X9_has hd_X9_has (by decide) (Nat.le_of_ble_eq_true rfl) (by decide) rfl dX9_joinText_20 (fun r_12 σ_13 h => ?_)
  refine J_zeq F (tgt := 33) dX9_joinText_23 (by decide) (fun c_14 => ?_) (fun c_14 => ?_)
  · have h := h.1 c_14
    refine J_aln F 2 dX9_joinText_33 rfl rfl ?_
    refine J_gfi F (ci := 9) 12 rfl inX9 ly_244 (by decide) (by decide) rfl lf_X9_26 rfl dX9_joinText_34 ?_
    refine J_ic F dX9_joinText_37 ki_m1 ?_
    refine J_cne F (tgt := 59) dX9_joinText_38 (by decide) (fun c_15 => ?_) (fun c_15 => ?_)
    · have h := h.1 c_15
      refine J_sub [2, 1, 0] rfl ?_
      exact wk_X9_joinText_59 F  h
    · have h := h.2 c_15
      refine J_aln F 2 dX9_joinText_41 rfl rfl ?_
      refine J_ldsw F txM (Or.inr ⟨rfl, rfl⟩) (q := (276, "at")) (w := 11) rfl dX9_joinText_42 ?_
      refine J_callVi F (As := [.ref (gx G 11)]) (st := []) (C_X9_has l G 11 (by decide) h) (ci := 9) ly_244 (by decide) rfl rfl lm_X9_269 li_X9_has ls_X9_has ini_X9 lc_X9_has hd_X9_has (by decide) (Nat.le_of_ble_eq_true rfl) (by decide) rfl dX9_joinText_45 (fun r_16 σ_17 h => ?_)
      refine J_zne F (tgt := 59) dX9_joinText_48 (by decide) (fun c_18 => ?_) (fun c_18 => ?_)
      · have h := h.1 c_18
        refine J_sub [2, 1, 0] rfl ?_
        exact wk_X9_joinText_59 F  h
      · have h := h.2 c_18
        refine J_aln F 2 dX9_joinText_51 rfl rfl ?_
        refine J_aln F 2 dX9_joinText_52 rfl rfl ?_
        refine J_gfi F (ci := 9) 11 rfl inX9 ly_244 (by decide) (by decide) rfl lf_X9_243 rfl dX9_joinText_53 ?_
        refine J_callVv F (As := [.int (σ_17 244 11)]) (st := []) (C_X9_wrong l G (σ_17 244 11)  h) (ci := 9) ly_244 (by decide) rfl rfl lm_X9_261 li_X9_wrong ls_X9_wrong ini_X9 lc_X9_wrong hd_X9_wrong (by decide) (Nat.le_of_ble_eq_true rfl) (by decide) rfl dX9_joinText_56 (fun σ_19 h => ?_)
        refine J_sub [2, 1, 0] rfl ?_
        exact wk_X9_joinText_59 F  h
  · have h := h.2 c_14
    refine J_aln F 2 dX9_joinText_26 rfl rfl ?_
    refine J_iln F 1 dX9_joinText_27 rfl rfl ?_
    refine J_iln F 0 dX9_joinText_28 rfl rfl ?_
    refine J_callVi F (As := [.int r_8, .int r_10]) (st := []) (C_X9_near0 l G r_8 r_10  h) (ci := 9) ly_244 (by decide) rfl rfl lm_X9_273 li_X9_near0 ls_X9_near0 ini_X9 lc_X9_near0 hd_X9_near0 (by decide) (Nat.le_of_ble_eq_true rfl) (by decide) rfl dX9_joinText_29 (fun r_20 σ_21 h => ?_)
    exact J_reti F ⟨_, rfl, h⟩ dX9_joinText_32
theorem dX9_act_0 : decode cX9_act 0 = .ok (.aload_n 0, 1) := by decide +kernel
theorem dX9_act_1 : decode cX9_act 1 = .ok (.invokevirtual 249, 3) := by decide +kernel
theorem dX9_act_4 : decode cX9_act 4 = .ok (.istore_n 1, 1) := by decide +kernel
theorem dX9_act_5 : decode cX9_act 5 = .ok (.iconst 0, 1) := by decide +kernel
theorem dX9_act_6 : decode cX9_act 6 = .ok (.istore_n 2, 1) := by decide +kernel
theorem dX9_act_7 : decode cX9_act 7 = .ok (.aload_n 0, 1) := by decide +kernel
theorem dX9_act_8 : decode cX9_act 8 = .ok (.ldc_w 286, 3) := by decide +kernel
theorem dX9_act_11 : decode cX9_act 11 = .ok (.invokevirtual 269, 3) := by decide +kernel
theorem dX9_act_14 : decode cX9_act 14 = .ok (.ifCond .eq 26, 3) := by decide +kernel
theorem dX9_act_17 : decode cX9_act 17 = .ok (.aload_n 0, 1) := by decide +kernel
theorem dX9_act_18 : decode cX9_act 18 = .ok (.iconst 1, 1) := by decide +kernel
theorem dX9_act_19 : decode cX9_act 19 = .ok (.iconst 3, 1) := by decide +kernel
theorem dX9_act_20 : decode cX9_act 20 = .ok (.invokevirtual 264, 3) := by decide +kernel
theorem dX9_act_23 : decode cX9_act 23 = .ok (.istore_n 3, 1) := by decide +kernel
theorem dX9_act_24 : decode cX9_act 24 = .ok (.aload_n 0, 1) := by decide +kernel
theorem dX9_act_25 : decode cX9_act 25 = .ok (.getfield 26, 3) := by decide +kernel
theorem dX9_act_28 : decode cX9_act 28 = .ok (.iconst (-1), 1) := by decide +kernel
theorem dX9_act_29 : decode cX9_act 29 = .ok (.if_icmp .ne 8, 3) := by decide +kernel
theorem dX9_act_32 : decode cX9_act 32 = .ok (.aload_n 0, 1) := by decide +kernel
theorem dX9_act_33 : decode cX9_act 33 = .ok (.iload_n 3, 1) := by decide +kernel
theorem dX9_act_34 : decode cX9_act 34 = .ok (.invokevirtual 288, 3) := by decide +kernel
theorem dX9_act_37 : decode cX9_act 37 = .ok (.goto 194, 3) := by decide +kernel
theorem dX9_act_40 : decode cX9_act 40 = .ok (.aload_n 0, 1) := by decide +kernel
theorem dX9_act_41 : decode cX9_act 41 = .ok (.ldc_w 291, 3) := by decide +kernel
theorem dX9_act_44 : decode cX9_act 44 = .ok (.invokevirtual 269, 3) := by decide +kernel
theorem dX9_act_47 : decode cX9_act 47 = .ok (.ifCond .eq 11, 3) := by decide +kernel
theorem dX9_act_50 : decode cX9_act 50 = .ok (.aload_n 0, 1) := by decide +kernel
theorem dX9_act_51 : decode cX9_act 51 = .ok (.invokevirtual 293, 3) := by decide +kernel
theorem dX9_act_54 : decode cX9_act 54 = .ok (.istore_n 2, 1) := by decide +kernel
theorem dX9_act_55 : decode cX9_act 55 = .ok (.goto 176, 3) := by decide +kernel
theorem dX9_act_58 : decode cX9_act 58 = .ok (.aload_n 0, 1) := by decide +kernel
theorem dX9_act_59 : decode cX9_act 59 = .ok (.ldc_w 296, 3) := by decide +kernel
theorem dX9_act_62 : decode cX9_act 62 = .ok (.invokevirtual 269, 3) := by decide +kernel
theorem dX9_act_65 : decode cX9_act 65 = .ok (.ifCond .eq 11, 3) := by decide +kernel
theorem dX9_act_68 : decode cX9_act 68 = .ok (.aload_n 0, 1) := by decide +kernel
theorem dX9_act_69 : decode cX9_act 69 = .ok (.invokevirtual 298, 3) := by decide +kernel
theorem dX9_act_72 : decode cX9_act 72 = .ok (.istore_n 2, 1) := by decide +kernel
theorem dX9_act_73 : decode cX9_act 73 = .ok (.goto 158, 3) := by decide +kernel
theorem dX9_act_76 : decode cX9_act 76 = .ok (.aload_n 0, 1) := by decide +kernel
theorem dX9_act_77 : decode cX9_act 77 = .ok (.ldc_w 301, 3) := by decide +kernel
theorem dX9_act_80 : decode cX9_act 80 = .ok (.invokevirtual 269, 3) := by decide +kernel
theorem dX9_act_83 : decode cX9_act 83 = .ok (.ifCond .eq 12, 3) := by decide +kernel
theorem dX9_act_86 : decode cX9_act 86 = .ok (.aload_n 0, 1) := by decide +kernel
theorem dX9_act_87 : decode cX9_act 87 = .ok (.iconst 0, 1) := by decide +kernel
theorem dX9_act_88 : decode cX9_act 88 = .ok (.invokevirtual 303, 3) := by decide +kernel
theorem dX9_act_91 : decode cX9_act 91 = .ok (.istore_n 2, 1) := by decide +kernel
theorem dX9_act_92 : decode cX9_act 92 = .ok (.goto 139, 3) := by decide +kernel
theorem dX9_act_95 : decode cX9_act 95 = .ok (.aload_n 0, 1) := by decide +kernel
theorem dX9_act_96 : decode cX9_act 96 = .ok (.ldc_w 306, 3) := by decide +kernel
theorem dX9_act_99 : decode cX9_act 99 = .ok (.invokevirtual 269, 3) := by decide +kernel
theorem dX9_act_102 : decode cX9_act 102 = .ok (.ifCond .eq 12, 3) := by decide +kernel
theorem dX9_act_105 : decode cX9_act 105 = .ok (.aload_n 0, 1) := by decide +kernel
theorem dX9_act_106 : decode cX9_act 106 = .ok (.iconst 1, 1) := by decide +kernel
theorem dX9_act_107 : decode cX9_act 107 = .ok (.invokevirtual 303, 3) := by decide +kernel
theorem dX9_act_110 : decode cX9_act 110 = .ok (.istore_n 2, 1) := by decide +kernel
theorem dX9_act_111 : decode cX9_act 111 = .ok (.goto 120, 3) := by decide +kernel
theorem dX9_act_114 : decode cX9_act 114 = .ok (.aload_n 0, 1) := by decide +kernel
theorem dX9_act_115 : decode cX9_act 115 = .ok (.ldc_w 308, 3) := by decide +kernel
theorem dX9_act_118 : decode cX9_act 118 = .ok (.invokevirtual 269, 3) := by decide +kernel
theorem dX9_act_121 : decode cX9_act 121 = .ok (.ifCond .eq 12, 3) := by decide +kernel
theorem dX9_act_124 : decode cX9_act 124 = .ok (.aload_n 0, 1) := by decide +kernel
theorem dX9_act_125 : decode cX9_act 125 = .ok (.iconst 2, 1) := by decide +kernel
theorem dX9_act_126 : decode cX9_act 126 = .ok (.invokevirtual 303, 3) := by decide +kernel
theorem dX9_act_129 : decode cX9_act 129 = .ok (.istore_n 2, 1) := by decide +kernel
theorem dX9_act_130 : decode cX9_act 130 = .ok (.goto 101, 3) := by decide +kernel
theorem dX9_act_133 : decode cX9_act 133 = .ok (.aload_n 0, 1) := by decide +kernel
theorem dX9_act_134 : decode cX9_act 134 = .ok (.ldc_w 310, 3) := by decide +kernel
theorem dX9_act_137 : decode cX9_act 137 = .ok (.invokevirtual 269, 3) := by decide +kernel
theorem dX9_act_140 : decode cX9_act 140 = .ok (.ifCond .eq 11, 3) := by decide +kernel
theorem dX9_act_143 : decode cX9_act 143 = .ok (.aload_n 0, 1) := by decide +kernel
theorem dX9_act_144 : decode cX9_act 144 = .ok (.invokevirtual 312, 3) := by decide +kernel
theorem dX9_act_147 : decode cX9_act 147 = .ok (.istore_n 2, 1) := by decide +kernel
theorem dX9_act_148 : decode cX9_act 148 = .ok (.goto 83, 3) := by decide +kernel
theorem dX9_act_151 : decode cX9_act 151 = .ok (.aload_n 0, 1) := by decide +kernel
theorem dX9_act_152 : decode cX9_act 152 = .ok (.ldc_w 315, 3) := by decide +kernel
theorem dX9_act_155 : decode cX9_act 155 = .ok (.invokevirtual 269, 3) := by decide +kernel
theorem dX9_act_158 : decode cX9_act 158 = .ok (.ifCond .eq 11, 3) := by decide +kernel
theorem dX9_act_161 : decode cX9_act 161 = .ok (.aload_n 0, 1) := by decide +kernel
theorem dX9_act_162 : decode cX9_act 162 = .ok (.invokevirtual 317, 3) := by decide +kernel
theorem dX9_act_165 : decode cX9_act 165 = .ok (.istore_n 2, 1) := by decide +kernel
theorem dX9_act_166 : decode cX9_act 166 = .ok (.goto 65, 3) := by decide +kernel
theorem dX9_act_169 : decode cX9_act 169 = .ok (.aload_n 0, 1) := by decide +kernel
theorem dX9_act_170 : decode cX9_act 170 = .ok (.ldc_w 320, 3) := by decide +kernel
theorem dX9_act_173 : decode cX9_act 173 = .ok (.invokevirtual 269, 3) := by decide +kernel
theorem dX9_act_176 : decode cX9_act 176 = .ok (.ifCond .eq 32, 3) := by decide +kernel
theorem dX9_act_179 : decode cX9_act 179 = .ok (.aload_n 0, 1) := by decide +kernel
theorem dX9_act_180 : decode cX9_act 180 = .ok (.iconst 0, 1) := by decide +kernel
theorem dX9_act_181 : decode cX9_act 181 = .ok (.bipush 99, 2) := by decide +kernel
theorem dX9_act_183 : decode cX9_act 183 = .ok (.invokevirtual 264, 3) := by decide +kernel
theorem dX9_act_186 : decode cX9_act 186 = .ok (.istore_n 3, 1) := by decide +kernel
theorem dX9_act_187 : decode cX9_act 187 = .ok (.aload_n 0, 1) := by decide +kernel
theorem dX9_act_188 : decode cX9_act 188 = .ok (.getfield 26, 3) := by decide +kernel
theorem dX9_act_191 : decode cX9_act 191 = .ok (.iconst (-1), 1) := by decide +kernel
theorem dX9_act_192 : decode cX9_act 192 = .ok (.if_icmp .ne 11, 3) := by decide +kernel
theorem dX9_act_195 : decode cX9_act 195 = .ok (.aload_n 0, 1) := by decide +kernel
theorem dX9_act_196 : decode cX9_act 196 = .ok (.iload_n 3, 1) := by decide +kernel
theorem dX9_act_197 : decode cX9_act 197 = .ok (.invokevirtual 322, 3) := by decide +kernel
theorem dX9_act_200 : decode cX9_act 200 = .ok (.goto 4, 3) := by decide +kernel
theorem dX9_act_203 : decode cX9_act 203 = .ok (.iconst 0, 1) := by decide +kernel
theorem dX9_act_204 : decode cX9_act 204 = .ok (.istore_n 2, 1) := by decide +kernel
theorem dX9_act_205 : decode cX9_act 205 = .ok (.goto 26, 3) := by decide +kernel
theorem dX9_act_208 : decode cX9_act 208 = .ok (.aload_n 0, 1) := by decide +kernel
theorem dX9_act_209 : decode cX9_act 209 = .ok (.ldc_w 325, 3) := by decide +kernel
theorem dX9_act_212 : decode cX9_act 212 = .ok (.invokevirtual 269, 3) := by decide +kernel
theorem dX9_act_215 : decode cX9_act 215 = .ok (.ifCond .eq 11, 3) := by decide +kernel
theorem dX9_act_218 : decode cX9_act 218 = .ok (.aload_n 0, 1) := by decide +kernel
theorem dX9_act_219 : decode cX9_act 219 = .ok (.invokevirtual 327, 3) := by decide +kernel
theorem dX9_act_222 : decode cX9_act 222 = .ok (.istore_n 3, 1) := by decide +kernel
theorem dX9_act_223 : decode cX9_act 223 = .ok (.goto 8, 3) := by decide +kernel
theorem dX9_act_226 : decode cX9_act 226 = .ok (.aload_n 0, 1) := by decide +kernel
theorem dX9_act_227 : decode cX9_act 227 = .ok (.iload_n 1, 1) := by decide +kernel
theorem dX9_act_228 : decode cX9_act 228 = .ok (.invokevirtual 261, 3) := by decide +kernel
theorem dX9_act_231 : decode cX9_act 231 = .ok (.iload_n 2, 1) := by decide +kernel
theorem dX9_act_232 : decode cX9_act 232 = .ok (.ifCond .le 8, 3) := by decide +kernel
theorem dX9_act_235 : decode cX9_act 235 = .ok (.aload_n 0, 1) := by decide +kernel
theorem dX9_act_236 : decode cX9_act 236 = .ok (.iload_n 1, 1) := by decide +kernel
theorem dX9_act_237 : decode cX9_act 237 = .ok (.invokevirtual 261, 3) := by decide +kernel
theorem dX9_act_240 : decode cX9_act 240 = .ok (.iload_n 2, 1) := by decide +kernel
theorem dX9_act_241 : decode cX9_act 241 = .ok (.ireturn, 1) := by decide +kernel
set_option maxRecDepth 20000 in
set_option maxHeartbeats 4000000 in
theorem wk_X9_act_231 {p : Program} {l : Launch} {e : Env} {s : State} {m : MethodId} {args : Array Value} {below : List Frame} {meth : Method} {c : Code} {G : Gp} {σ : St} {x1 : Int32} {x2 : Int32}  {Q : Int32 → St → Prop} (F : FX p s m args meth c cX9_act 4 (some .int) RX9 G)   (h : wp_X9_act_231 σ x1 x2 Q) : J p l e (rmF 9 208) s m args below meth c 4 G (MQ below (QQ G (qI Q)) args s 0 0 (fr G)) 0 0 231 [(0, .ref (gb G + 244)), (1, .int x1), (2, .int x2)] [] σ := by
  unfold wp_X9_act_231 at h
  refine J_iln F 2 dX9_act_231 rfl rfl ?_
  refine J_zle F (tgt := 240) dX9_act_232 (by decide) (fun c_1 => ?_) (fun c_1 => ?_)
  · have h := h.1 c_1
    refine J_iln F 2 dX9_act_240 rfl rfl ?_
    exact J_reti F ⟨_, rfl, h⟩ dX9_act_241
  · have h := h.2 c_1
    refine J_aln F 0 dX9_act_235 rfl rfl ?_
    refine J_iln F 1 dX9_act_236 rfl rfl ?_
    refine J_callVv F (As := [.int x1]) (st := []) (C_X9_wrong l G x1  h) (ci := 9) ly_244 (by decide) rfl rfl lm_X9_261 li_X9_wrong ls_X9_wrong ini_X9 lc_X9_wrong hd_X9_wrong (by decide) (Nat.le_of_ble_eq_true rfl) (by decide) rfl dX9_act_237 (fun σ_2 h => ?_)
    refine J_iln F 2 dX9_act_240 rfl rfl ?_
    exact J_reti F ⟨_, rfl, h⟩ dX9_act_241
set_option maxRecDepth 20000 in
set_option maxHeartbeats 4000000 in
theorem wk_X9_act_204 {p : Program} {l : Launch} {e : Env} {s : State} {m : MethodId} {args : Array Value} {below : List Frame} {meth : Method} {c : Code} {G : Gp} {σ : St} {x1 : Int32} {t0 : Int32}  {Q : Int32 → St → Prop} (F : FX p s m args meth c cX9_act 4 (some .int) RX9 G)   (h : wp_X9_act_204 σ x1 t0 Q) : J p l e (rmF 9 208) s m args below meth c 4 G (MQ below (QQ G (qI Q)) args s 0 0 (fr G)) 0 0 204 [(0, .ref (gb G + 244)), (1, .int x1)] [.int t0] σ := by
  unfold wp_X9_act_204 at h
  refine J_isn F (L' := [(2, .int t0), (0, .ref (gb G + 244)), (1, .int x1)]) dX9_act_204 rfl (by decide) rfl ?_
  refine J_goto F (tgt := 231) dX9_act_205 (by decide) ?_
  refine J_sub [1, 2, 0] rfl ?_
  exact wk_X9_act_231 F  h
set_option maxRecDepth 20000 in
set_option maxHeartbeats 4000000 in
theorem wk_X9_act_37 {p : Program} {l : Launch} {e : Env} {s : State} {m : MethodId} {args : Array Value} {below : List Frame} {meth : Method} {c : Code} {G : Gp} {σ : St} {x1 : Int32} {x2 : Int32}  {Q : Int32 → St → Prop} (F : FX p s m args meth c cX9_act 4 (some .int) RX9 G)   (h : wp_X9_act_37 σ x1 x2 Q) : J p l e (rmF 9 208) s m args below meth c 4 G (MQ below (QQ G (qI Q)) args s 0 0 (fr G)) 0 0 37 [(0, .ref (gb G + 244)), (1, .int x1), (2, .int x2)] [] σ := by
  unfold wp_X9_act_37 at h
  refine J_goto F (tgt := 231) dX9_act_37 (by decide) ?_
  exact wk_X9_act_231 F  h
set_option maxRecDepth 20000 in
set_option maxHeartbeats 4000000 in
theorem C_X9_act (l : Launch) (G : Gp)   {σ : St} {Q : Int32 → St → Prop} (h : wp_X9_act σ  Q) : Cn l yX9_act cX9_act 4 (some .int) 9 208 G [.ref (gb G + 244)] σ (qI Q) := by
  refine Cn_of (L := [(0, .ref (gb G + 244))]) RX9 (by decide) rfl (Nat.le_of_ble_eq_true rfl) rfl ?_
  intro p e s m below meth c F
  unfold wp_X9_act at h
  refine J_aln F 0 dX9_act_0 rfl rfl ?_
  refine J_callVi F (As := []) (st := []) (C_X9_here l G   h) (ci := 9) ly_244 (by decide) rfl rfl lm_X9_249 li_X9_here ls_X9_here ini_X9 lc_X9_here hd_X9_here (by decide) (Nat.le_of_ble_eq_true rfl) (by decide) rfl dX9_act_1 (fun r_3 σ_4 h => ?_)
  refine J_isn F (L' := [(1, .int r_3), (0, .ref (gb G + 244))]) dX9_act_4 rfl (by decide) rfl ?_
  refine J_ic F dX9_act_5 ki_0 ?_
  refine J_isn F (L' := [(2, .int (nI 0)), (1, .int r_3), (0, .ref (gb G + 244))]) dX9_act_6 rfl (by decide) rfl ?_
  refine J_aln F 2 dX9_act_7 rfl rfl ?_
  refine J_ldsw F txM (Or.inr ⟨rfl, rfl⟩) (q := (286, "net")) (w := 0) rfl dX9_act_8 ?_
  refine J_callVi F (As := [.ref (gx G 0)]) (st := []) (C_X9_has l G 0 (by decide) h) (ci := 9) ly_244 (by decide) rfl rfl lm_X9_269 li_X9_has ls_X9_has ini_X9 lc_X9_has hd_X9_has (by decide) (Nat.le_of_ble_eq_true rfl) (by decide) rfl dX9_act_11 (fun r_5 σ_6 h => ?_)
  refine J_zeq F (tgt := 40) dX9_act_14 (by decide) (fun c_7 => ?_) (fun c_7 => ?_)
  · have h := h.1 c_7
    refine J_aln F 2 dX9_act_40 rfl rfl ?_
    refine J_ldsw F txM (Or.inr ⟨rfl, rfl⟩) (q := (291, "landmark")) (w := 1) rfl dX9_act_41 ?_
    refine J_callVi F (As := [.ref (gx G 1)]) (st := []) (C_X9_has l G 1 (by decide) h) (ci := 9) ly_244 (by decide) rfl rfl lm_X9_269 li_X9_has ls_X9_has ini_X9 lc_X9_has hd_X9_has (by decide) (Nat.le_of_ble_eq_true rfl) (by decide) rfl dX9_act_44 (fun r_8 σ_9 h => ?_)
    refine J_zeq F (tgt := 58) dX9_act_47 (by decide) (fun c_10 => ?_) (fun c_10 => ?_)
    · have h := h.1 c_10
      refine J_aln F 2 dX9_act_58 rfl rfl ?_
      refine J_ldsw F txM (Or.inr ⟨rfl, rfl⟩) (q := (296, "join")) (w := 2) rfl dX9_act_59 ?_
      refine J_callVi F (As := [.ref (gx G 2)]) (st := []) (C_X9_has l G 2 (by decide) h) (ci := 9) ly_244 (by decide) rfl rfl lm_X9_269 li_X9_has ls_X9_has ini_X9 lc_X9_has hd_X9_has (by decide) (Nat.le_of_ble_eq_true rfl) (by decide) rfl dX9_act_62 (fun r_11 σ_12 h => ?_)
      refine J_zeq F (tgt := 76) dX9_act_65 (by decide) (fun c_13 => ?_) (fun c_13 => ?_)
      · have h := h.1 c_13
        refine J_aln F 2 dX9_act_76 rfl rfl ?_
        refine J_ldsw F txM (Or.inr ⟨rfl, rfl⟩) (q := (301, "leave")) (w := 3) rfl dX9_act_77 ?_
        refine J_callVi F (As := [.ref (gx G 3)]) (st := []) (C_X9_has l G 3 (by decide) h) (ci := 9) ly_244 (by decide) rfl rfl lm_X9_269 li_X9_has ls_X9_has ini_X9 lc_X9_has hd_X9_has (by decide) (Nat.le_of_ble_eq_true rfl) (by decide) rfl dX9_act_80 (fun r_14 σ_15 h => ?_)
        refine J_zeq F (tgt := 95) dX9_act_83 (by decide) (fun c_16 => ?_) (fun c_16 => ?_)
        · have h := h.1 c_16
          refine J_aln F 2 dX9_act_95 rfl rfl ?_
          refine J_ldsw F txM (Or.inr ⟨rfl, rfl⟩) (q := (306, "crash")) (w := 4) rfl dX9_act_96 ?_
          refine J_callVi F (As := [.ref (gx G 4)]) (st := []) (C_X9_has l G 4 (by decide) h) (ci := 9) ly_244 (by decide) rfl rfl lm_X9_269 li_X9_has ls_X9_has ini_X9 lc_X9_has hd_X9_has (by decide) (Nat.le_of_ble_eq_true rfl) (by decide) rfl dX9_act_99 (fun r_17 σ_18 h => ?_)
          refine J_zeq F (tgt := 114) dX9_act_102 (by decide) (fun c_19 => ?_) (fun c_19 => ?_)
          · have h := h.1 c_19
            refine J_aln F 2 dX9_act_114 rfl rfl ?_
            refine J_ldsw F txM (Or.inr ⟨rfl, rfl⟩) (q := (308, "notice")) (w := 5) rfl dX9_act_115 ?_
            refine J_callVi F (As := [.ref (gx G 5)]) (st := []) (C_X9_has l G 5 (by decide) h) (ci := 9) ly_244 (by decide) rfl rfl lm_X9_269 li_X9_has ls_X9_has ini_X9 lc_X9_has hd_X9_has (by decide) (Nat.le_of_ble_eq_true rfl) (by decide) rfl dX9_act_118 (fun r_20 σ_21 h => ?_)
            refine J_zeq F (tgt := 133) dX9_act_121 (by decide) (fun c_22 => ?_) (fun c_22 => ?_)
            · have h := h.1 c_22
              refine J_aln F 2 dX9_act_133 rfl rfl ?_
              refine J_ldsw F txM (Or.inr ⟨rfl, rfl⟩) (q := (310, "tidy")) (w := 6) rfl dX9_act_134 ?_
              refine J_callVi F (As := [.ref (gx G 6)]) (st := []) (C_X9_has l G 6 (by decide) h) (ci := 9) ly_244 (by decide) rfl rfl lm_X9_269 li_X9_has ls_X9_has ini_X9 lc_X9_has hd_X9_has (by decide) (Nat.le_of_ble_eq_true rfl) (by decide) rfl dX9_act_137 (fun r_23 σ_24 h => ?_)
              refine J_zeq F (tgt := 151) dX9_act_140 (by decide) (fun c_25 => ?_) (fun c_25 => ?_)
              · have h := h.1 c_25
                refine J_aln F 2 dX9_act_151 rfl rfl ?_
                refine J_ldsw F txM (Or.inr ⟨rfl, rfl⟩) (q := (315, "put")) (w := 7) rfl dX9_act_152 ?_
                refine J_callVi F (As := [.ref (gx G 7)]) (st := []) (C_X9_has l G 7 (by decide) h) (ci := 9) ly_244 (by decide) rfl rfl lm_X9_269 li_X9_has ls_X9_has ini_X9 lc_X9_has hd_X9_has (by decide) (Nat.le_of_ble_eq_true rfl) (by decide) rfl dX9_act_155 (fun r_26 σ_27 h => ?_)
                refine J_zeq F (tgt := 169) dX9_act_158 (by decide) (fun c_28 => ?_) (fun c_28 => ?_)
                · have h := h.1 c_28
                  refine J_aln F 2 dX9_act_169 rfl rfl ?_
                  refine J_ldsw F txM (Or.inr ⟨rfl, rfl⟩) (q := (320, "cut")) (w := 8) rfl dX9_act_170 ?_
                  refine J_callVi F (As := [.ref (gx G 8)]) (st := []) (C_X9_has l G 8 (by decide) h) (ci := 9) ly_244 (by decide) rfl rfl lm_X9_269 li_X9_has ls_X9_has ini_X9 lc_X9_has hd_X9_has (by decide) (Nat.le_of_ble_eq_true rfl) (by decide) rfl dX9_act_173 (fun r_29 σ_30 h => ?_)
                  refine J_zeq F (tgt := 208) dX9_act_176 (by decide) (fun c_31 => ?_) (fun c_31 => ?_)
                  · have h := h.1 c_31
                    refine J_aln F 2 dX9_act_208 rfl rfl ?_
                    refine J_ldsw F txM (Or.inr ⟨rfl, rfl⟩) (q := (325, "mend")) (w := 9) rfl dX9_act_209 ?_
                    refine J_callVi F (As := [.ref (gx G 9)]) (st := []) (C_X9_has l G 9 (by decide) h) (ci := 9) ly_244 (by decide) rfl rfl lm_X9_269 li_X9_has ls_X9_has ini_X9 lc_X9_has hd_X9_has (by decide) (Nat.le_of_ble_eq_true rfl) (by decide) rfl dX9_act_212 (fun r_32 σ_33 h => ?_)
                    refine J_zeq F (tgt := 226) dX9_act_215 (by decide) (fun c_34 => ?_) (fun c_34 => ?_)
                    · have h := h.1 c_34
                      refine J_aln F 2 dX9_act_226 rfl rfl ?_
                      refine J_iln F 1 dX9_act_227 rfl rfl ?_
                      refine J_callVv F (As := [.int r_3]) (st := []) (C_X9_wrong l G r_3  h) (ci := 9) ly_244 (by decide) rfl rfl lm_X9_261 li_X9_wrong ls_X9_wrong ini_X9 lc_X9_wrong hd_X9_wrong (by decide) (Nat.le_of_ble_eq_true rfl) (by decide) rfl dX9_act_228 (fun σ_35 h => ?_)
                      refine J_sub [2, 1, 0] rfl ?_
                      exact wk_X9_act_231 F  h
                    · have h := h.2 c_34
                      refine J_aln F 2 dX9_act_218 rfl rfl ?_
                      refine J_callVi F (As := []) (st := []) (C_X9_mend0 l G   h) (ci := 9) ly_244 (by decide) rfl rfl lm_X9_327 li_X9_mend0 ls_X9_mend0 ini_X9 lc_X9_mend0 hd_X9_mend0 (by decide) (Nat.le_of_ble_eq_true rfl) (by decide) rfl dX9_act_219 (fun r_36 σ_37 h => ?_)
                      refine J_isn F (L' := [(3, .int r_36), (2, .int (nI 0)), (1, .int r_3), (0, .ref (gb G + 244))]) dX9_act_222 rfl (by decide) rfl ?_
                      refine J_goto F (tgt := 231) dX9_act_223 (by decide) ?_
                      refine J_sub [3, 2, 1] rfl ?_
                      exact wk_X9_act_231 F  h
                  · have h := h.2 c_31
                    refine J_aln F 2 dX9_act_179 rfl rfl ?_
                    refine J_ic F dX9_act_180 ki_0 ?_
                    refine J_bi F dX9_act_181 kb_99 ?_
                    refine J_callVi F (As := [.int (nI 0), .int (nI 99)]) (st := []) (C_X9_number l G (nI 0) (nI 99)  h) (ci := 9) ly_244 (by decide) rfl rfl lm_X9_264 li_X9_number ls_X9_number ini_X9 lc_X9_number hd_X9_number (by decide) (Nat.le_of_ble_eq_true rfl) (by decide) rfl dX9_act_183 (fun r_38 σ_39 h => ?_)
                    refine J_isn F (L' := [(3, .int r_38), (2, .int (nI 0)), (1, .int r_3), (0, .ref (gb G + 244))]) dX9_act_186 rfl (by decide) rfl ?_
                    refine J_aln F 3 dX9_act_187 rfl rfl ?_
                    refine J_gfi F (ci := 9) 12 rfl inX9 ly_244 (by decide) (by decide) rfl lf_X9_26 rfl dX9_act_188 ?_
                    refine J_ic F dX9_act_191 ki_m1 ?_
                    refine J_cne F (tgt := 203) dX9_act_192 (by decide) (fun c_40 => ?_) (fun c_40 => ?_)
                    · have h := h.1 c_40
                      refine J_ic F dX9_act_203 ki_0 ?_
                      refine J_sub [3, 2] rfl ?_
                      exact wk_X9_act_204 F  h
                    · have h := h.2 c_40
                      refine J_aln F 3 dX9_act_195 rfl rfl ?_
                      refine J_iln F 0 dX9_act_196 rfl rfl ?_
                      refine J_callVi F (As := [.int r_38]) (st := []) (C_X9_cut0 l G r_38  h) (ci := 9) ly_244 (by decide) rfl rfl lm_X9_322 li_X9_cut0 ls_X9_cut0 ini_X9 lc_X9_cut0 hd_X9_cut0 (by decide) (Nat.le_of_ble_eq_true rfl) (by decide) rfl dX9_act_197 (fun r_41 σ_42 h => ?_)
                      refine J_goto F (tgt := 204) dX9_act_200 (by decide) ?_
                      refine J_sub [3, 2] rfl ?_
                      exact wk_X9_act_204 F  h
                · have h := h.2 c_28
                  refine J_aln F 2 dX9_act_161 rfl rfl ?_
                  refine J_callVi F (As := []) (st := []) (C_X9_putText l G   h) (ci := 9) ly_244 (by decide) rfl rfl lm_X9_317 li_X9_putText ls_X9_putText ini_X9 lc_X9_putText hd_X9_putText (by decide) (Nat.le_of_ble_eq_true rfl) (by decide) rfl dX9_act_162 (fun r_43 σ_44 h => ?_)
                  refine J_isn F (L' := [(2, .int r_43), (1, .int r_3), (0, .ref (gb G + 244))]) dX9_act_165 rfl (by decide) rfl ?_
                  refine J_goto F (tgt := 231) dX9_act_166 (by decide) ?_
                  refine J_sub [2, 1, 0] rfl ?_
                  exact wk_X9_act_231 F  h
              · have h := h.2 c_25
                refine J_aln F 2 dX9_act_143 rfl rfl ?_
                refine J_callVi F (As := []) (st := []) (C_X9_tidy0 l G   h) (ci := 9) ly_244 (by decide) rfl rfl lm_X9_312 li_X9_tidy0 ls_X9_tidy0 ini_X9 lc_X9_tidy0 hd_X9_tidy0 (by decide) (Nat.le_of_ble_eq_true rfl) (by decide) rfl dX9_act_144 (fun r_45 σ_46 h => ?_)
                refine J_isn F (L' := [(2, .int r_45), (1, .int r_3), (0, .ref (gb G + 244))]) dX9_act_147 rfl (by decide) rfl ?_
                refine J_goto F (tgt := 231) dX9_act_148 (by decide) ?_
                refine J_sub [2, 1, 0] rfl ?_
                exact wk_X9_act_231 F  h
            · have h := h.2 c_22
              refine J_aln F 2 dX9_act_124 rfl rfl ?_
              refine J_ic F dX9_act_125 ki_2 ?_
              refine J_callVi F (As := [.int (nI 2)]) (st := []) (C_X9_goText l G (nI 2)  h) (ci := 9) ly_244 (by decide) rfl rfl lm_X9_303 li_X9_goText ls_X9_goText ini_X9 lc_X9_goText hd_X9_goText (by decide) (Nat.le_of_ble_eq_true rfl) (by decide) rfl dX9_act_126 (fun r_47 σ_48 h => ?_)
              refine J_isn F (L' := [(2, .int r_47), (1, .int r_3), (0, .ref (gb G + 244))]) dX9_act_129 rfl (by decide) rfl ?_
              refine J_goto F (tgt := 231) dX9_act_130 (by decide) ?_
              refine J_sub [2, 1, 0] rfl ?_
              exact wk_X9_act_231 F  h
          · have h := h.2 c_19
            refine J_aln F 2 dX9_act_105 rfl rfl ?_
            refine J_ic F dX9_act_106 ki_1 ?_
            refine J_callVi F (As := [.int (nI 1)]) (st := []) (C_X9_goText l G (nI 1)  h) (ci := 9) ly_244 (by decide) rfl rfl lm_X9_303 li_X9_goText ls_X9_goText ini_X9 lc_X9_goText hd_X9_goText (by decide) (Nat.le_of_ble_eq_true rfl) (by decide) rfl dX9_act_107 (fun r_49 σ_50 h => ?_)
            refine J_isn F (L' := [(2, .int r_49), (1, .int r_3), (0, .ref (gb G + 244))]) dX9_act_110 rfl (by decide) rfl ?_
            refine J_goto F (tgt := 231) dX9_act_111 (by decide) ?_
            refine J_sub [2, 1, 0] rfl ?_
            exact wk_X9_act_231 F  h
        · have h := h.2 c_16
          refine J_aln F 2 dX9_act_86 rfl rfl ?_
          refine J_ic F dX9_act_87 ki_0 ?_
          refine J_callVi F (As := [.int (nI 0)]) (st := []) (C_X9_goText l G (nI 0)  h) (ci := 9) ly_244 (by decide) rfl rfl lm_X9_303 li_X9_goText ls_X9_goText ini_X9 lc_X9_goText hd_X9_goText (by decide) (Nat.le_of_ble_eq_true rfl) (by decide) rfl dX9_act_88 (fun r_51 σ_52 h => ?_)
          refine J_isn F (L' := [(2, .int r_51), (1, .int r_3), (0, .ref (gb G + 244))]) dX9_act_91 rfl (by decide) rfl ?_
          refine J_goto F (tgt := 231) dX9_act_92 (by decide) ?_
          refine J_sub [2, 1, 0] rfl ?_
          exact wk_X9_act_231 F  h
      · have h := h.2 c_13
        refine J_aln F 2 dX9_act_68 rfl rfl ?_
        refine J_callVi F (As := []) (st := []) (C_X9_joinText l G   h) (ci := 9) ly_244 (by decide) rfl rfl lm_X9_298 li_X9_joinText ls_X9_joinText ini_X9 lc_X9_joinText hd_X9_joinText (by decide) (Nat.le_of_ble_eq_true rfl) (by decide) rfl dX9_act_69 (fun r_53 σ_54 h => ?_)
        refine J_isn F (L' := [(2, .int r_53), (1, .int r_3), (0, .ref (gb G + 244))]) dX9_act_72 rfl (by decide) rfl ?_
        refine J_goto F (tgt := 231) dX9_act_73 (by decide) ?_
        refine J_sub [2, 1, 0] rfl ?_
        exact wk_X9_act_231 F  h
    · have h := h.2 c_10
      refine J_aln F 2 dX9_act_50 rfl rfl ?_
      refine J_callVi F (As := []) (st := []) (C_X9_landmarkText l G   h) (ci := 9) ly_244 (by decide) rfl rfl lm_X9_293 li_X9_landmarkText ls_X9_landmarkText ini_X9 lc_X9_landmarkText hd_X9_landmarkText (by decide) (Nat.le_of_ble_eq_true rfl) (by decide) rfl dX9_act_51 (fun r_55 σ_56 h => ?_)
      refine J_isn F (L' := [(2, .int r_55), (1, .int r_3), (0, .ref (gb G + 244))]) dX9_act_54 rfl (by decide) rfl ?_
      refine J_goto F (tgt := 231) dX9_act_55 (by decide) ?_
      refine J_sub [2, 1, 0] rfl ?_
      exact wk_X9_act_231 F  h
  · have h := h.2 c_7
    refine J_aln F 2 dX9_act_17 rfl rfl ?_
    refine J_ic F dX9_act_18 ki_1 ?_
    refine J_ic F dX9_act_19 ki_3 ?_
    refine J_callVi F (As := [.int (nI 1), .int (nI 3)]) (st := []) (C_X9_number l G (nI 1) (nI 3)  h) (ci := 9) ly_244 (by decide) rfl rfl lm_X9_264 li_X9_number ls_X9_number ini_X9 lc_X9_number hd_X9_number (by decide) (Nat.le_of_ble_eq_true rfl) (by decide) rfl dX9_act_20 (fun r_57 σ_58 h => ?_)
    refine J_isn F (L' := [(3, .int r_57), (2, .int (nI 0)), (1, .int r_3), (0, .ref (gb G + 244))]) dX9_act_23 rfl (by decide) rfl ?_
    refine J_aln F 3 dX9_act_24 rfl rfl ?_
    refine J_gfi F (ci := 9) 12 rfl inX9 ly_244 (by decide) (by decide) rfl lf_X9_26 rfl dX9_act_25 ?_
    refine J_ic F dX9_act_28 ki_m1 ?_
    refine J_cne F (tgt := 37) dX9_act_29 (by decide) (fun c_59 => ?_) (fun c_59 => ?_)
    · have h := h.1 c_59
      refine J_sub [3, 2, 1] rfl ?_
      exact wk_X9_act_37 F  h
    · have h := h.2 c_59
      refine J_aln F 3 dX9_act_32 rfl rfl ?_
      refine J_iln F 0 dX9_act_33 rfl rfl ?_
      refine J_callVv F (As := [.int r_57]) (st := []) (C_X9_clearsAll l G r_57  h) (ci := 9) ly_244 (by decide) rfl rfl lm_X9_288 li_X9_clearsAll ls_X9_clearsAll ini_X9 lc_X9_clearsAll hd_X9_clearsAll (by decide) (Nat.le_of_ble_eq_true rfl) (by decide) rfl dX9_act_34 (fun σ_60 h => ?_)
      refine J_sub [3, 2, 1] rfl ?_
      exact wk_X9_act_37 F  h
theorem dX9_acts_0 : decode cX9_acts 0 = .ok (.aload_n 0, 1) := by decide +kernel
theorem dX9_acts_1 : decode cX9_acts 1 = .ok (.iconst (-1), 1) := by decide +kernel
theorem dX9_acts_2 : decode cX9_acts 2 = .ok (.putfield 26, 3) := by decide +kernel
theorem dX9_acts_5 : decode cX9_acts 5 = .ok (.aload_n 0, 1) := by decide +kernel
theorem dX9_acts_6 : decode cX9_acts 6 = .ok (.aload_n 0, 1) := by decide +kernel
theorem dX9_acts_7 : decode cX9_acts 7 = .ok (.getfield 240, 3) := by decide +kernel
theorem dX9_acts_10 : decode cX9_acts 10 = .ok (.putfield 246, 3) := by decide +kernel
theorem dX9_acts_13 : decode cX9_acts 13 = .ok (.aload_n 0, 1) := by decide +kernel
theorem dX9_acts_14 : decode cX9_acts 14 = .ok (.iconst 0, 1) := by decide +kernel
theorem dX9_acts_15 : decode cX9_acts 15 = .ok (.putfield 240, 3) := by decide +kernel
theorem dX9_acts_18 : decode cX9_acts 18 = .ok (.aload_n 0, 1) := by decide +kernel
theorem dX9_acts_19 : decode cX9_acts 19 = .ok (.iconst 0, 1) := by decide +kernel
theorem dX9_acts_20 : decode cX9_acts 20 = .ok (.putfield 243, 3) := by decide +kernel
theorem dX9_acts_23 : decode cX9_acts 23 = .ok (.aload_n 0, 1) := by decide +kernel
theorem dX9_acts_24 : decode cX9_acts 24 = .ok (.invokevirtual 330, 3) := by decide +kernel
theorem dX9_acts_27 : decode cX9_acts 27 = .ok (.iconst 0, 1) := by decide +kernel
theorem dX9_acts_28 : decode cX9_acts 28 = .ok (.istore_n 1, 1) := by decide +kernel
theorem dX9_acts_29 : decode cX9_acts 29 = .ok (.iconst 0, 1) := by decide +kernel
theorem dX9_acts_30 : decode cX9_acts 30 = .ok (.istore_n 2, 1) := by decide +kernel
theorem dX9_acts_31 : decode cX9_acts 31 = .ok (.aload_n 0, 1) := by decide +kernel
theorem dX9_acts_32 : decode cX9_acts 32 = .ok (.invokevirtual 249, 3) := by decide +kernel
theorem dX9_acts_35 : decode cX9_acts 35 = .ok (.aload_n 0, 1) := by decide +kernel
theorem dX9_acts_36 : decode cX9_acts 36 = .ok (.getfield 246, 3) := by decide +kernel
theorem dX9_acts_39 : decode cX9_acts 39 = .ok (.if_icmp .ge 7, 3) := by decide +kernel
theorem dX9_acts_42 : decode cX9_acts 42 = .ok (.iconst 1, 1) := by decide +kernel
theorem dX9_acts_43 : decode cX9_acts 43 = .ok (.goto 4, 3) := by decide +kernel
theorem dX9_acts_46 : decode cX9_acts 46 = .ok (.iconst 0, 1) := by decide +kernel
theorem dX9_acts_47 : decode cX9_acts 47 = .ok (.istore_n 3, 1) := by decide +kernel
theorem dX9_acts_48 : decode cX9_acts 48 = .ok (.iload_n 3, 1) := by decide +kernel
theorem dX9_acts_49 : decode cX9_acts 49 = .ok (.ifCond .eq 105, 3) := by decide +kernel
theorem dX9_acts_52 : decode cX9_acts 52 = .ok (.aload_n 0, 1) := by decide +kernel
theorem dX9_acts_53 : decode cX9_acts 53 = .ok (.getfield 26, 3) := by decide +kernel
theorem dX9_acts_56 : decode cX9_acts 56 = .ok (.iconst (-1), 1) := by decide +kernel
theorem dX9_acts_57 : decode cX9_acts 57 = .ok (.if_icmp .ne 97, 3) := by decide +kernel
theorem dX9_acts_60 : decode cX9_acts 60 = .ok (.iload_n 1, 1) := by decide +kernel
theorem dX9_acts_61 : decode cX9_acts 61 = .ok (.bipush 14, 2) := by decide +kernel
theorem dX9_acts_63 : decode cX9_acts 63 = .ok (.if_icmp .ne 11, 3) := by decide +kernel
theorem dX9_acts_66 : decode cX9_acts 66 = .ok (.aload_n 0, 1) := by decide +kernel
theorem dX9_acts_67 : decode cX9_acts 67 = .ok (.aload_n 0, 1) := by decide +kernel
theorem dX9_acts_68 : decode cX9_acts 68 = .ok (.invokevirtual 249, 3) := by decide +kernel
theorem dX9_acts_71 : decode cX9_acts 71 = .ok (.invokevirtual 261, 3) := by decide +kernel
theorem dX9_acts_74 : decode cX9_acts 74 = .ok (.aload_n 0, 1) := by decide +kernel
theorem dX9_acts_75 : decode cX9_acts 75 = .ok (.getfield 26, 3) := by decide +kernel
theorem dX9_acts_78 : decode cX9_acts 78 = .ok (.iconst (-1), 1) := by decide +kernel
theorem dX9_acts_79 : decode cX9_acts 79 = .ok (.if_icmp .ne 8, 3) := by decide +kernel
theorem dX9_acts_82 : decode cX9_acts 82 = .ok (.aload_n 0, 1) := by decide +kernel
theorem dX9_acts_83 : decode cX9_acts 83 = .ok (.invokevirtual 333, 3) := by decide +kernel
theorem dX9_acts_86 : decode cX9_acts 86 = .ok (.istore_n 2, 1) := by decide +kernel
theorem dX9_acts_87 : decode cX9_acts 87 = .ok (.iinc 1 1, 3) := by decide +kernel
theorem dX9_acts_90 : decode cX9_acts 90 = .ok (.aload_n 0, 1) := by decide +kernel
theorem dX9_acts_91 : decode cX9_acts 91 = .ok (.invokevirtual 249, 3) := by decide +kernel
theorem dX9_acts_94 : decode cX9_acts 94 = .ok (.aload_n 0, 1) := by decide +kernel
theorem dX9_acts_95 : decode cX9_acts 95 = .ok (.getfield 246, 3) := by decide +kernel
theorem dX9_acts_98 : decode cX9_acts 98 = .ok (.if_icmp .ge 7, 3) := by decide +kernel
theorem dX9_acts_101 : decode cX9_acts 101 = .ok (.iconst 1, 1) := by decide +kernel
theorem dX9_acts_102 : decode cX9_acts 102 = .ok (.goto 4, 3) := by decide +kernel
theorem dX9_acts_105 : decode cX9_acts 105 = .ok (.iconst 0, 1) := by decide +kernel
theorem dX9_acts_106 : decode cX9_acts 106 = .ok (.istore_n 3, 1) := by decide +kernel
theorem dX9_acts_107 : decode cX9_acts 107 = .ok (.iload_n 3, 1) := by decide +kernel
theorem dX9_acts_108 : decode cX9_acts 108 = .ok (.ifCond .eq (-60), 3) := by decide +kernel
theorem dX9_acts_111 : decode cX9_acts 111 = .ok (.aload_n 0, 1) := by decide +kernel
theorem dX9_acts_112 : decode cX9_acts 112 = .ok (.getfield 26, 3) := by decide +kernel
theorem dX9_acts_115 : decode cX9_acts 115 = .ok (.iconst (-1), 1) := by decide +kernel
theorem dX9_acts_116 : decode cX9_acts 116 = .ok (.if_icmp .ne (-68), 3) := by decide +kernel
theorem dX9_acts_119 : decode cX9_acts 119 = .ok (.aload_n 0, 1) := by decide +kernel
theorem dX9_acts_120 : decode cX9_acts 120 = .ok (.getfield 23, 3) := by decide +kernel
theorem dX9_acts_123 : decode cX9_acts 123 = .ok (.aload_n 0, 1) := by decide +kernel
theorem dX9_acts_124 : decode cX9_acts 124 = .ok (.getfield 243, 3) := by decide +kernel
theorem dX9_acts_127 : decode cX9_acts 127 = .ok (.iaload, 1) := by decide +kernel
theorem dX9_acts_128 : decode cX9_acts 128 = .ok (.bipush 59, 2) := by decide +kernel
theorem dX9_acts_130 : decode cX9_acts 130 = .ok (.if_icmp .eq 11, 3) := by decide +kernel
theorem dX9_acts_133 : decode cX9_acts 133 = .ok (.aload_n 0, 1) := by decide +kernel
theorem dX9_acts_134 : decode cX9_acts 134 = .ok (.aload_n 0, 1) := by decide +kernel
theorem dX9_acts_135 : decode cX9_acts 135 = .ok (.getfield 243, 3) := by decide +kernel
theorem dX9_acts_138 : decode cX9_acts 138 = .ok (.invokevirtual 261, 3) := by decide +kernel
theorem dX9_acts_141 : decode cX9_acts 141 = .ok (.aload_n 0, 1) := by decide +kernel
theorem dX9_acts_142 : decode cX9_acts 142 = .ok (.dup, 1) := by decide +kernel
theorem dX9_acts_143 : decode cX9_acts 143 = .ok (.getfield 243, 3) := by decide +kernel
theorem dX9_acts_146 : decode cX9_acts 146 = .ok (.iconst 1, 1) := by decide +kernel
theorem dX9_acts_147 : decode cX9_acts 147 = .ok (.iadd, 1) := by decide +kernel
theorem dX9_acts_148 : decode cX9_acts 148 = .ok (.putfield 243, 3) := by decide +kernel
theorem dX9_acts_151 : decode cX9_acts 151 = .ok (.goto (-103), 3) := by decide +kernel
theorem dX9_acts_154 : decode cX9_acts 154 = .ok (.aload_n 0, 1) := by decide +kernel
theorem dX9_acts_155 : decode cX9_acts 155 = .ok (.aload_n 0, 1) := by decide +kernel
theorem dX9_acts_156 : decode cX9_acts 156 = .ok (.getfield 26, 3) := by decide +kernel
theorem dX9_acts_159 : decode cX9_acts 159 = .ok (.iconst (-1), 1) := by decide +kernel
theorem dX9_acts_160 : decode cX9_acts 160 = .ok (.if_icmp .ne 7, 3) := by decide +kernel
theorem dX9_acts_163 : decode cX9_acts 163 = .ok (.iconst 0, 1) := by decide +kernel
theorem dX9_acts_164 : decode cX9_acts 164 = .ok (.goto 4, 3) := by decide +kernel
theorem dX9_acts_167 : decode cX9_acts 167 = .ok (.iconst 1, 1) := by decide +kernel
theorem dX9_acts_168 : decode cX9_acts 168 = .ok (.putfield 54, 3) := by decide +kernel
theorem dX9_acts_171 : decode cX9_acts 171 = .ok (.aload_n 0, 1) := by decide +kernel
theorem dX9_acts_172 : decode cX9_acts 172 = .ok (.getfield 54, 3) := by decide +kernel
theorem dX9_acts_175 : decode cX9_acts 175 = .ok (.ifCond .ne 26, 3) := by decide +kernel
theorem dX9_acts_178 : decode cX9_acts 178 = .ok (.aload_n 0, 1) := by decide +kernel
theorem dX9_acts_179 : decode cX9_acts 179 = .ok (.iload_n 1, 1) := by decide +kernel
theorem dX9_acts_180 : decode cX9_acts 180 = .ok (.ifCond .le 7, 3) := by decide +kernel
theorem dX9_acts_183 : decode cX9_acts 183 = .ok (.iconst 0, 1) := by decide +kernel
theorem dX9_acts_184 : decode cX9_acts 184 = .ok (.goto 7, 3) := by decide +kernel
theorem dX9_acts_187 : decode cX9_acts 187 = .ok (.aload_n 0, 1) := by decide +kernel
theorem dX9_acts_188 : decode cX9_acts 188 = .ok (.getfield 234, 3) := by decide +kernel
theorem dX9_acts_191 : decode cX9_acts 191 = .ok (.putfield 234, 3) := by decide +kernel
theorem dX9_acts_194 : decode cX9_acts 194 = .ok (.aload_n 0, 1) := by decide +kernel
theorem dX9_acts_195 : decode cX9_acts 195 = .ok (.iconst 0, 1) := by decide +kernel
theorem dX9_acts_196 : decode cX9_acts 196 = .ok (.putfield 230, 3) := by decide +kernel
theorem dX9_acts_199 : decode cX9_acts 199 = .ok (.iload_n 1, 1) := by decide +kernel
theorem dX9_acts_200 : decode cX9_acts 200 = .ok (.ireturn, 1) := by decide +kernel
theorem dX9_acts_201 : decode cX9_acts 201 = .ok (.aload_n 0, 1) := by decide +kernel
theorem dX9_acts_202 : decode cX9_acts 202 = .ok (.iload_n 2, 1) := by decide +kernel
theorem dX9_acts_203 : decode cX9_acts 203 = .ok (.ifCond .le 7, 3) := by decide +kernel
theorem dX9_acts_206 : decode cX9_acts 206 = .ok (.iload_n 2, 1) := by decide +kernel
theorem dX9_acts_207 : decode cX9_acts 207 = .ok (.goto 7, 3) := by decide +kernel
theorem dX9_acts_210 : decode cX9_acts 210 = .ok (.aload_n 0, 1) := by decide +kernel
theorem dX9_acts_211 : decode cX9_acts 211 = .ok (.getfield 234, 3) := by decide +kernel
theorem dX9_acts_214 : decode cX9_acts 214 = .ok (.putfield 234, 3) := by decide +kernel
theorem dX9_acts_217 : decode cX9_acts 217 = .ok (.iconst 0, 1) := by decide +kernel
theorem dX9_acts_218 : decode cX9_acts 218 = .ok (.istore 4, 2) := by decide +kernel
theorem dX9_acts_220 : decode cX9_acts 220 = .ok (.iload 4, 2) := by decide +kernel
theorem dX9_acts_222 : decode cX9_acts 222 = .ok (.sipush 6682, 3) := by decide +kernel
theorem dX9_acts_225 : decode cX9_acts 225 = .ok (.if_icmp .ge 23, 3) := by decide +kernel
theorem dX9_acts_228 : decode cX9_acts 228 = .ok (.aload_n 0, 1) := by decide +kernel
theorem dX9_acts_229 : decode cX9_acts 229 = .ok (.getfield 7, 3) := by decide +kernel
theorem dX9_acts_232 : decode cX9_acts 232 = .ok (.iload 4, 2) := by decide +kernel
theorem dX9_acts_234 : decode cX9_acts 234 = .ok (.aload_n 0, 1) := by decide +kernel
theorem dX9_acts_235 : decode cX9_acts 235 = .ok (.getfield 13, 3) := by decide +kernel
theorem dX9_acts_238 : decode cX9_acts 238 = .ok (.iload 4, 2) := by decide +kernel
theorem dX9_acts_240 : decode cX9_acts 240 = .ok (.iaload, 1) := by decide +kernel
theorem dX9_acts_241 : decode cX9_acts 241 = .ok (.iastore, 1) := by decide +kernel
theorem dX9_acts_242 : decode cX9_acts 242 = .ok (.iinc 4 1, 3) := by decide +kernel
theorem dX9_acts_245 : decode cX9_acts 245 = .ok (.goto (-25), 3) := by decide +kernel
theorem dX9_acts_248 : decode cX9_acts 248 = .ok (.iconst 0, 1) := by decide +kernel
theorem dX9_acts_249 : decode cX9_acts 249 = .ok (.ireturn, 1) := by decide +kernel
set_option maxRecDepth 20000 in
set_option maxHeartbeats 4000000 in
theorem wk_X9_acts_220 {p : Program} {l : Launch} {e : Env} {s : State} {m : MethodId} {args : Array Value} {below : List Frame} {meth : Method} {c : Code} {G : Gp}   {Q : Int32 → St → Prop} (F : FX p s m args meth c cX9_acts 5 (some .int) RX9 G)   : ∀ (n9 : Nat) (σ : St) (x4 : Int32), LP2 (wp_X9_acts_220 Q) n9 σ x4 → J p l e (rmF 10 231) s m args below meth c 5 G (MQ below (QQ G (qI Q)) args s 0 0 (fr G)) 0 0 220 [(0, .ref (gb G + 244)), (4, .int x4)] [] σ := by
  intro n9
  induction n9 with
  | zero => intro σ x4 h; exact h.elim
  | succ n9 i220 =>
    intro σ x4 h
    have h : wp_X9_acts_220 Q (LP2 (wp_X9_acts_220 Q) n9) σ x4 := h
    unfold wp_X9_acts_220 at h
    refine J_il F 1 dX9_acts_220 rfl ?_
    refine J_si F dX9_acts_222 ks_6682 ?_
    refine J_cge F (tgt := 248) dX9_acts_225 (by decide) (fun c_1 => ?_) (fun c_1 => ?_)
    · have h := h.1 c_1
      refine J_ic F dX9_acts_248 ki_0 ?_
      exact J_reti F ⟨_, rfl, h⟩ dX9_acts_249
    · have h := h.2 c_1
      refine J_aln F 0 dX9_acts_228 rfl rfl ?_
      refine J_gfa F (ci := 9) 1 rfl inX9 ly_244 (by decide) (by decide) rfl lf_X9_7 rfl dX9_acts_229 ?_
      refine J_il F 1 dX9_acts_232 rfl ?_
      refine J_aln F 0 dX9_acts_234 rfl rfl ?_
      refine J_gfa F (ci := 9) 2 rfl inX9 ly_244 (by decide) (by decide) rfl lf_X9_13 rfl dX9_acts_235 ?_
      refine J_il F 1 dX9_acts_238 rfl ?_
      obtain ⟨h_2, h⟩ := h
      refine J_iald F ly_246 h_2 dX9_acts_240 ?_
      obtain ⟨h_3, h⟩ := h
      refine J_iast F ly_245 h_3 dX9_acts_241 ?_
      refine J_st (fun σ_4 eσ_4 => ?_)
      have h := h σ_4 eσ_4
      obtain ⟨x4_5, ex4_5⟩ : ∃ z : Int32, z = x4 + (nI 1) := ⟨_, rfl⟩
      have h := h x4_5 ex4_5
      refine J_iinc F (v := x4_5) (L' := [(4, .int x4_5), (0, .ref (gb G + 244))]) 1 dX9_acts_242 rfl (by rw [ki_1, ex4_5]) (by decide) rfl ?_
      refine J_goto F (tgt := 220) dX9_acts_245 (by decide) ?_
      refine J_sub [1, 0] rfl ?_
      exact i220 _ _ h
set_option maxRecDepth 20000 in
set_option maxHeartbeats 4000000 in
theorem wk_X9_acts_168 {p : Program} {l : Launch} {e : Env} {s : State} {m : MethodId} {args : Array Value} {below : List Frame} {meth : Method} {c : Code} {G : Gp} {σ : St} {x1 : Int32} {x2 : Int32} {t1 : Int32}  {Q : Int32 → St → Prop} (F : FX p s m args meth c cX9_acts 5 (some .int) RX9 G)   (h : wp_X9_acts_168 σ x1 x2 t1 Q) : J p l e (rmF 10 231) s m args below meth c 5 G (MQ below (QQ G (qI Q)) args s 0 0 (fr G)) 0 0 168 [(0, .ref (gb G + 244)), (1, .int x1), (2, .int x2)] [.int t1, .ref (gb G + 244)] σ := by
  unfold wp_X9_acts_168 at h
  refine J_pfi F (ci := 9) 0 rfl inX9 tyX9 tyX9_ok nmX9 ly_244 (by decide) (by decide) rfl lf_X9_54 rfl rfl (tyX9_ok 0 (by decide)) rfl rfl dX9_acts_168 ?_
  refine J_st (fun σ_6 eσ_6 => ?_)
  have h := h σ_6 eσ_6
  refine J_aln F 0 dX9_acts_171 rfl rfl ?_
  refine J_gfi F (ci := 9) 0 rfl inX9 ly_244 (by decide) (by decide) rfl lf_X9_54 rfl dX9_acts_172 ?_
  refine J_zne F (tgt := 201) dX9_acts_175 (by decide) (fun c_7 => ?_) (fun c_7 => ?_)
  · have h := h.1 c_7
    refine J_aln F 0 dX9_acts_201 rfl rfl ?_
    refine J_iln F 2 dX9_acts_202 rfl rfl ?_
    refine J_zle F (tgt := 210) dX9_acts_203 (by decide) (fun c_8 => ?_) (fun c_8 => ?_)
    · have h := h.1 c_8
      refine J_aln F 0 dX9_acts_210 rfl rfl ?_
      refine J_gfi F (ci := 9) 7 rfl inX9 ly_244 (by decide) (by decide) rfl lf_X9_234 rfl dX9_acts_211 ?_
      refine J_pfi F (ci := 9) 7 rfl inX9 tyX9 tyX9_ok nmX9 ly_244 (by decide) (by decide) rfl lf_X9_234 rfl rfl (tyX9_ok 7 (by decide)) rfl rfl dX9_acts_214 ?_
      refine J_st (fun σ_9 eσ_9 => ?_)
      have h := h σ_9 eσ_9
      refine J_ic F dX9_acts_217 ki_0 ?_
      refine J_is F (L' := [(4, .int (nI 0)), (0, .ref (gb G + 244)), (1, .int x1), (2, .int x2)]) dX9_acts_218 (by decide) rfl ?_
      refine J_sub [1, 0] rfl ?_
      obtain ⟨n9, h⟩ := h
      exact wk_X9_acts_220 F  n9 _ _ h
    · have h := h.2 c_8
      refine J_iln F 2 dX9_acts_206 rfl rfl ?_
      refine J_goto F (tgt := 214) dX9_acts_207 (by decide) ?_
      refine J_pfi F (ci := 9) 7 rfl inX9 tyX9 tyX9_ok nmX9 ly_244 (by decide) (by decide) rfl lf_X9_234 rfl rfl (tyX9_ok 7 (by decide)) rfl rfl dX9_acts_214 ?_
      refine J_st (fun σ_10 eσ_10 => ?_)
      have h := h σ_10 eσ_10
      refine J_ic F dX9_acts_217 ki_0 ?_
      refine J_is F (L' := [(4, .int (nI 0)), (0, .ref (gb G + 244)), (1, .int x1), (2, .int x2)]) dX9_acts_218 (by decide) rfl ?_
      refine J_sub [1, 0] rfl ?_
      obtain ⟨n9, h⟩ := h
      exact wk_X9_acts_220 F  n9 _ _ h
  · have h := h.2 c_7
    refine J_aln F 0 dX9_acts_178 rfl rfl ?_
    refine J_iln F 1 dX9_acts_179 rfl rfl ?_
    refine J_zle F (tgt := 187) dX9_acts_180 (by decide) (fun c_11 => ?_) (fun c_11 => ?_)
    · have h := h.1 c_11
      refine J_aln F 0 dX9_acts_187 rfl rfl ?_
      refine J_gfi F (ci := 9) 7 rfl inX9 ly_244 (by decide) (by decide) rfl lf_X9_234 rfl dX9_acts_188 ?_
      refine J_pfi F (ci := 9) 7 rfl inX9 tyX9 tyX9_ok nmX9 ly_244 (by decide) (by decide) rfl lf_X9_234 rfl rfl (tyX9_ok 7 (by decide)) rfl rfl dX9_acts_191 ?_
      refine J_st (fun σ_12 eσ_12 => ?_)
      have h := h σ_12 eσ_12
      refine J_aln F 0 dX9_acts_194 rfl rfl ?_
      refine J_ic F dX9_acts_195 ki_0 ?_
      refine J_pfi F (ci := 9) 5 rfl inX9 tyX9 tyX9_ok nmX9 ly_244 (by decide) (by decide) rfl lf_X9_230 rfl rfl (tyX9_ok 5 (by decide)) rfl rfl dX9_acts_196 ?_
      refine J_st (fun σ_13 eσ_13 => ?_)
      have h := h σ_13 eσ_13
      refine J_iln F 1 dX9_acts_199 rfl rfl ?_
      exact J_reti F ⟨_, rfl, h⟩ dX9_acts_200
    · have h := h.2 c_11
      refine J_ic F dX9_acts_183 ki_0 ?_
      refine J_goto F (tgt := 191) dX9_acts_184 (by decide) ?_
      refine J_pfi F (ci := 9) 7 rfl inX9 tyX9 tyX9_ok nmX9 ly_244 (by decide) (by decide) rfl lf_X9_234 rfl rfl (tyX9_ok 7 (by decide)) rfl rfl dX9_acts_191 ?_
      refine J_st (fun σ_14 eσ_14 => ?_)
      have h := h σ_14 eσ_14
      refine J_aln F 0 dX9_acts_194 rfl rfl ?_
      refine J_ic F dX9_acts_195 ki_0 ?_
      refine J_pfi F (ci := 9) 5 rfl inX9 tyX9 tyX9_ok nmX9 ly_244 (by decide) (by decide) rfl lf_X9_230 rfl rfl (tyX9_ok 5 (by decide)) rfl rfl dX9_acts_196 ?_
      refine J_st (fun σ_15 eσ_15 => ?_)
      have h := h σ_15 eσ_15
      refine J_iln F 1 dX9_acts_199 rfl rfl ?_
      exact J_reti F ⟨_, rfl, h⟩ dX9_acts_200
set_option maxRecDepth 20000 in
set_option maxHeartbeats 4000000 in
theorem wk_X9_acts_154 {p : Program} {l : Launch} {e : Env} {s : State} {m : MethodId} {args : Array Value} {below : List Frame} {meth : Method} {c : Code} {G : Gp} {σ : St} {x1 : Int32} {x2 : Int32}  {Q : Int32 → St → Prop} (F : FX p s m args meth c cX9_acts 5 (some .int) RX9 G)   (h : wp_X9_acts_154 σ x1 x2 Q) : J p l e (rmF 10 231) s m args below meth c 5 G (MQ below (QQ G (qI Q)) args s 0 0 (fr G)) 0 0 154 [(0, .ref (gb G + 244)), (1, .int x1), (2, .int x2)] [] σ := by
  unfold wp_X9_acts_154 at h
  refine J_aln F 0 dX9_acts_154 rfl rfl ?_
  refine J_aln F 0 dX9_acts_155 rfl rfl ?_
  refine J_gfi F (ci := 9) 12 rfl inX9 ly_244 (by decide) (by decide) rfl lf_X9_26 rfl dX9_acts_156 ?_
  refine J_ic F dX9_acts_159 ki_m1 ?_
  refine J_cne F (tgt := 167) dX9_acts_160 (by decide) (fun c_16 => ?_) (fun c_16 => ?_)
  · have h := h.1 c_16
    refine J_ic F dX9_acts_167 ki_1 ?_
    exact wk_X9_acts_168 F  h
  · have h := h.2 c_16
    refine J_ic F dX9_acts_163 ki_0 ?_
    refine J_goto F (tgt := 168) dX9_acts_164 (by decide) ?_
    exact wk_X9_acts_168 F  h
set_option maxRecDepth 20000 in
set_option maxHeartbeats 4000000 in
theorem wk_X9_acts_106 {p : Program} {l : Launch} {e : Env} {s : State} {m : MethodId} {args : Array Value} {below : List Frame} {meth : Method} {c : Code} {G : Gp} {σ : St} {x1 : Int32} {x2 : Int32} {t0 : Int32} {ih48 : St → Int32 → Int32 → Int32 → Prop} {Q : Int32 → St → Prop} (F : FX p s m args meth c cX9_acts 5 (some .int) RX9 G)  (i48 : ∀ (σ : St) (x1 : Int32) (x2 : Int32) (x3 : Int32), ih48 σ x1 x2 x3 → J p l e (rmF 10 231) s m args below meth c 5 G (MQ below (QQ G (qI Q)) args s 0 0 (fr G)) 0 0 48 [(0, .ref (gb G + 244)), (1, .int x1), (2, .int x2), (3, .int x3)] [] σ) (h : wp_X9_acts_106 σ x1 x2 t0 ih48 Q) : J p l e (rmF 10 231) s m args below meth c 5 G (MQ below (QQ G (qI Q)) args s 0 0 (fr G)) 0 0 106 [(0, .ref (gb G + 244)), (1, .int x1), (2, .int x2)] [.int t0] σ := by
  unfold wp_X9_acts_106 at h
  refine J_isn F (L' := [(3, .int t0), (0, .ref (gb G + 244)), (1, .int x1), (2, .int x2)]) dX9_acts_106 rfl (by decide) rfl ?_
  refine J_iln F 0 dX9_acts_107 rfl rfl ?_
  refine J_zeq F (tgt := 48) dX9_acts_108 (by decide) (fun c_17 => ?_) (fun c_17 => ?_)
  · have h := h.1 c_17
    refine J_sub [1, 2, 3, 0] rfl ?_
    exact i48 _ _ _ _ h
  · have h := h.2 c_17
    refine J_aln F 1 dX9_acts_111 rfl rfl ?_
    refine J_gfi F (ci := 9) 12 rfl inX9 ly_244 (by decide) (by decide) rfl lf_X9_26 rfl dX9_acts_112 ?_
    refine J_ic F dX9_acts_115 ki_m1 ?_
    refine J_cne F (tgt := 48) dX9_acts_116 (by decide) (fun c_18 => ?_) (fun c_18 => ?_)
    · have h := h.1 c_18
      refine J_sub [1, 2, 3, 0] rfl ?_
      exact i48 _ _ _ _ h
    · have h := h.2 c_18
      refine J_aln F 1 dX9_acts_119 rfl rfl ?_
      refine J_gfa F (ci := 9) 8 rfl inX9 ly_244 (by decide) (by decide) rfl lf_X9_23 rfl dX9_acts_120 ?_
      refine J_aln F 1 dX9_acts_123 rfl rfl ?_
      refine J_gfi F (ci := 9) 11 rfl inX9 ly_244 (by decide) (by decide) rfl lf_X9_243 rfl dX9_acts_124 ?_
      obtain ⟨h_19, h⟩ := h
      refine J_iald F ly_249 h_19 dX9_acts_127 ?_
      refine J_bi F dX9_acts_128 kb_59 ?_
      refine J_ceq F (tgt := 141) dX9_acts_130 (by decide) (fun c_20 => ?_) (fun c_20 => ?_)
      · have h := h.1 c_20
        refine J_aln F 1 dX9_acts_141 rfl rfl ?_
        refine J_dup F dX9_acts_142 rfl ?_
        refine J_gfi F (ci := 9) 11 rfl inX9 ly_244 (by decide) (by decide) rfl lf_X9_243 rfl dX9_acts_143 ?_
        refine J_ic F dX9_acts_146 ki_1 ?_
        refine J_iadd F dX9_acts_147 ?_
        refine J_pfi F (ci := 9) 11 rfl inX9 tyX9 tyX9_ok nmX9 ly_244 (by decide) (by decide) rfl lf_X9_243 rfl rfl (tyX9_ok 11 (by decide)) rfl rfl dX9_acts_148 ?_
        refine J_st (fun σ_21 eσ_21 => ?_)
        have h := h σ_21 eσ_21
        refine J_goto F (tgt := 48) dX9_acts_151 (by decide) ?_
        refine J_sub [1, 2, 3, 0] rfl ?_
        exact i48 _ _ _ _ h
      · have h := h.2 c_20
        refine J_aln F 1 dX9_acts_133 rfl rfl ?_
        refine J_aln F 1 dX9_acts_134 rfl rfl ?_
        refine J_gfi F (ci := 9) 11 rfl inX9 ly_244 (by decide) (by decide) rfl lf_X9_243 rfl dX9_acts_135 ?_
        refine J_callVv F (As := [.int (σ 244 11)]) (st := []) (C_X9_wrong l G (σ 244 11)  h) (ci := 9) ly_244 (by decide) rfl rfl lm_X9_261 li_X9_wrong ls_X9_wrong ini_X9 lc_X9_wrong hd_X9_wrong (by decide) (Nat.le_of_ble_eq_true rfl) (by decide) rfl dX9_acts_138 (fun σ_22 h => ?_)
        refine J_aln F 1 dX9_acts_141 rfl rfl ?_
        refine J_dup F dX9_acts_142 rfl ?_
        refine J_gfi F (ci := 9) 11 rfl inX9 ly_244 (by decide) (by decide) rfl lf_X9_243 rfl dX9_acts_143 ?_
        refine J_ic F dX9_acts_146 ki_1 ?_
        refine J_iadd F dX9_acts_147 ?_
        refine J_pfi F (ci := 9) 11 rfl inX9 tyX9 tyX9_ok nmX9 ly_244 (by decide) (by decide) rfl lf_X9_243 rfl rfl (tyX9_ok 11 (by decide)) rfl rfl dX9_acts_148 ?_
        refine J_st (fun σ_23 eσ_23 => ?_)
        have h := h σ_23 eσ_23
        refine J_goto F (tgt := 48) dX9_acts_151 (by decide) ?_
        refine J_sub [1, 2, 3, 0] rfl ?_
        exact i48 _ _ _ _ h
set_option maxRecDepth 20000 in
set_option maxHeartbeats 4000000 in
theorem wk_X9_acts_87 {p : Program} {l : Launch} {e : Env} {s : State} {m : MethodId} {args : Array Value} {below : List Frame} {meth : Method} {c : Code} {G : Gp} {σ : St} {x1 : Int32} {x2 : Int32} {ih48 : St → Int32 → Int32 → Int32 → Prop} {Q : Int32 → St → Prop} (F : FX p s m args meth c cX9_acts 5 (some .int) RX9 G)  (i48 : ∀ (σ : St) (x1 : Int32) (x2 : Int32) (x3 : Int32), ih48 σ x1 x2 x3 → J p l e (rmF 10 231) s m args below meth c 5 G (MQ below (QQ G (qI Q)) args s 0 0 (fr G)) 0 0 48 [(0, .ref (gb G + 244)), (1, .int x1), (2, .int x2), (3, .int x3)] [] σ) (h : wp_X9_acts_87 σ x1 x2 ih48 Q) : J p l e (rmF 10 231) s m args below meth c 5 G (MQ below (QQ G (qI Q)) args s 0 0 (fr G)) 0 0 87 [(0, .ref (gb G + 244)), (1, .int x1), (2, .int x2)] [] σ := by
  unfold wp_X9_acts_87 at h
  obtain ⟨x1_24, ex1_24⟩ : ∃ z : Int32, z = x1 + (nI 1) := ⟨_, rfl⟩
  have h := h x1_24 ex1_24
  refine J_iinc F (v := x1_24) (L' := [(1, .int x1_24), (0, .ref (gb G + 244)), (2, .int x2)]) 1 dX9_acts_87 rfl (by rw [ki_1, ex1_24]) (by decide) rfl ?_
  refine J_aln F 1 dX9_acts_90 rfl rfl ?_
  refine J_callVi F (As := []) (st := []) (C_X9_here l G   h) (ci := 9) ly_244 (by decide) rfl rfl lm_X9_249 li_X9_here ls_X9_here ini_X9 lc_X9_here hd_X9_here (by decide) (Nat.le_of_ble_eq_true rfl) (by decide) rfl dX9_acts_91 (fun r_25 σ_26 h => ?_)
  refine J_aln F 1 dX9_acts_94 rfl rfl ?_
  refine J_gfi F (ci := 9) 10 rfl inX9 ly_244 (by decide) (by decide) rfl lf_X9_246 rfl dX9_acts_95 ?_
  refine J_cge F (tgt := 105) dX9_acts_98 (by decide) (fun c_27 => ?_) (fun c_27 => ?_)
  · have h := h.1 c_27
    refine J_ic F dX9_acts_105 ki_0 ?_
    refine J_sub [1, 0, 2] rfl ?_
    exact wk_X9_acts_106 F i48 h
  · have h := h.2 c_27
    refine J_ic F dX9_acts_101 ki_1 ?_
    refine J_goto F (tgt := 106) dX9_acts_102 (by decide) ?_
    refine J_sub [1, 0, 2] rfl ?_
    exact wk_X9_acts_106 F i48 h
set_option maxRecDepth 20000 in
set_option maxHeartbeats 4000000 in
theorem wk_X9_acts_74 {p : Program} {l : Launch} {e : Env} {s : State} {m : MethodId} {args : Array Value} {below : List Frame} {meth : Method} {c : Code} {G : Gp} {σ : St} {x1 : Int32} {x2 : Int32} {ih48 : St → Int32 → Int32 → Int32 → Prop} {Q : Int32 → St → Prop} (F : FX p s m args meth c cX9_acts 5 (some .int) RX9 G)  (i48 : ∀ (σ : St) (x1 : Int32) (x2 : Int32) (x3 : Int32), ih48 σ x1 x2 x3 → J p l e (rmF 10 231) s m args below meth c 5 G (MQ below (QQ G (qI Q)) args s 0 0 (fr G)) 0 0 48 [(0, .ref (gb G + 244)), (1, .int x1), (2, .int x2), (3, .int x3)] [] σ) (h : wp_X9_acts_74 σ x1 x2 ih48 Q) : J p l e (rmF 10 231) s m args below meth c 5 G (MQ below (QQ G (qI Q)) args s 0 0 (fr G)) 0 0 74 [(0, .ref (gb G + 244)), (1, .int x1), (2, .int x2)] [] σ := by
  unfold wp_X9_acts_74 at h
  refine J_aln F 0 dX9_acts_74 rfl rfl ?_
  refine J_gfi F (ci := 9) 12 rfl inX9 ly_244 (by decide) (by decide) rfl lf_X9_26 rfl dX9_acts_75 ?_
  refine J_ic F dX9_acts_78 ki_m1 ?_
  refine J_cne F (tgt := 87) dX9_acts_79 (by decide) (fun c_28 => ?_) (fun c_28 => ?_)
  · have h := h.1 c_28
    exact wk_X9_acts_87 F i48 h
  · have h := h.2 c_28
    refine J_aln F 0 dX9_acts_82 rfl rfl ?_
    refine J_callVi F (As := []) (st := []) (C_X9_act l G   h) (ci := 9) ly_244 (by decide) rfl rfl lm_X9_333 li_X9_act ls_X9_act ini_X9 lc_X9_act hd_X9_act (by decide) (Nat.le_of_ble_eq_true rfl) (by decide) rfl dX9_acts_83 (fun r_29 σ_30 h => ?_)
    refine J_isn F (L' := [(2, .int r_29), (0, .ref (gb G + 244)), (1, .int x1)]) dX9_acts_86 rfl (by decide) rfl ?_
    refine J_sub [1, 2, 0] rfl ?_
    exact wk_X9_acts_87 F i48 h
set_option maxRecDepth 20000 in
set_option maxHeartbeats 4000000 in
theorem wk_X9_acts_48 {p : Program} {l : Launch} {e : Env} {s : State} {m : MethodId} {args : Array Value} {below : List Frame} {meth : Method} {c : Code} {G : Gp}   {Q : Int32 → St → Prop} (F : FX p s m args meth c cX9_acts 5 (some .int) RX9 G)   : ∀ (n9 : Nat) (σ : St) (x1 : Int32) (x2 : Int32) (x3 : Int32), LP4 (wp_X9_acts_48 Q) n9 σ x1 x2 x3 → J p l e (rmF 10 231) s m args below meth c 5 G (MQ below (QQ G (qI Q)) args s 0 0 (fr G)) 0 0 48 [(0, .ref (gb G + 244)), (1, .int x1), (2, .int x2), (3, .int x3)] [] σ := by
  intro n9
  induction n9 with
  | zero => intro σ x1 x2 x3 h; exact h.elim
  | succ n9 i48 =>
    intro σ x1 x2 x3 h
    have h : wp_X9_acts_48 Q (LP4 (wp_X9_acts_48 Q) n9) σ x1 x2 x3 := h
    unfold wp_X9_acts_48 at h
    refine J_iln F 3 dX9_acts_48 rfl rfl ?_
    refine J_zeq F (tgt := 154) dX9_acts_49 (by decide) (fun c_31 => ?_) (fun c_31 => ?_)
    · have h := h.1 c_31
      refine J_sub [0, 1, 2] rfl ?_
      exact wk_X9_acts_154 F  h
    · have h := h.2 c_31
      refine J_aln F 0 dX9_acts_52 rfl rfl ?_
      refine J_gfi F (ci := 9) 12 rfl inX9 ly_244 (by decide) (by decide) rfl lf_X9_26 rfl dX9_acts_53 ?_
      refine J_ic F dX9_acts_56 ki_m1 ?_
      refine J_cne F (tgt := 154) dX9_acts_57 (by decide) (fun c_32 => ?_) (fun c_32 => ?_)
      · have h := h.1 c_32
        refine J_sub [0, 1, 2] rfl ?_
        exact wk_X9_acts_154 F  h
      · have h := h.2 c_32
        refine J_iln F 1 dX9_acts_60 rfl rfl ?_
        refine J_bi F dX9_acts_61 kb_14 ?_
        refine J_cne F (tgt := 74) dX9_acts_63 (by decide) (fun c_33 => ?_) (fun c_33 => ?_)
        · have h := h.1 c_33
          refine J_sub [0, 1, 2] rfl ?_
          exact wk_X9_acts_74 F i48 h
        · have h := h.2 c_33
          refine J_aln F 0 dX9_acts_66 rfl rfl ?_
          refine J_aln F 0 dX9_acts_67 rfl rfl ?_
          refine J_callVi F (As := []) (st := [.ref (gb G + 244)]) (C_X9_here l G   h) (ci := 9) ly_244 (by decide) rfl rfl lm_X9_249 li_X9_here ls_X9_here ini_X9 lc_X9_here hd_X9_here (by decide) (Nat.le_of_ble_eq_true rfl) (by decide) rfl dX9_acts_68 (fun r_34 σ_35 h => ?_)
          refine J_callVv F (As := [.int r_34]) (st := []) (C_X9_wrong l G r_34  h) (ci := 9) ly_244 (by decide) rfl rfl lm_X9_261 li_X9_wrong ls_X9_wrong ini_X9 lc_X9_wrong hd_X9_wrong (by decide) (Nat.le_of_ble_eq_true rfl) (by decide) rfl dX9_acts_71 (fun σ_36 h => ?_)
          refine J_sub [0, 1, 2] rfl ?_
          exact wk_X9_acts_74 F i48 h
set_option maxRecDepth 20000 in
set_option maxHeartbeats 4000000 in
theorem C_X9_acts (l : Launch) (G : Gp)   {σ : St} {Q : Int32 → St → Prop} (h : wp_X9_acts σ  Q) : Cn l yX9_acts cX9_acts 5 (some .int) 10 231 G [.ref (gb G + 244)] σ (qI Q) := by
  refine Cn_of (L := [(0, .ref (gb G + 244))]) RX9 (by decide) rfl (Nat.le_of_ble_eq_true rfl) rfl ?_
  intro p e s m below meth c F
  unfold wp_X9_acts at h
  refine J_aln F 0 dX9_acts_0 rfl rfl ?_
  refine J_ic F dX9_acts_1 ki_m1 ?_
  refine J_pfi F (ci := 9) 12 rfl inX9 tyX9 tyX9_ok nmX9 ly_244 (by decide) (by decide) rfl lf_X9_26 rfl rfl (tyX9_ok 12 (by decide)) rfl rfl dX9_acts_2 ?_
  refine J_st (fun σ_37 eσ_37 => ?_)
  have h := h σ_37 eσ_37
  refine J_aln F 0 dX9_acts_5 rfl rfl ?_
  refine J_aln F 0 dX9_acts_6 rfl rfl ?_
  refine J_gfi F (ci := 9) 9 rfl inX9 ly_244 (by decide) (by decide) rfl lf_X9_240 rfl dX9_acts_7 ?_
  refine J_pfi F (ci := 9) 10 rfl inX9 tyX9 tyX9_ok nmX9 ly_244 (by decide) (by decide) rfl lf_X9_246 rfl rfl (tyX9_ok 10 (by decide)) rfl rfl dX9_acts_10 ?_
  refine J_st (fun σ_38 eσ_38 => ?_)
  have h := h σ_38 eσ_38
  refine J_aln F 0 dX9_acts_13 rfl rfl ?_
  refine J_ic F dX9_acts_14 ki_0 ?_
  refine J_pfi F (ci := 9) 9 rfl inX9 tyX9 tyX9_ok nmX9 ly_244 (by decide) (by decide) rfl lf_X9_240 rfl rfl (tyX9_ok 9 (by decide)) rfl rfl dX9_acts_15 ?_
  refine J_st (fun σ_39 eσ_39 => ?_)
  have h := h σ_39 eσ_39
  refine J_aln F 0 dX9_acts_18 rfl rfl ?_
  refine J_ic F dX9_acts_19 ki_0 ?_
  refine J_pfi F (ci := 9) 11 rfl inX9 tyX9 tyX9_ok nmX9 ly_244 (by decide) (by decide) rfl lf_X9_243 rfl rfl (tyX9_ok 11 (by decide)) rfl rfl dX9_acts_20 ?_
  refine J_st (fun σ_40 eσ_40 => ?_)
  have h := h σ_40 eσ_40
  refine J_aln F 0 dX9_acts_23 rfl rfl ?_
  refine J_callVv F (As := []) (st := []) (C_X9_putsAside l G   h) (ci := 9) ly_244 (by decide) rfl rfl lm_X9_330 li_X9_putsAside ls_X9_putsAside ini_X9 lc_X9_putsAside hd_X9_putsAside (by decide) (Nat.le_of_ble_eq_true rfl) (by decide) rfl dX9_acts_24 (fun σ_41 h => ?_)
  refine J_ic F dX9_acts_27 ki_0 ?_
  refine J_isn F (L' := [(1, .int (nI 0)), (0, .ref (gb G + 244))]) dX9_acts_28 rfl (by decide) rfl ?_
  refine J_ic F dX9_acts_29 ki_0 ?_
  refine J_isn F (L' := [(2, .int (nI 0)), (1, .int (nI 0)), (0, .ref (gb G + 244))]) dX9_acts_30 rfl (by decide) rfl ?_
  refine J_aln F 2 dX9_acts_31 rfl rfl ?_
  refine J_callVi F (As := []) (st := []) (C_X9_here l G   h) (ci := 9) ly_244 (by decide) rfl rfl lm_X9_249 li_X9_here ls_X9_here ini_X9 lc_X9_here hd_X9_here (by decide) (Nat.le_of_ble_eq_true rfl) (by decide) rfl dX9_acts_32 (fun r_42 σ_43 h => ?_)
  refine J_aln F 2 dX9_acts_35 rfl rfl ?_
  refine J_gfi F (ci := 9) 10 rfl inX9 ly_244 (by decide) (by decide) rfl lf_X9_246 rfl dX9_acts_36 ?_
  refine J_cge F (tgt := 46) dX9_acts_39 (by decide) (fun c_44 => ?_) (fun c_44 => ?_)
  · have h := h.1 c_44
    refine J_ic F dX9_acts_46 ki_0 ?_
    refine J_isn F (L' := [(3, .int (nI 0)), (2, .int (nI 0)), (1, .int (nI 0)), (0, .ref (gb G + 244))]) dX9_acts_47 rfl (by decide) rfl ?_
    refine J_sub [3, 2, 1, 0] rfl ?_
    obtain ⟨n9, h⟩ := h
    exact wk_X9_acts_48 F  n9 _ _ _ _ h
  · have h := h.2 c_44
    refine J_ic F dX9_acts_42 ki_1 ?_
    refine J_goto F (tgt := 47) dX9_acts_43 (by decide) ?_
    refine J_isn F (L' := [(3, .int (nI 1)), (2, .int (nI 0)), (1, .int (nI 0)), (0, .ref (gb G + 244))]) dX9_acts_47 rfl (by decide) rfl ?_
    refine J_sub [3, 2, 1, 0] rfl ?_
    obtain ⟨n9, h⟩ := h
    exact wk_X9_acts_48 F  n9 _ _ _ _ h
