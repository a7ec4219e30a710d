theorem dX9_orderOf_0 : decode cX9_orderOf 0 = .ok (.iconst 0, 1) := by decide +kernel
theorem dX9_orderOf_1 : decode cX9_orderOf 1 = .ok (.istore_n 3, 1) := by decide +kernel
theorem dX9_orderOf_2 : decode cX9_orderOf 2 = .ok (.iconst 0, 1) := by decide +kernel
theorem dX9_orderOf_3 : decode cX9_orderOf 3 = .ok (.istore 4, 2) := by decide +kernel
theorem dX9_orderOf_5 : decode cX9_orderOf 5 = .ok (.iconst 0, 1) := by decide +kernel
theorem dX9_orderOf_6 : decode cX9_orderOf 6 = .ok (.istore 5, 2) := by decide +kernel
theorem dX9_orderOf_8 : decode cX9_orderOf 8 = .ok (.iload 5, 2) := by decide +kernel
theorem dX9_orderOf_10 : decode cX9_orderOf 10 = .ok (.aload_n 0, 1) := by decide +kernel
theorem dX9_orderOf_11 : decode cX9_orderOf 11 = .ok (.getfield 7, 3) := by decide +kernel
theorem dX9_orderOf_14 : decode cX9_orderOf 14 = .ok (.bipush 30, 2) := by decide +kernel
theorem dX9_orderOf_16 : decode cX9_orderOf 16 = .ok (.iaload, 1) := by decide +kernel
theorem dX9_orderOf_17 : decode cX9_orderOf 17 = .ok (.if_icmp .ge 18, 3) := by decide +kernel
theorem dX9_orderOf_20 : decode cX9_orderOf 20 = .ok (.iload 4, 2) := by decide +kernel
theorem dX9_orderOf_22 : decode cX9_orderOf 22 = .ok (.iconst 1, 1) := by decide +kernel
theorem dX9_orderOf_23 : decode cX9_orderOf 23 = .ok (.iload 5, 2) := by decide +kernel
theorem dX9_orderOf_25 : decode cX9_orderOf 25 = .ok (.ishl, 1) := by decide +kernel
theorem dX9_orderOf_26 : decode cX9_orderOf 26 = .ok (.ior, 1) := by decide +kernel
theorem dX9_orderOf_27 : decode cX9_orderOf 27 = .ok (.istore 4, 2) := by decide +kernel
theorem dX9_orderOf_29 : decode cX9_orderOf 29 = .ok (.iinc 5 1, 3) := by decide +kernel
theorem dX9_orderOf_32 : decode cX9_orderOf 32 = .ok (.goto (-24), 3) := by decide +kernel
theorem dX9_orderOf_35 : decode cX9_orderOf 35 = .ok (.aload_n 0, 1) := by decide +kernel
theorem dX9_orderOf_36 : decode cX9_orderOf 36 = .ok (.getfield 7, 3) := by decide +kernel
theorem dX9_orderOf_39 : decode cX9_orderOf 39 = .ok (.bipush 30, 2) := by decide +kernel
theorem dX9_orderOf_41 : decode cX9_orderOf 41 = .ok (.iaload, 1) := by decide +kernel
theorem dX9_orderOf_42 : decode cX9_orderOf 42 = .ok (.istore 5, 2) := by decide +kernel
theorem dX9_orderOf_44 : decode cX9_orderOf 44 = .ok (.iload 5, 2) := by decide +kernel
theorem dX9_orderOf_46 : decode cX9_orderOf 46 = .ok (.ifCond .le 111, 3) := by decide +kernel
theorem dX9_orderOf_49 : decode cX9_orderOf 49 = .ok (.iconst (-1), 1) := by decide +kernel
theorem dX9_orderOf_50 : decode cX9_orderOf 50 = .ok (.istore 6, 2) := by decide +kernel
theorem dX9_orderOf_52 : decode cX9_orderOf 52 = .ok (.iconst 0, 1) := by decide +kernel
theorem dX9_orderOf_53 : decode cX9_orderOf 53 = .ok (.istore 7, 2) := by decide +kernel
theorem dX9_orderOf_55 : decode cX9_orderOf 55 = .ok (.iload 7, 2) := by decide +kernel
theorem dX9_orderOf_57 : decode cX9_orderOf 57 = .ok (.iconst 3, 1) := by decide +kernel
theorem dX9_orderOf_58 : decode cX9_orderOf 58 = .ok (.if_icmp .ge 43, 3) := by decide +kernel
theorem dX9_orderOf_61 : decode cX9_orderOf 61 = .ok (.iload 4, 2) := by decide +kernel
theorem dX9_orderOf_63 : decode cX9_orderOf 63 = .ok (.iload 7, 2) := by decide +kernel
theorem dX9_orderOf_65 : decode cX9_orderOf 65 = .ok (.ishr, 1) := by decide +kernel
theorem dX9_orderOf_66 : decode cX9_orderOf 66 = .ok (.iconst 1, 1) := by decide +kernel
theorem dX9_orderOf_67 : decode cX9_orderOf 67 = .ok (.iand, 1) := by decide +kernel
theorem dX9_orderOf_68 : decode cX9_orderOf 68 = .ok (.iconst 1, 1) := by decide +kernel
theorem dX9_orderOf_69 : decode cX9_orderOf 69 = .ok (.if_icmp .ne 26, 3) := by decide +kernel
theorem dX9_orderOf_72 : decode cX9_orderOf 72 = .ok (.iload 6, 2) := by decide +kernel
theorem dX9_orderOf_74 : decode cX9_orderOf 74 = .ok (.iconst (-1), 1) := by decide +kernel
theorem dX9_orderOf_75 : decode cX9_orderOf 75 = .ok (.if_icmp .eq 16, 3) := by decide +kernel
theorem dX9_orderOf_78 : decode cX9_orderOf 78 = .ok (.aload_n 0, 1) := by decide +kernel
theorem dX9_orderOf_79 : decode cX9_orderOf 79 = .ok (.iload 7, 2) := by decide +kernel
theorem dX9_orderOf_81 : decode cX9_orderOf 81 = .ok (.iload 6, 2) := by decide +kernel
theorem dX9_orderOf_83 : decode cX9_orderOf 83 = .ok (.iload_n 1, 1) := by decide +kernel
theorem dX9_orderOf_84 : decode cX9_orderOf 84 = .ok (.iload_n 2, 1) := by decide +kernel
theorem dX9_orderOf_85 : decode cX9_orderOf 85 = .ok (.invokevirtual 186, 3) := by decide +kernel
theorem dX9_orderOf_88 : decode cX9_orderOf 88 = .ok (.ifCond .eq 7, 3) := by decide +kernel
theorem dX9_orderOf_91 : decode cX9_orderOf 91 = .ok (.iload 7, 2) := by decide +kernel
theorem dX9_orderOf_93 : decode cX9_orderOf 93 = .ok (.istore 6, 2) := by decide +kernel
theorem dX9_orderOf_95 : decode cX9_orderOf 95 = .ok (.iinc 7 1, 3) := by decide +kernel
theorem dX9_orderOf_98 : decode cX9_orderOf 98 = .ok (.goto (-43), 3) := by decide +kernel
theorem dX9_orderOf_101 : decode cX9_orderOf 101 = .ok (.iconst 0, 1) := by decide +kernel
theorem dX9_orderOf_102 : decode cX9_orderOf 102 = .ok (.istore 7, 2) := by decide +kernel
theorem dX9_orderOf_104 : decode cX9_orderOf 104 = .ok (.iconst 0, 1) := by decide +kernel
theorem dX9_orderOf_105 : decode cX9_orderOf 105 = .ok (.istore 8, 2) := by decide +kernel
theorem dX9_orderOf_107 : decode cX9_orderOf 107 = .ok (.iload 8, 2) := by decide +kernel
theorem dX9_orderOf_109 : decode cX9_orderOf 109 = .ok (.iload 6, 2) := by decide +kernel
theorem dX9_orderOf_111 : decode cX9_orderOf 111 = .ok (.if_icmp .ge 21, 3) := by decide +kernel
theorem dX9_orderOf_114 : decode cX9_orderOf 114 = .ok (.iload 7, 2) := by decide +kernel
theorem dX9_orderOf_116 : decode cX9_orderOf 116 = .ok (.iload 4, 2) := by decide +kernel
theorem dX9_orderOf_118 : decode cX9_orderOf 118 = .ok (.iload 8, 2) := by decide +kernel
theorem dX9_orderOf_120 : decode cX9_orderOf 120 = .ok (.ishr, 1) := by decide +kernel
theorem dX9_orderOf_121 : decode cX9_orderOf 121 = .ok (.iconst 1, 1) := by decide +kernel
theorem dX9_orderOf_122 : decode cX9_orderOf 122 = .ok (.iand, 1) := by decide +kernel
theorem dX9_orderOf_123 : decode cX9_orderOf 123 = .ok (.iadd, 1) := by decide +kernel
theorem dX9_orderOf_124 : decode cX9_orderOf 124 = .ok (.istore 7, 2) := by decide +kernel
theorem dX9_orderOf_126 : decode cX9_orderOf 126 = .ok (.iinc 8 1, 3) := by decide +kernel
theorem dX9_orderOf_129 : decode cX9_orderOf 129 = .ok (.goto (-22), 3) := by decide +kernel
theorem dX9_orderOf_132 : decode cX9_orderOf 132 = .ok (.iload_n 3, 1) := by decide +kernel
theorem dX9_orderOf_133 : decode cX9_orderOf 133 = .ok (.iload 5, 2) := by decide +kernel
theorem dX9_orderOf_135 : decode cX9_orderOf 135 = .ok (.imul, 1) := by decide +kernel
theorem dX9_orderOf_136 : decode cX9_orderOf 136 = .ok (.iload 7, 2) := by decide +kernel
theorem dX9_orderOf_138 : decode cX9_orderOf 138 = .ok (.iadd, 1) := by decide +kernel
theorem dX9_orderOf_139 : decode cX9_orderOf 139 = .ok (.istore_n 3, 1) := by decide +kernel
theorem dX9_orderOf_140 : decode cX9_orderOf 140 = .ok (.iload 4, 2) := by decide +kernel
theorem dX9_orderOf_142 : decode cX9_orderOf 142 = .ok (.iconst 1, 1) := by decide +kernel
theorem dX9_orderOf_143 : decode cX9_orderOf 143 = .ok (.iload 6, 2) := by decide +kernel
theorem dX9_orderOf_145 : decode cX9_orderOf 145 = .ok (.ishl, 1) := by decide +kernel
theorem dX9_orderOf_146 : decode cX9_orderOf 146 = .ok (.iconst (-1), 1) := by decide +kernel
theorem dX9_orderOf_147 : decode cX9_orderOf 147 = .ok (.ixor, 1) := by decide +kernel
theorem dX9_orderOf_148 : decode cX9_orderOf 148 = .ok (.iand, 1) := by decide +kernel
theorem dX9_orderOf_149 : decode cX9_orderOf 149 = .ok (.istore 4, 2) := by decide +kernel
theorem dX9_orderOf_151 : decode cX9_orderOf 151 = .ok (.iinc 5 (-1), 3) := by decide +kernel
theorem dX9_orderOf_154 : decode cX9_orderOf 154 = .ok (.goto (-110), 3) := by decide +kernel
theorem dX9_orderOf_157 : decode cX9_orderOf 157 = .ok (.iload_n 3, 1) := by decide +kernel
theorem dX9_orderOf_158 : decode cX9_orderOf 158 = .ok (.ireturn, 1) := by decide +kernel
set_option maxRecDepth 20000 in
set_option maxHeartbeats 4000000 in
theorem wk_X9_orderOf_132 {p : Program} {l : Launch} {e : Env} {s : State} {m : MethodId} {args : Array Value} {below : List Frame} {meth : Method} {c : Code} {G : Gp} {σ : St} {x1 : Int32} {x2 : Int32} {x3 : Int32} {x4 : Int32} {x5 : Int32} {x6 : Int32} {x7 : Int32} {ih44 : Int32 → Int32 → Int32 → Prop} {Q : Int32 → Prop} (F : FX p s m args meth c cX9_orderOf 9 (some .int) RX9 G)  (i44 : ∀ (x3 : Int32) (x4 : Int32) (x5 : Int32), ih44 x3 x4 x5 → J p l e (rmF 3 69) s m args below meth c 9 G (MQ below (QQ G (qI (fun r σ' => σ' = σ ∧ Q r))) args s 0 0 (fr G)) 0 0 44 [(0, .ref (gb G + 244)), (1, .int x1), (2, .int x2), (3, .int x3), (4, .int x4), (5, .int x5)] [] σ) (h : wp_X9_orderOf_132 σ x1 x2 x3 x4 x5 x6 x7 ih44 Q) : J p l e (rmF 3 69) s m args below meth c 9 G (MQ below (QQ G (qI (fun r σ' => σ' = σ ∧ Q r))) args s 0 0 (fr G)) 0 0 132 [(0, .ref (gb G + 244)), (1, .int x1), (2, .int x2), (3, .int x3), (4, .int x4), (5, .int x5), (6, .int x6), (7, .int x7)] [] σ := by
  unfold wp_X9_orderOf_132 at h
  refine J_iln F 3 dX9_orderOf_132 rfl rfl ?_
  refine J_il F 5 dX9_orderOf_133 rfl ?_
  refine J_imul F dX9_orderOf_135 ?_
  refine J_il F 7 dX9_orderOf_136 rfl ?_
  refine J_iadd F dX9_orderOf_138 ?_
  refine J_top (fun x3_1 ex3_1 => ?_)
  have h := h x3_1 ex3_1
  refine J_isn F (L' := [(3, .int x3_1), (0, .ref (gb G + 244)), (1, .int x1), (2, .int x2), (4, .int x4), (5, .int x5), (6, .int x6), (7, .int x7)]) dX9_orderOf_139 rfl (by decide) rfl ?_
  refine J_il F 4 dX9_orderOf_140 rfl ?_
  refine J_ic F dX9_orderOf_142 ki_1 ?_
  refine J_il F 6 dX9_orderOf_143 rfl ?_
  refine J_ishl F dX9_orderOf_145 ?_
  refine J_ic F dX9_orderOf_146 ki_m1 ?_
  refine J_ixor F dX9_orderOf_147 ?_
  refine J_iand F dX9_orderOf_148 ?_
  refine J_top (fun x4_2 ex4_2 => ?_)
  have h := h x4_2 ex4_2
  refine J_is F (L' := [(4, .int x4_2), (3, .int x3_1), (0, .ref (gb G + 244)), (1, .int x1), (2, .int x2), (5, .int x5), (6, .int x6), (7, .int x7)]) dX9_orderOf_149 (by decide) rfl ?_
  obtain ⟨x5_3, ex5_3⟩ : ∃ z : Int32, z = x5 + (-1) := ⟨_, rfl⟩
  have h := h x5_3 ex5_3
  refine J_iinc F (v := x5_3) (L' := [(5, .int x5_3), (4, .int x4_2), (3, .int x3_1), (0, .ref (gb G + 244)), (1, .int x1), (2, .int x2), (6, .int x6), (7, .int x7)]) 5 dX9_orderOf_151 rfl (by rw [ki_m1, ex5_3]) (by decide) rfl ?_
  refine J_goto F (tgt := 44) dX9_orderOf_154 (by decide) ?_
  refine J_sub [3, 4, 5, 2, 1, 0] rfl ?_
  exact i44 _ _ _ h
set_option maxRecDepth 20000 in
set_option maxHeartbeats 4000000 in
theorem wk_X9_orderOf_107 {p : Program} {l : Launch} {e : Env} {s : State} {m : MethodId} {args : Array Value} {below : List Frame} {meth : Method} {c : Code} {G : Gp} {σ : St} {x1 : Int32} {x2 : Int32} {x3 : Int32} {x4 : Int32} {x5 : Int32} {x6 : Int32} {ih44 : Int32 → Int32 → Int32 → Prop} {Q : Int32 → Prop} (F : FX p s m args meth c cX9_orderOf 9 (some .int) RX9 G)  (i44 : ∀ (x3 : Int32) (x4 : Int32) (x5 : Int32), ih44 x3 x4 x5 → J p l e (rmF 3 69) s m args below meth c 9 G (MQ below (QQ G (qI (fun r σ' => σ' = σ ∧ Q r))) args s 0 0 (fr G)) 0 0 44 [(0, .ref (gb G + 244)), (1, .int x1), (2, .int x2), (3, .int x3), (4, .int x4), (5, .int x5)] [] σ) : ∀ (n9 : Nat) (x7 : Int32) (x8 : Int32), LP2 (wp_X9_orderOf_107 σ x1 x2 x3 x4 x5 x6 ih44 Q) n9 x7 x8 → J p l e (rmF 3 69) s m args below meth c 9 G (MQ below (QQ G (qI (fun r σ' => σ' = σ ∧ Q r))) args s 0 0 (fr G)) 0 0 107 [(0, .ref (gb G + 244)), (1, .int x1), (2, .int x2), (3, .int x3), (4, .int x4), (5, .int x5), (6, .int x6), (7, .int x7), (8, .int x8)] [] σ := by
  intro n9
  induction n9 with
  | zero => intro x7 x8 h; exact h.elim
  | succ n9 i107 =>
    intro x7 x8 h
    have h : wp_X9_orderOf_107 σ x1 x2 x3 x4 x5 x6 ih44 Q (LP2 (wp_X9_orderOf_107 σ x1 x2 x3 x4 x5 x6 ih44 Q) n9) x7 x8 := h
    unfold wp_X9_orderOf_107 at h
    refine J_il F 8 dX9_orderOf_107 rfl ?_
    refine J_il F 6 dX9_orderOf_109 rfl ?_
    refine J_cge F (tgt := 132) dX9_orderOf_111 (by decide) (fun c_4 => ?_) (fun c_4 => ?_)
    · have h := h.1 c_4
      refine J_sub [0, 1, 2, 3, 4, 5, 6, 7] rfl ?_
      exact wk_X9_orderOf_132 F i44 h
    · have h := h.2 c_4
      refine J_il F 7 dX9_orderOf_114 rfl ?_
      refine J_il F 4 dX9_orderOf_116 rfl ?_
      refine J_il F 8 dX9_orderOf_118 rfl ?_
      refine J_ishr F dX9_orderOf_120 ?_
      refine J_ic F dX9_orderOf_121 ki_1 ?_
      refine J_iand F dX9_orderOf_122 ?_
      refine J_iadd F dX9_orderOf_123 ?_
      refine J_top (fun x7_5 ex7_5 => ?_)
      have h := h x7_5 ex7_5
      refine J_is F (L' := [(7, .int x7_5), (0, .ref (gb G + 244)), (1, .int x1), (2, .int x2), (3, .int x3), (4, .int x4), (5, .int x5), (6, .int x6), (8, .int x8)]) dX9_orderOf_124 (by decide) rfl ?_
      obtain ⟨x8_6, ex8_6⟩ : ∃ z : Int32, z = x8 + (nI 1) := ⟨_, rfl⟩
      have h := h x8_6 ex8_6
      refine J_iinc F (v := x8_6) (L' := [(8, .int x8_6), (7, .int x7_5), (0, .ref (gb G + 244)), (1, .int x1), (2, .int x2), (3, .int x3), (4, .int x4), (5, .int x5), (6, .int x6)]) 8 dX9_orderOf_126 rfl (by rw [ki_1, ex8_6]) (by decide) rfl ?_
      refine J_goto F (tgt := 107) dX9_orderOf_129 (by decide) ?_
      refine J_sub [2, 3, 4, 5, 6, 7, 8, 1, 0] rfl ?_
      exact i107 _ _ h
set_option maxRecDepth 20000 in
set_option maxHeartbeats 4000000 in
theorem wk_X9_orderOf_55 {p : Program} {l : Launch} {e : Env} {s : State} {m : MethodId} {args : Array Value} {below : List Frame} {meth : Method} {c : Code} {G : Gp} {σ : St} {x1 : Int32} {x2 : Int32} {x3 : Int32} {x4 : Int32} {x5 : Int32} {ih44 : Int32 → Int32 → Int32 → Prop} {Q : Int32 → Prop} (F : FX p s m args meth c cX9_orderOf 9 (some .int) RX9 G)  (i44 : ∀ (x3 : Int32) (x4 : Int32) (x5 : Int32), ih44 x3 x4 x5 → J p l e (rmF 3 69) s m args below meth c 9 G (MQ below (QQ G (qI (fun r σ' => σ' = σ ∧ Q r))) args s 0 0 (fr G)) 0 0 44 [(0, .ref (gb G + 244)), (1, .int x1), (2, .int x2), (3, .int x3), (4, .int x4), (5, .int x5)] [] σ) : ∀ (n9 : Nat) (x6 : Int32) (x7 : Int32), LP2 (wp_X9_orderOf_55 σ x1 x2 x3 x4 x5 ih44 Q) n9 x6 x7 → J p l e (rmF 3 69) s m args below meth c 9 G (MQ below (QQ G (qI (fun r σ' => σ' = σ ∧ Q r))) args s 0 0 (fr G)) 0 0 55 [(0, .ref (gb G + 244)), (1, .int x1), (2, .int x2), (3, .int x3), (4, .int x4), (5, .int x5), (6, .int x6), (7, .int x7)] [] σ := by
  intro n9
  induction n9 with
  | zero => intro x6 x7 h; exact h.elim
  | succ n9 i55 =>
    intro x6 x7 h
    have h : wp_X9_orderOf_55 σ x1 x2 x3 x4 x5 ih44 Q (LP2 (wp_X9_orderOf_55 σ x1 x2 x3 x4 x5 ih44 Q) n9) x6 x7 := h
    unfold wp_X9_orderOf_55 at h
    refine J_il F 7 dX9_orderOf_55 rfl ?_
    refine J_ic F dX9_orderOf_57 ki_3 ?_
    refine J_cge F (tgt := 101) dX9_orderOf_58 (by decide) (fun c_7 => ?_) (fun c_7 => ?_)
    · have h := h.1 c_7
      refine J_ic F dX9_orderOf_101 ki_0 ?_
      refine J_is F (L' := [(7, .int (nI 0)), (0, .ref (gb G + 244)), (1, .int x1), (2, .int x2), (3, .int x3), (4, .int x4), (5, .int x5), (6, .int x6)]) dX9_orderOf_102 (by decide) rfl ?_
      refine J_ic F dX9_orderOf_104 ki_0 ?_
      refine J_is F (L' := [(8, .int (nI 0)), (7, .int (nI 0)), (0, .ref (gb G + 244)), (1, .int x1), (2, .int x2), (3, .int x3), (4, .int x4), (5, .int x5), (6, .int x6)]) dX9_orderOf_105 (by decide) rfl ?_
      refine J_sub [2, 3, 4, 5, 6, 7, 8, 1, 0] rfl ?_
      obtain ⟨n9, h⟩ := h
      exact wk_X9_orderOf_107 F i44 n9 _ _ h
    · have h := h.2 c_7
      refine J_il F 4 dX9_orderOf_61 rfl ?_
      refine J_il F 7 dX9_orderOf_63 rfl ?_
      refine J_ishr F dX9_orderOf_65 ?_
      refine J_ic F dX9_orderOf_66 ki_1 ?_
      refine J_iand F dX9_orderOf_67 ?_
      refine J_ic F dX9_orderOf_68 ki_1 ?_
      refine J_cne F (tgt := 95) dX9_orderOf_69 (by decide) (fun c_8 => ?_) (fun c_8 => ?_)
      · have h := h.1 c_8
        obtain ⟨x7_9, ex7_9⟩ : ∃ z : Int32, z = x7 + (nI 1) := ⟨_, rfl⟩
        have h := h x7_9 ex7_9
        refine J_iinc F (v := x7_9) (L' := [(7, .int x7_9), (0, .ref (gb G + 244)), (1, .int x1), (2, .int x2), (3, .int x3), (4, .int x4), (5, .int x5), (6, .int x6)]) 7 dX9_orderOf_95 rfl (by rw [ki_1, ex7_9]) (by decide) rfl ?_
        refine J_goto F (tgt := 55) dX9_orderOf_98 (by decide) ?_
        refine J_sub [1, 2, 3, 4, 5, 6, 7, 0] rfl ?_
        exact i55 _ _ h
      · have h := h.2 c_8
        refine J_il F 6 dX9_orderOf_72 rfl ?_
        refine J_ic F dX9_orderOf_74 ki_m1 ?_
        refine J_ceq F (tgt := 91) dX9_orderOf_75 (by decide) (fun c_10 => ?_) (fun c_10 => ?_)
        · have h := h.1 c_10
          refine J_il F 7 dX9_orderOf_91 rfl ?_
          refine J_is F (L' := [(6, .int x7), (0, .ref (gb G + 244)), (1, .int x1), (2, .int x2), (3, .int x3), (4, .int x4), (5, .int x5), (7, .int x7)]) dX9_orderOf_93 (by decide) rfl ?_
          obtain ⟨x7_11, ex7_11⟩ : ∃ z : Int32, z = x7 + (nI 1) := ⟨_, rfl⟩
          have h := h x7_11 ex7_11
          refine J_iinc F (v := x7_11) (L' := [(7, .int x7_11), (6, .int x7), (0, .ref (gb G + 244)), (1, .int x1), (2, .int x2), (3, .int x3), (4, .int x4), (5, .int x5)]) 7 dX9_orderOf_95 rfl (by rw [ki_1, ex7_11]) (by decide) rfl ?_
          refine J_goto F (tgt := 55) dX9_orderOf_98 (by decide) ?_
          refine J_sub [2, 3, 4, 5, 6, 7, 1, 0] rfl ?_
          exact i55 _ _ h
        · have h := h.2 c_10
          refine J_aln F 0 dX9_orderOf_78 rfl rfl ?_
          refine J_il F 7 dX9_orderOf_79 rfl ?_
          refine J_il F 6 dX9_orderOf_81 rfl ?_
          refine J_iln F 1 dX9_orderOf_83 rfl rfl ?_
          refine J_iln F 2 dX9_orderOf_84 rfl rfl ?_
          refine J_callVi F (As := [.int x7, .int x6, .int x1, .int x2]) (st := []) (C_X9_isNearer l G x7 x6 x1 x2  h) (ci := 9) ly_244 (by decide) rfl rfl lm_X9_186 li_X9_isNearer ls_X9_isNearer ini_X9 lc_X9_isNearer hd_X9_isNearer (by decide) (Nat.le_of_ble_eq_true rfl) (by decide) rfl dX9_orderOf_85 (fun r_12 σ_13 hh => ?_)
          clear h
          obtain ⟨e9, h⟩ := hh
          subst σ_13
          refine J_zeq F (tgt := 95) dX9_orderOf_88 (by decide) (fun c_14 => ?_) (fun c_14 => ?_)
          · have h := h.1 c_14
            obtain ⟨x7_15, ex7_15⟩ : ∃ z : Int32, z = x7 + (nI 1) := ⟨_, rfl⟩
            have h := h x7_15 ex7_15
            refine J_iinc F (v := x7_15) (L' := [(7, .int x7_15), (0, .ref (gb G + 244)), (1, .int x1), (2, .int x2), (3, .int x3), (4, .int x4), (5, .int x5), (6, .int x6)]) 7 dX9_orderOf_95 rfl (by rw [ki_1, ex7_15]) (by decide) rfl ?_
            refine J_goto F (tgt := 55) dX9_orderOf_98 (by decide) ?_
            refine J_sub [1, 2, 3, 4, 5, 6, 7, 0] rfl ?_
            exact i55 _ _ h
          · have h := h.2 c_14
            refine J_il F 7 dX9_orderOf_91 rfl ?_
            refine J_is F (L' := [(6, .int x7), (0, .ref (gb G + 244)), (1, .int x1), (2, .int x2), (3, .int x3), (4, .int x4), (5, .int x5), (7, .int x7)]) dX9_orderOf_93 (by decide) rfl ?_
            obtain ⟨x7_16, ex7_16⟩ : ∃ z : Int32, z = x7 + (nI 1) := ⟨_, rfl⟩
            have h := h x7_16 ex7_16
            refine J_iinc F (v := x7_16) (L' := [(7, .int x7_16), (6, .int x7), (0, .ref (gb G + 244)), (1, .int x1), (2, .int x2), (3, .int x3), (4, .int x4), (5, .int x5)]) 7 dX9_orderOf_95 rfl (by rw [ki_1, ex7_16]) (by decide) rfl ?_
            refine J_goto F (tgt := 55) dX9_orderOf_98 (by decide) ?_
            refine J_sub [2, 3, 4, 5, 6, 7, 1, 0] rfl ?_
            exact i55 _ _ h
set_option maxRecDepth 20000 in
set_option maxHeartbeats 4000000 in
theorem wk_X9_orderOf_44 {p : Program} {l : Launch} {e : Env} {s : State} {m : MethodId} {args : Array Value} {below : List Frame} {meth : Method} {c : Code} {G : Gp} {σ : St} {x1 : Int32} {x2 : Int32}  {Q : Int32 → Prop} (F : FX p s m args meth c cX9_orderOf 9 (some .int) RX9 G)   : ∀ (n9 : Nat) (x3 : Int32) (x4 : Int32) (x5 : Int32), LP3 (wp_X9_orderOf_44 σ x1 x2 Q) n9 x3 x4 x5 → J p l e (rmF 3 69) s m args below meth c 9 G (MQ below (QQ G (qI (fun r σ' => σ' = σ ∧ Q r))) args s 0 0 (fr G)) 0 0 44 [(0, .ref (gb G + 244)), (1, .int x1), (2, .int x2), (3, .int x3), (4, .int x4), (5, .int x5)] [] σ := by
  intro n9
  induction n9 with
  | zero => intro x3 x4 x5 h; exact h.elim
  | succ n9 i44 =>
    intro x3 x4 x5 h
    have h : wp_X9_orderOf_44 σ x1 x2 Q (LP3 (wp_X9_orderOf_44 σ x1 x2 Q) n9) x3 x4 x5 := h
    unfold wp_X9_orderOf_44 at h
    refine J_il F 5 dX9_orderOf_44 rfl ?_
    refine J_zle F (tgt := 157) dX9_orderOf_46 (by decide) (fun c_17 => ?_) (fun c_17 => ?_)
    · have h := h.1 c_17
      refine J_iln F 3 dX9_orderOf_157 rfl rfl ?_
      exact J_reti F ⟨_, rfl, rfl, h⟩ dX9_orderOf_158
    · have h := h.2 c_17
      refine J_ic F dX9_orderOf_49 ki_m1 ?_
      refine J_is F (L' := [(6, .int (-1)), (0, .ref (gb G + 244)), (1, .int x1), (2, .int x2), (3, .int x3), (4, .int x4), (5, .int x5)]) dX9_orderOf_50 (by decide) rfl ?_
      refine J_ic F dX9_orderOf_52 ki_0 ?_
      refine J_is F (L' := [(7, .int (nI 0)), (6, .int (-1)), (0, .ref (gb G + 244)), (1, .int x1), (2, .int x2), (3, .int x3), (4, .int x4), (5, .int x5)]) dX9_orderOf_53 (by decide) rfl ?_
      refine J_sub [2, 3, 4, 5, 6, 7, 1, 0] rfl ?_
      obtain ⟨n9, h⟩ := h
      exact wk_X9_orderOf_55 F i44 n9 _ _ h
set_option maxRecDepth 20000 in
set_option maxHeartbeats 4000000 in
theorem wk_X9_orderOf_8 {p : Program} {l : Launch} {e : Env} {s : State} {m : MethodId} {args : Array Value} {below : List Frame} {meth : Method} {c : Code} {G : Gp} {σ : St} {x1 : Int32} {x2 : Int32} {x3 : Int32}  {Q : Int32 → Prop} (F : FX p s m args meth c cX9_orderOf 9 (some .int) RX9 G)   : ∀ (n9 : Nat) (x4 : Int32) (x5 : Int32), LP2 (wp_X9_orderOf_8 σ x1 x2 x3 Q) n9 x4 x5 → J p l e (rmF 3 69) s m args below meth c 9 G (MQ below (QQ G (qI (fun r σ' => σ' = σ ∧ Q r))) args s 0 0 (fr G)) 0 0 8 [(0, .ref (gb G + 244)), (1, .int x1), (2, .int x2), (3, .int x3), (4, .int x4), (5, .int x5)] [] σ := by
  intro n9
  induction n9 with
  | zero => intro x4 x5 h; exact h.elim
  | succ n9 i8 =>
    intro x4 x5 h
    have h : wp_X9_orderOf_8 σ x1 x2 x3 Q (LP2 (wp_X9_orderOf_8 σ x1 x2 x3 Q) n9) x4 x5 := h
    unfold wp_X9_orderOf_8 at h
    refine J_il F 5 dX9_orderOf_8 rfl ?_
    refine J_aln F 0 dX9_orderOf_10 rfl rfl ?_
    refine J_gfa F (ci := 9) 1 rfl inX9 ly_244 (by decide) (by decide) rfl lf_X9_7 rfl dX9_orderOf_11 ?_
    refine J_bi F dX9_orderOf_14 kb_30 ?_
    refine J_ialdc F ly_245 (by decide) (by decide) dX9_orderOf_16 ?_
    refine J_cge F (tgt := 35) dX9_orderOf_17 (by decide) (fun c_18 => ?_) (fun c_18 => ?_)
    · have h := h.1 c_18
      refine J_aln F 0 dX9_orderOf_35 rfl rfl ?_
      refine J_gfa F (ci := 9) 1 rfl inX9 ly_244 (by decide) (by decide) rfl lf_X9_7 rfl dX9_orderOf_36 ?_
      refine J_bi F dX9_orderOf_39 kb_30 ?_
      refine J_ialdc F ly_245 (by decide) (by decide) dX9_orderOf_41 ?_
      refine J_top (fun x5_19 ex5_19 => ?_)
      have h := h x5_19 ex5_19
      refine J_is F (L' := [(5, .int x5_19), (0, .ref (gb G + 244)), (1, .int x1), (2, .int x2), (3, .int x3), (4, .int x4)]) dX9_orderOf_42 (by decide) rfl ?_
      refine J_sub [1, 2, 3, 4, 5, 0] rfl ?_
      obtain ⟨n9, h⟩ := h
      exact wk_X9_orderOf_44 F  n9 _ _ _ h
    · have h := h.2 c_18
      refine J_il F 4 dX9_orderOf_20 rfl ?_
      refine J_ic F dX9_orderOf_22 ki_1 ?_
      refine J_il F 5 dX9_orderOf_23 rfl ?_
      refine J_ishl F dX9_orderOf_25 ?_
      refine J_ior F dX9_orderOf_26 ?_
      refine J_top (fun x4_20 ex4_20 => ?_)
      have h := h x4_20 ex4_20
      refine J_is F (L' := [(4, .int x4_20), (0, .ref (gb G + 244)), (1, .int x1), (2, .int x2), (3, .int x3), (5, .int x5)]) dX9_orderOf_27 (by decide) rfl ?_
      obtain ⟨x5_21, ex5_21⟩ : ∃ z : Int32, z = x5 + (nI 1) := ⟨_, rfl⟩
      have h := h x5_21 ex5_21
      refine J_iinc F (v := x5_21) (L' := [(5, .int x5_21), (4, .int x4_20), (0, .ref (gb G + 244)), (1, .int x1), (2, .int x2), (3, .int x3)]) 5 dX9_orderOf_29 rfl (by rw [ki_1, ex5_21]) (by decide) rfl ?_
      refine J_goto F (tgt := 8) dX9_orderOf_32 (by decide) ?_
      refine J_sub [2, 3, 4, 5, 1, 0] rfl ?_
      exact i8 _ _ h
set_option maxRecDepth 20000 in
set_option maxHeartbeats 4000000 in
theorem C_X9_orderOf (l : Launch) (G : Gp) (x1 : Int32) (x2 : Int32)  {σ : St} {Q : Int32 → Prop} (h : wp_X9_orderOf σ x1 x2 Q) : Cn l yX9_orderOf cX9_orderOf 9 (some .int) 3 69 G [.ref (gb G + 244), .int x1, .int x2] σ (qI (fun r σ' => σ' = σ ∧ Q r)) := by
  refine Cn_of (L := [(0, .ref (gb G + 244)), (1, .int x1), (2, .int x2)]) RX9 (by decide) rfl (Nat.le_of_ble_eq_true rfl) rfl ?_
  intro p e s m below meth c F
  unfold wp_X9_orderOf at h
  refine J_ic F dX9_orderOf_0 ki_0 ?_
  refine J_isn F (L' := [(3, .int (nI 0)), (0, .ref (gb G + 244)), (1, .int x1), (2, .int x2)]) dX9_orderOf_1 rfl (by decide) rfl ?_
  refine J_ic F dX9_orderOf_2 ki_0 ?_
  refine J_is F (L' := [(4, .int (nI 0)), (3, .int (nI 0)), (0, .ref (gb G + 244)), (1, .int x1), (2, .int x2)]) dX9_orderOf_3 (by decide) rfl ?_
  refine J_ic F dX9_orderOf_5 ki_0 ?_
  refine J_is F (L' := [(5, .int (nI 0)), (4, .int (nI 0)), (3, .int (nI 0)), (0, .ref (gb G + 244)), (1, .int x1), (2, .int x2)]) dX9_orderOf_6 (by decide) rfl ?_
  refine J_sub [3, 4, 5, 2, 1, 0] rfl ?_
  obtain ⟨n9, h⟩ := h
  exact wk_X9_orderOf_8 F  n9 _ _ h
theorem dX9_ordersOf_0 : decode cX9_ordersOf 0 = .ok (.aload_n 0, 1) := by decide +kernel
theorem dX9_ordersOf_1 : decode cX9_ordersOf 1 = .ok (.getfield 7, 3) := by decide +kernel
theorem dX9_ordersOf_4 : decode cX9_ordersOf 4 = .ok (.bipush 30, 2) := by decide +kernel
theorem dX9_ordersOf_6 : decode cX9_ordersOf 6 = .ok (.iaload, 1) := by decide +kernel
theorem dX9_ordersOf_7 : decode cX9_ordersOf 7 = .ok (.iconst 2, 1) := by decide +kernel
theorem dX9_ordersOf_8 : decode cX9_ordersOf 8 = .ok (.if_icmp .ge 7, 3) := by decide +kernel
theorem dX9_ordersOf_11 : decode cX9_ordersOf 11 = .ok (.iconst 1, 1) := by decide +kernel
theorem dX9_ordersOf_12 : decode cX9_ordersOf 12 = .ok (.goto 20, 3) := by decide +kernel
theorem dX9_ordersOf_15 : decode cX9_ordersOf 15 = .ok (.aload_n 0, 1) := by decide +kernel
theorem dX9_ordersOf_16 : decode cX9_ordersOf 16 = .ok (.getfield 7, 3) := by decide +kernel
theorem dX9_ordersOf_19 : decode cX9_ordersOf 19 = .ok (.bipush 30, 2) := by decide +kernel
theorem dX9_ordersOf_21 : decode cX9_ordersOf 21 = .ok (.iaload, 1) := by decide +kernel
theorem dX9_ordersOf_22 : decode cX9_ordersOf 22 = .ok (.iconst 2, 1) := by decide +kernel
theorem dX9_ordersOf_23 : decode cX9_ordersOf 23 = .ok (.if_icmp .ne 7, 3) := by decide +kernel
theorem dX9_ordersOf_26 : decode cX9_ordersOf 26 = .ok (.iconst 2, 1) := by decide +kernel
theorem dX9_ordersOf_27 : decode cX9_ordersOf 27 = .ok (.goto 5, 3) := by decide +kernel
theorem dX9_ordersOf_30 : decode cX9_ordersOf 30 = .ok (.bipush 6, 2) := by decide +kernel
theorem dX9_ordersOf_32 : decode cX9_ordersOf 32 = .ok (.ireturn, 1) := by decide +kernel
set_option maxRecDepth 20000 in
set_option maxHeartbeats 4000000 in
theorem C_X9_ordersOf (l : Launch) (G : Gp)   {σ : St} {Q : Int32 → Prop} (h : wp_X9_ordersOf σ  Q) : Cn l yX9_ordersOf cX9_ordersOf 1 (some .int) 0 0 G [.ref (gb G + 244)] σ (qI (fun r σ' => σ' = σ ∧ Q r)) := by
  refine Cn_of (L := [(0, .ref (gb G + 244))]) RX9 (by decide) rfl (Nat.le_of_ble_eq_true rfl) rfl ?_
  intro p e s m below meth c F
  unfold wp_X9_ordersOf at h
  refine J_aln F 0 dX9_ordersOf_0 rfl rfl ?_
  refine J_gfa F (ci := 9) 1 rfl inX9 ly_244 (by decide) (by decide) rfl lf_X9_7 rfl dX9_ordersOf_1 ?_
  refine J_bi F dX9_ordersOf_4 kb_30 ?_
  refine J_ialdc F ly_245 (by decide) (by decide) dX9_ordersOf_6 ?_
  refine J_ic F dX9_ordersOf_7 ki_2 ?_
  refine J_cge F (tgt := 15) dX9_ordersOf_8 (by decide) (fun c_1 => ?_) (fun c_1 => ?_)
  · have h := h.1 c_1
    refine J_aln F 0 dX9_ordersOf_15 rfl rfl ?_
    refine J_gfa F (ci := 9) 1 rfl inX9 ly_244 (by decide) (by decide) rfl lf_X9_7 rfl dX9_ordersOf_16 ?_
    refine J_bi F dX9_ordersOf_19 kb_30 ?_
    refine J_ialdc F ly_245 (by decide) (by decide) dX9_ordersOf_21 ?_
    refine J_ic F dX9_ordersOf_22 ki_2 ?_
    refine J_cne F (tgt := 30) dX9_ordersOf_23 (by decide) (fun c_2 => ?_) (fun c_2 => ?_)
    · have h := h.1 c_2
      refine J_bi F dX9_ordersOf_30 kb_6 ?_
      exact J_reti F ⟨_, rfl, rfl, h⟩ dX9_ordersOf_32
    · have h := h.2 c_2
      refine J_ic F dX9_ordersOf_26 ki_2 ?_
      refine J_goto F (tgt := 32) dX9_ordersOf_27 (by decide) ?_
      exact J_reti F ⟨_, rfl, rfl, h⟩ dX9_ordersOf_32
  · have h := h.2 c_1
    refine J_ic F dX9_ordersOf_11 ki_1 ?_
    refine J_goto F (tgt := 32) dX9_ordersOf_12 (by decide) ?_
    exact J_reti F ⟨_, rfl, rfl, h⟩ dX9_ordersOf_32
theorem dX9_near0_0 : decode cX9_near0 0 = .ok (.aload_n 0, 1) := by decide +kernel
theorem dX9_near0_1 : decode cX9_near0 1 = .ok (.iload_n 1, 1) := by decide +kernel
theorem dX9_near0_2 : decode cX9_near0 2 = .ok (.iload_n 2, 1) := by decide +kernel
theorem dX9_near0_3 : decode cX9_near0 3 = .ok (.bipush 32, 2) := by decide +kernel
theorem dX9_near0_5 : decode cX9_near0 5 = .ok (.aload_n 0, 1) := by decide +kernel
theorem dX9_near0_6 : decode cX9_near0 6 = .ok (.invokevirtual 189, 3) := by decide +kernel
theorem dX9_near0_9 : decode cX9_near0 9 = .ok (.idiv, 1) := by decide +kernel
theorem dX9_near0_10 : decode cX9_near0 10 = .ok (.aload_n 0, 1) := by decide +kernel
theorem dX9_near0_11 : decode cX9_near0 11 = .ok (.iload_n 1, 1) := by decide +kernel
theorem dX9_near0_12 : decode cX9_near0 12 = .ok (.iload_n 2, 1) := by decide +kernel
theorem dX9_near0_13 : decode cX9_near0 13 = .ok (.invokevirtual 193, 3) := by decide +kernel
theorem dX9_near0_16 : decode cX9_near0 16 = .ok (.imul, 1) := by decide +kernel
theorem dX9_near0_17 : decode cX9_near0 17 = .ok (.iload_n 1, 1) := by decide +kernel
theorem dX9_near0_18 : decode cX9_near0 18 = .ok (.iload_n 2, 1) := by decide +kernel
theorem dX9_near0_19 : decode cX9_near0 19 = .ok (.iadd, 1) := by decide +kernel
theorem dX9_near0_20 : decode cX9_near0 20 = .ok (.bipush 32, 2) := by decide +kernel
theorem dX9_near0_22 : decode cX9_near0 22 = .ok (.irem, 1) := by decide +kernel
theorem dX9_near0_23 : decode cX9_near0 23 = .ok (.invokevirtual 196, 3) := by decide +kernel
theorem dX9_near0_26 : decode cX9_near0 26 = .ok (.ireturn, 1) := by decide +kernel
set_option maxRecDepth 20000 in
set_option maxHeartbeats 4000000 in
theorem C_X9_near0 (l : Launch) (G : Gp) (x1 : Int32) (x2 : Int32)  {σ : St} {Q : Int32 → St → Prop} (h : wp_X9_near0 σ x1 x2 Q) : Cn l yX9_near0 cX9_near0 3 (some .int) 6 145 G [.ref (gb G + 244), .int x1, .int x2] σ (qI Q) := by
  refine Cn_of (L := [(0, .ref (gb G + 244)), (1, .int x1), (2, .int x2)]) RX9 (by decide) rfl (Nat.le_of_ble_eq_true rfl) rfl ?_
  intro p e s m below meth c F
  unfold wp_X9_near0 at h
  refine J_aln F 0 dX9_near0_0 rfl rfl ?_
  refine J_iln F 1 dX9_near0_1 rfl rfl ?_
  refine J_iln F 2 dX9_near0_2 rfl rfl ?_
  refine J_bi F dX9_near0_3 kb_32 ?_
  refine J_aln F 0 dX9_near0_5 rfl rfl ?_
  refine J_callVi F (As := []) (st := [.int (nI 32), .int x2, .int x1, .ref (gb G + 244)]) (C_X9_ordersOf l G   h) (ci := 9) ly_244 (by decide) rfl rfl lm_X9_189 li_X9_ordersOf ls_X9_ordersOf ini_X9 lc_X9_ordersOf hd_X9_ordersOf (by decide) (Nat.le_of_ble_eq_true rfl) (by decide) rfl dX9_near0_6 (fun r_1 σ_2 hh => ?_)
  clear h
  obtain ⟨e9, h⟩ := hh
  subst σ_2
  obtain ⟨h_3, h⟩ := h
  refine J_idiv F dX9_near0_9 h_3 ?_
  refine J_aln F 0 dX9_near0_10 rfl rfl ?_
  refine J_iln F 1 dX9_near0_11 rfl rfl ?_
  refine J_iln F 2 dX9_near0_12 rfl rfl ?_
  refine J_callVi F (As := [.int x1, .int x2]) (st := [.int ((nI 32) / r_1), .int x2, .int x1, .ref (gb G + 244)]) (C_X9_orderOf l G x1 x2  h) (ci := 9) ly_244 (by decide) rfl rfl lm_X9_193 li_X9_orderOf ls_X9_orderOf ini_X9 lc_X9_orderOf hd_X9_orderOf (by decide) (Nat.le_of_ble_eq_true rfl) (by decide) rfl dX9_near0_13 (fun r_4 σ_5 hh => ?_)
  clear h
  obtain ⟨e9, h⟩ := hh
  subst σ_5
  refine J_imul F dX9_near0_16 ?_
  refine J_iln F 1 dX9_near0_17 rfl rfl ?_
  refine J_iln F 2 dX9_near0_18 rfl rfl ?_
  refine J_iadd F dX9_near0_19 ?_
  refine J_bi F dX9_near0_20 kb_32 ?_
  refine J_irem F dX9_near0_22 nz_32 ?_
  refine J_callVi F (As := [.int x1, .int x2, .int (((nI 32) / r_1) * r_4), .int ((x1 + x2) - (x1 + x2) / (nI 32) * (nI 32))]) (st := []) (C_X9_join0 l G x1 x2 (((nI 32) / r_1) * r_4) ((x1 + x2) - (x1 + x2) / (nI 32) * (nI 32))  h) (ci := 9) ly_244 (by decide) rfl rfl lm_X9_196 li_X9_join0 ls_X9_join0 ini_X9 lc_X9_join0 hd_X9_join0 (by decide) (Nat.le_of_ble_eq_true rfl) (by decide) rfl dX9_near0_23 (fun r_6 σ_7 h => ?_)
  exact J_reti F ⟨_, rfl, h⟩ dX9_near0_26
theorem dX9_hasOther_0 : decode cX9_hasOther 0 = .ok (.aload_n 0, 1) := by decide +kernel
theorem dX9_hasOther_1 : decode cX9_hasOther 1 = .ok (.iload_n 2, 1) := by decide +kernel
theorem dX9_hasOther_2 : decode cX9_hasOther 2 = .ok (.invokevirtual 135, 3) := by decide +kernel
theorem dX9_hasOther_5 : decode cX9_hasOther 5 = .ok (.iconst 1, 1) := by decide +kernel
theorem dX9_hasOther_6 : decode cX9_hasOther 6 = .ok (.iload_n 1, 1) := by decide +kernel
theorem dX9_hasOther_7 : decode cX9_hasOther 7 = .ok (.ishl, 1) := by decide +kernel
theorem dX9_hasOther_8 : decode cX9_hasOther 8 = .ok (.iconst (-1), 1) := by decide +kernel
theorem dX9_hasOther_9 : decode cX9_hasOther 9 = .ok (.ixor, 1) := by decide +kernel
theorem dX9_hasOther_10 : decode cX9_hasOther 10 = .ok (.iand, 1) := by decide +kernel
theorem dX9_hasOther_11 : decode cX9_hasOther 11 = .ok (.ifCond .eq 7, 3) := by decide +kernel
theorem dX9_hasOther_14 : decode cX9_hasOther 14 = .ok (.iconst 1, 1) := by decide +kernel
theorem dX9_hasOther_15 : decode cX9_hasOther 15 = .ok (.goto 4, 3) := by decide +kernel
theorem dX9_hasOther_18 : decode cX9_hasOther 18 = .ok (.iconst 0, 1) := by decide +kernel
theorem dX9_hasOther_19 : decode cX9_hasOther 19 = .ok (.ireturn, 1) := by decide +kernel
set_option maxRecDepth 20000 in
set_option maxHeartbeats 4000000 in
theorem C_X9_hasOther (l : Launch) (G : Gp) (x1 : Int32) (x2 : Int32)  {σ : St} {Q : Int32 → Prop} (h : wp_X9_hasOther σ x1 x2 Q) : Cn l yX9_hasOther cX9_hasOther 3 (some .boolean) 2 45 G [.ref (gb G + 244), .int x1, .int x2] σ (qI (fun r σ' => σ' = σ ∧ Q r)) := by
  refine Cn_of (L := [(0, .ref (gb G + 244)), (1, .int x1), (2, .int x2)]) RX9 (by decide) rfl (Nat.le_of_ble_eq_true rfl) rfl ?_
  intro p e s m below meth c F
  unfold wp_X9_hasOther at h
  refine J_aln F 0 dX9_hasOther_0 rfl rfl ?_
  refine J_iln F 2 dX9_hasOther_1 rfl rfl ?_
  refine J_callVi F (As := [.int x2]) (st := []) (C_X9_bitsOf l G x2  h) (ci := 9) ly_244 (by decide) rfl rfl lm_X9_135 li_X9_bitsOf ls_X9_bitsOf ini_X9 lc_X9_bitsOf hd_X9_bitsOf (by decide) (Nat.le_of_ble_eq_true rfl) (by decide) rfl dX9_hasOther_2 (fun r_1 σ_2 hh => ?_)
  clear h
  obtain ⟨e9, h⟩ := hh
  subst σ_2
  refine J_ic F dX9_hasOther_5 ki_1 ?_
  refine J_iln F 1 dX9_hasOther_6 rfl rfl ?_
  refine J_ishl F dX9_hasOther_7 ?_
  refine J_ic F dX9_hasOther_8 ki_m1 ?_
  refine J_ixor F dX9_hasOther_9 ?_
  refine J_iand F dX9_hasOther_10 ?_
  refine J_zeq F (tgt := 18) dX9_hasOther_11 (by decide) (fun c_3 => ?_) (fun c_3 => ?_)
  · have h := h.1 c_3
    refine J_ic F dX9_hasOther_18 ki_0 ?_
    exact J_retz F (Or.inl rfl) ⟨_, rfl, rfl, h⟩ dX9_hasOther_19
  · have h := h.2 c_3
    refine J_ic F dX9_hasOther_14 ki_1 ?_
    refine J_goto F (tgt := 19) dX9_hasOther_15 (by decide) ?_
    exact J_retz F (Or.inr rfl) ⟨_, rfl, rfl, h⟩ dX9_hasOther_19
theorem dX9_leave0_0 : decode cX9_leave0 0 = .ok (.aload_n 0, 1) := by decide +kernel
theorem dX9_leave0_1 : decode cX9_leave0 1 = .ok (.iload_n 1, 1) := by decide +kernel
theorem dX9_leave0_2 : decode cX9_leave0 2 = .ok (.iconst 1, 1) := by decide +kernel
theorem dX9_leave0_3 : decode cX9_leave0 3 = .ok (.invokevirtual 57, 3) := by decide +kernel
theorem dX9_leave0_6 : decode cX9_leave0 6 = .ok (.ifCond .ne 5, 3) := by decide +kernel
theorem dX9_leave0_9 : decode cX9_leave0 9 = .ok (.iconst 4, 1) := by decide +kernel
theorem dX9_leave0_10 : decode cX9_leave0 10 = .ok (.ireturn, 1) := by decide +kernel
theorem dX9_leave0_11 : decode cX9_leave0 11 = .ok (.aload_n 0, 1) := by decide +kernel
theorem dX9_leave0_12 : decode cX9_leave0 12 = .ok (.iload_n 1, 1) := by decide +kernel
theorem dX9_leave0_13 : decode cX9_leave0 13 = .ok (.iconst 1, 1) := by decide +kernel
theorem dX9_leave0_14 : decode cX9_leave0 14 = .ok (.invokevirtual 200, 3) := by decide +kernel
theorem dX9_leave0_17 : decode cX9_leave0 17 = .ok (.ifCond .ne 15, 3) := by decide +kernel
theorem dX9_leave0_20 : decode cX9_leave0 20 = .ok (.aload_n 0, 1) := by decide +kernel
theorem dX9_leave0_21 : decode cX9_leave0 21 = .ok (.iload_n 1, 1) := by decide +kernel
theorem dX9_leave0_22 : decode cX9_leave0 22 = .ok (.iconst 2, 1) := by decide +kernel
theorem dX9_leave0_23 : decode cX9_leave0 23 = .ok (.invokevirtual 200, 3) := by decide +kernel
theorem dX9_leave0_26 : decode cX9_leave0 26 = .ok (.ifCond .eq 6, 3) := by decide +kernel
theorem dX9_leave0_29 : decode cX9_leave0 29 = .ok (.bipush 6, 2) := by decide +kernel
theorem dX9_leave0_31 : decode cX9_leave0 31 = .ok (.ireturn, 1) := by decide +kernel
theorem dX9_leave0_32 : decode cX9_leave0 32 = .ok (.aload_n 0, 1) := by decide +kernel
theorem dX9_leave0_33 : decode cX9_leave0 33 = .ok (.iload_n 1, 1) := by decide +kernel
theorem dX9_leave0_34 : decode cX9_leave0 34 = .ok (.invokevirtual 203, 3) := by decide +kernel
theorem dX9_leave0_37 : decode cX9_leave0 37 = .ok (.iconst 0, 1) := by decide +kernel
theorem dX9_leave0_38 : decode cX9_leave0 38 = .ok (.ireturn, 1) := by decide +kernel
set_option maxRecDepth 20000 in
set_option maxHeartbeats 4000000 in
theorem wk_X9_leave0_32 {p : Program} {l : Launch} {e : Env} {s : State} {m : MethodId} {args : Array Value} {below : List Frame} {meth : Method} {c : Code} {G : Gp} {σ : St} {x1 : Int32}  {Q : Int32 → St → Prop} (F : FX p s m args meth c cX9_leave0 2 (some .int) RX9 G)   (h : wp_X9_leave0_32 σ x1 Q) : J p l e (rmF 6 143) s m args below meth c 2 G (MQ below (QQ G (qI Q)) args s 0 0 (fr G)) 0 0 32 [(0, .ref (gb G + 244)), (1, .int x1)] [] σ := by
  unfold wp_X9_leave0_32 at h
  refine J_aln F 0 dX9_leave0_32 rfl rfl ?_
  refine J_iln F 1 dX9_leave0_33 rfl rfl ?_
  refine J_callVv F (As := [.int x1]) (st := []) (C_X9_goesAway l G x1  h) (ci := 9) ly_244 (by decide) rfl rfl lm_X9_203 li_X9_goesAway ls_X9_goesAway ini_X9 lc_X9_goesAway hd_X9_goesAway (by decide) (Nat.le_of_ble_eq_true rfl) (by decide) rfl dX9_leave0_34 (fun σ_1 h => ?_)
  refine J_ic F dX9_leave0_37 ki_0 ?_
  exact J_reti F ⟨_, rfl, h⟩ dX9_leave0_38
set_option maxRecDepth 20000 in
set_option maxHeartbeats 4000000 in
theorem C_X9_leave0 (l : Launch) (G : Gp) (x1 : Int32)  {σ : St} {Q : Int32 → St → Prop} (h : wp_X9_leave0 σ x1 Q) : Cn l yX9_leave0 cX9_leave0 2 (some .int) 6 143 G [.ref (gb G + 244), .int x1] σ (qI Q) := by
  refine Cn_of (L := [(0, .ref (gb G + 244)), (1, .int x1)]) RX9 (by decide) rfl (Nat.le_of_ble_eq_true rfl) rfl ?_
  intro p e s m below meth c F
  unfold wp_X9_leave0 at h
  refine J_aln F 0 dX9_leave0_0 rfl rfl ?_
  refine J_iln F 1 dX9_leave0_1 rfl rfl ?_
  refine J_ic F dX9_leave0_2 ki_1 ?_
  refine J_callVi F (As := [.int x1, .int (nI 1)]) (st := []) (C_X9_isState l G x1 (nI 1)  h) (ci := 9) ly_244 (by decide) rfl rfl lm_X9_57 li_X9_isState ls_X9_isState ini_X9 lc_X9_isState hd_X9_isState (by decide) (Nat.le_of_ble_eq_true rfl) (by decide) rfl dX9_leave0_3 (fun r_2 σ_3 hh => ?_)
  clear h
  obtain ⟨e9, h⟩ := hh
  subst σ_3
  refine J_zne F (tgt := 11) dX9_leave0_6 (by decide) (fun c_4 => ?_) (fun c_4 => ?_)
  · have h := h.1 c_4
    refine J_aln F 0 dX9_leave0_11 rfl rfl ?_
    refine J_iln F 1 dX9_leave0_12 rfl rfl ?_
    refine J_ic F dX9_leave0_13 ki_1 ?_
    refine J_callVi F (As := [.int x1, .int (nI 1)]) (st := []) (C_X9_hasOther l G x1 (nI 1)  h) (ci := 9) ly_244 (by decide) rfl rfl lm_X9_200 li_X9_hasOther ls_X9_hasOther ini_X9 lc_X9_hasOther hd_X9_hasOther (by decide) (Nat.le_of_ble_eq_true rfl) (by decide) rfl dX9_leave0_14 (fun r_5 σ_6 hh => ?_)
    clear h
    obtain ⟨e9, h⟩ := hh
    subst σ_6
    refine J_zne F (tgt := 32) dX9_leave0_17 (by decide) (fun c_7 => ?_) (fun c_7 => ?_)
    · have h := h.1 c_7
      exact wk_X9_leave0_32 F  h
    · have h := h.2 c_7
      refine J_aln F 0 dX9_leave0_20 rfl rfl ?_
      refine J_iln F 1 dX9_leave0_21 rfl rfl ?_
      refine J_ic F dX9_leave0_22 ki_2 ?_
      refine J_callVi F (As := [.int x1, .int (nI 2)]) (st := []) (C_X9_hasOther l G x1 (nI 2)  h) (ci := 9) ly_244 (by decide) rfl rfl lm_X9_200 li_X9_hasOther ls_X9_hasOther ini_X9 lc_X9_hasOther hd_X9_hasOther (by decide) (Nat.le_of_ble_eq_true rfl) (by decide) rfl dX9_leave0_23 (fun r_8 σ_9 hh => ?_)
      clear h
      obtain ⟨e9, h⟩ := hh
      subst σ_9
      refine J_zeq F (tgt := 32) dX9_leave0_26 (by decide) (fun c_10 => ?_) (fun c_10 => ?_)
      · have h := h.1 c_10
        exact wk_X9_leave0_32 F  h
      · have h := h.2 c_10
        refine J_bi F dX9_leave0_29 kb_6 ?_
        exact J_reti F ⟨_, rfl, h⟩ dX9_leave0_31
  · have h := h.2 c_4
    refine J_ic F dX9_leave0_9 ki_4 ?_
    exact J_reti F ⟨_, rfl, h⟩ dX9_leave0_10
theorem dX9_crash0_0 : decode cX9_crash0 0 = .ok (.aload_n 0, 1) := by decide +kernel
theorem dX9_crash0_1 : decode cX9_crash0 1 = .ok (.iload_n 1, 1) := by decide +kernel
theorem dX9_crash0_2 : decode cX9_crash0 2 = .ok (.iconst 1, 1) := by decide +kernel
theorem dX9_crash0_3 : decode cX9_crash0 3 = .ok (.invokevirtual 57, 3) := by decide +kernel
theorem dX9_crash0_6 : decode cX9_crash0 6 = .ok (.ifCond .ne 5, 3) := by decide +kernel
theorem dX9_crash0_9 : decode cX9_crash0 9 = .ok (.iconst 4, 1) := by decide +kernel
theorem dX9_crash0_10 : decode cX9_crash0 10 = .ok (.ireturn, 1) := by decide +kernel
theorem dX9_crash0_11 : decode cX9_crash0 11 = .ok (.aload_n 0, 1) := by decide +kernel
theorem dX9_crash0_12 : decode cX9_crash0 12 = .ok (.getfield 7, 3) := by decide +kernel
theorem dX9_crash0_15 : decode cX9_crash0 15 = .ok (.iconst 0, 1) := by decide +kernel
theorem dX9_crash0_16 : decode cX9_crash0 16 = .ok (.iload_n 1, 1) := by decide +kernel
theorem dX9_crash0_17 : decode cX9_crash0 17 = .ok (.iadd, 1) := by decide +kernel
theorem dX9_crash0_18 : decode cX9_crash0 18 = .ok (.iconst 2, 1) := by decide +kernel
theorem dX9_crash0_19 : decode cX9_crash0 19 = .ok (.iastore, 1) := by decide +kernel
theorem dX9_crash0_20 : decode cX9_crash0 20 = .ok (.iconst 0, 1) := by decide +kernel
theorem dX9_crash0_21 : decode cX9_crash0 21 = .ok (.istore_n 2, 1) := by decide +kernel
theorem dX9_crash0_22 : decode cX9_crash0 22 = .ok (.iload_n 2, 1) := by decide +kernel
theorem dX9_crash0_23 : decode cX9_crash0 23 = .ok (.bipush 100, 2) := by decide +kernel
theorem dX9_crash0_25 : decode cX9_crash0 25 = .ok (.if_icmp .ge 63, 3) := by decide +kernel
theorem dX9_crash0_28 : decode cX9_crash0 28 = .ok (.iconst 0, 1) := by decide +kernel
theorem dX9_crash0_29 : decode cX9_crash0 29 = .ok (.istore_n 3, 1) := by decide +kernel
theorem dX9_crash0_30 : decode cX9_crash0 30 = .ok (.iload_n 3, 1) := by decide +kernel
theorem dX9_crash0_31 : decode cX9_crash0 31 = .ok (.aload_n 0, 1) := by decide +kernel
theorem dX9_crash0_32 : decode cX9_crash0 32 = .ok (.getfield 7, 3) := by decide +kernel
theorem dX9_crash0_35 : decode cX9_crash0 35 = .ok (.bipush 37, 2) := by decide +kernel
theorem dX9_crash0_37 : decode cX9_crash0 37 = .ok (.iaload, 1) := by decide +kernel
theorem dX9_crash0_38 : decode cX9_crash0 38 = .ok (.if_icmp .ge 44, 3) := by decide +kernel
theorem dX9_crash0_41 : decode cX9_crash0 41 = .ok (.aload_n 0, 1) := by decide +kernel
theorem dX9_crash0_42 : decode cX9_crash0 42 = .ok (.iload_n 2, 1) := by decide +kernel
theorem dX9_crash0_43 : decode cX9_crash0 43 = .ok (.iload_n 3, 1) := by decide +kernel
theorem dX9_crash0_44 : decode cX9_crash0 44 = .ok (.invokevirtual 165, 3) := by decide +kernel
theorem dX9_crash0_47 : decode cX9_crash0 47 = .ok (.ifCond .eq 29, 3) := by decide +kernel
theorem dX9_crash0_50 : decode cX9_crash0 50 = .ok (.aload_n 0, 1) := by decide +kernel
theorem dX9_crash0_51 : decode cX9_crash0 51 = .ok (.iload_n 2, 1) := by decide +kernel
theorem dX9_crash0_52 : decode cX9_crash0 52 = .ok (.iload_n 3, 1) := by decide +kernel
theorem dX9_crash0_53 : decode cX9_crash0 53 = .ok (.invokevirtual 168, 3) := by decide +kernel
theorem dX9_crash0_56 : decode cX9_crash0 56 = .ok (.iload_n 1, 1) := by decide +kernel
theorem dX9_crash0_57 : decode cX9_crash0 57 = .ok (.if_icmp .ne 19, 3) := by decide +kernel
theorem dX9_crash0_60 : decode cX9_crash0 60 = .ok (.aload_n 0, 1) := by decide +kernel
theorem dX9_crash0_61 : decode cX9_crash0 61 = .ok (.getfield 7, 3) := by decide +kernel
theorem dX9_crash0_64 : decode cX9_crash0 64 = .ok (.sipush 238, 3) := by decide +kernel
theorem dX9_crash0_67 : decode cX9_crash0 67 = .ok (.bipush 100, 2) := by decide +kernel
theorem dX9_crash0_69 : decode cX9_crash0 69 = .ok (.iload_n 3, 1) := by decide +kernel
theorem dX9_crash0_70 : decode cX9_crash0 70 = .ok (.imul, 1) := by decide +kernel
theorem dX9_crash0_71 : decode cX9_crash0 71 = .ok (.iadd, 1) := by decide +kernel
theorem dX9_crash0_72 : decode cX9_crash0 72 = .ok (.iload_n 2, 1) := by decide +kernel
theorem dX9_crash0_73 : decode cX9_crash0 73 = .ok (.iadd, 1) := by decide +kernel
theorem dX9_crash0_74 : decode cX9_crash0 74 = .ok (.iconst 0, 1) := by decide +kernel
theorem dX9_crash0_75 : decode cX9_crash0 75 = .ok (.iastore, 1) := by decide +kernel
theorem dX9_crash0_76 : decode cX9_crash0 76 = .ok (.iinc 3 1, 3) := by decide +kernel
theorem dX9_crash0_79 : decode cX9_crash0 79 = .ok (.goto (-49), 3) := by decide +kernel
theorem dX9_crash0_82 : decode cX9_crash0 82 = .ok (.iinc 2 1, 3) := by decide +kernel
theorem dX9_crash0_85 : decode cX9_crash0 85 = .ok (.goto (-63), 3) := by decide +kernel
theorem dX9_crash0_88 : decode cX9_crash0 88 = .ok (.iconst 0, 1) := by decide +kernel
theorem dX9_crash0_89 : decode cX9_crash0 89 = .ok (.ireturn, 1) := by decide +kernel
set_option maxRecDepth 20000 in
set_option maxHeartbeats 4000000 in
theorem wk_X9_crash0_30 {p : Program} {l : Launch} {e : Env} {s : State} {m : MethodId} {args : Array Value} {below : List Frame} {meth : Method} {c : Code} {G : Gp} {x1 : Int32} {x2 : Int32} {ih22 : St → Int32 → Prop} {Q : Int32 → St → Prop} (F : FX p s m args meth c cX9_crash0 4 (some .int) RX9 G)  (i22 : ∀ (σ : St) (x2 : Int32), ih22 σ x2 → J p l e (rmF 6 137) s m args below meth c 4 G (MQ below (QQ G (qI Q)) args s 0 0 (fr G)) 0 0 22 [(0, .ref (gb G + 244)), (1, .int x1), (2, .int x2)] [] σ) : ∀ (n9 : Nat) (σ : St) (x3 : Int32), LP2 (wp_X9_crash0_30 x1 x2 ih22 Q) n9 σ x3 → J p l e (rmF 6 137) s m args below meth c 4 G (MQ below (QQ G (qI Q)) args s 0 0 (fr G)) 0 0 30 [(0, .ref (gb G + 244)), (1, .int x1), (2, .int x2), (3, .int x3)] [] σ := by
  intro n9
  induction n9 with
  | zero => intro σ x3 h; exact h.elim
  | succ n9 i30 =>
    intro σ x3 h
    have h : wp_X9_crash0_30 x1 x2 ih22 Q (LP2 (wp_X9_crash0_30 x1 x2 ih22 Q) n9) σ x3 := h
    unfold wp_X9_crash0_30 at h
    refine J_iln F 3 dX9_crash0_30 rfl rfl ?_
    refine J_aln F 0 dX9_crash0_31 rfl rfl ?_
    refine J_gfa F (ci := 9) 1 rfl inX9 ly_244 (by decide) (by decide) rfl lf_X9_7 rfl dX9_crash0_32 ?_
    refine J_bi F dX9_crash0_35 kb_37 ?_
    refine J_ialdc F ly_245 (by decide) (by decide) dX9_crash0_37 ?_
    refine J_cge F (tgt := 82) dX9_crash0_38 (by decide) (fun c_1 => ?_) (fun c_1 => ?_)
    · have h := h.1 c_1
      obtain ⟨x2_2, ex2_2⟩ : ∃ z : Int32, z = x2 + (nI 1) := ⟨_, rfl⟩
      have h := h x2_2 ex2_2
      refine J_iinc F (v := x2_2) (L' := [(2, .int x2_2), (0, .ref (gb G + 244)), (1, .int x1), (3, .int x3)]) 2 dX9_crash0_82 rfl (by rw [ki_1, ex2_2]) (by decide) rfl ?_
      refine J_goto F (tgt := 22) dX9_crash0_85 (by decide) ?_
      refine J_sub [1, 2, 0] rfl ?_
      exact i22 _ _ h
    · have h := h.2 c_1
      refine J_aln F 0 dX9_crash0_41 rfl rfl ?_
      refine J_iln F 2 dX9_crash0_42 rfl rfl ?_
      refine J_iln F 3 dX9_crash0_43 rfl rfl ?_
      refine J_callVi F (As := [.int x2, .int x3]) (st := []) (C_X9_isHeld l G x2 x3  h) (ci := 9) ly_244 (by decide) rfl rfl lm_X9_165 li_X9_isHeld ls_X9_isHeld ini_X9 lc_X9_isHeld hd_X9_isHeld (by decide) (Nat.le_of_ble_eq_true rfl) (by decide) rfl dX9_crash0_44 (fun r_3 σ_4 hh => ?_)
      clear h
      obtain ⟨e9, h⟩ := hh
      subst σ_4
      refine J_zeq F (tgt := 76) dX9_crash0_47 (by decide) (fun c_5 => ?_) (fun c_5 => ?_)
      · have h := h.1 c_5
        obtain ⟨x3_6, ex3_6⟩ : ∃ z : Int32, z = x3 + (nI 1) := ⟨_, rfl⟩
        have h := h x3_6 ex3_6
        refine J_iinc F (v := x3_6) (L' := [(3, .int x3_6), (0, .ref (gb G + 244)), (1, .int x1), (2, .int x2)]) 3 dX9_crash0_76 rfl (by rw [ki_1, ex3_6]) (by decide) rfl ?_
        refine J_goto F (tgt := 30) dX9_crash0_79 (by decide) ?_
        refine J_sub [1, 2, 3, 0] rfl ?_
        exact i30 _ _ h
      · have h := h.2 c_5
        refine J_aln F 0 dX9_crash0_50 rfl rfl ?_
        refine J_iln F 2 dX9_crash0_51 rfl rfl ?_
        refine J_iln F 3 dX9_crash0_52 rfl rfl ?_
        refine J_callVi F (As := [.int x2, .int x3]) (st := []) (C_X9_keeperOf l G x2 x3  h) (ci := 9) ly_244 (by decide) rfl rfl lm_X9_168 li_X9_keeperOf ls_X9_keeperOf ini_X9 lc_X9_keeperOf hd_X9_keeperOf (by decide) (Nat.le_of_ble_eq_true rfl) (by decide) rfl dX9_crash0_53 (fun r_7 σ_8 h => ?_)
        refine J_iln F 1 dX9_crash0_56 rfl rfl ?_
        refine J_cne F (tgt := 76) dX9_crash0_57 (by decide) (fun c_9 => ?_) (fun c_9 => ?_)
        · have h := h.1 c_9
          obtain ⟨x3_10, ex3_10⟩ : ∃ z : Int32, z = x3 + (nI 1) := ⟨_, rfl⟩
          have h := h x3_10 ex3_10
          refine J_iinc F (v := x3_10) (L' := [(3, .int x3_10), (0, .ref (gb G + 244)), (1, .int x1), (2, .int x2)]) 3 dX9_crash0_76 rfl (by rw [ki_1, ex3_10]) (by decide) rfl ?_
          refine J_goto F (tgt := 30) dX9_crash0_79 (by decide) ?_
          refine J_sub [1, 2, 3, 0] rfl ?_
          exact i30 _ _ h
        · have h := h.2 c_9
          refine J_aln F 0 dX9_crash0_60 rfl rfl ?_
          refine J_gfa F (ci := 9) 1 rfl inX9 ly_244 (by decide) (by decide) rfl lf_X9_7 rfl dX9_crash0_61 ?_
          refine J_si F dX9_crash0_64 ks_238 ?_
          refine J_bi F dX9_crash0_67 kb_100 ?_
          refine J_iln F 3 dX9_crash0_69 rfl rfl ?_
          refine J_imul F dX9_crash0_70 ?_
          refine J_iadd F dX9_crash0_71 ?_
          refine J_iln F 2 dX9_crash0_72 rfl rfl ?_
          refine J_iadd F dX9_crash0_73 ?_
          refine J_ic F dX9_crash0_74 ki_0 ?_
          obtain ⟨h_11, h⟩ := h
          refine J_iast F ly_245 h_11 dX9_crash0_75 ?_
          refine J_st (fun σ_12 eσ_12 => ?_)
          have h := h σ_12 eσ_12
          obtain ⟨x3_13, ex3_13⟩ : ∃ z : Int32, z = x3 + (nI 1) := ⟨_, rfl⟩
          have h := h x3_13 ex3_13
          refine J_iinc F (v := x3_13) (L' := [(3, .int x3_13), (0, .ref (gb G + 244)), (1, .int x1), (2, .int x2)]) 3 dX9_crash0_76 rfl (by rw [ki_1, ex3_13]) (by decide) rfl ?_
          refine J_goto F (tgt := 30) dX9_crash0_79 (by decide) ?_
          refine J_sub [1, 2, 3, 0] rfl ?_
          exact i30 _ _ h
set_option maxRecDepth 20000 in
set_option maxHeartbeats 4000000 in
theorem wk_X9_crash0_22 {p : Program} {l : Launch} {e : Env} {s : State} {m : MethodId} {args : Array Value} {below : List Frame} {meth : Method} {c : Code} {G : Gp} {x1 : Int32}  {Q : Int32 → St → Prop} (F : FX p s m args meth c cX9_crash0 4 (some .int) RX9 G)   : ∀ (n9 : Nat) (σ : St) (x2 : Int32), LP2 (wp_X9_crash0_22 x1 Q) n9 σ x2 → J p l e (rmF 6 137) s m args below meth c 4 G (MQ below (QQ G (qI Q)) args s 0 0 (fr G)) 0 0 22 [(0, .ref (gb G + 244)), (1, .int x1), (2, .int x2)] [] σ := by
  intro n9
  induction n9 with
  | zero => intro σ x2 h; exact h.elim
  | succ n9 i22 =>
    intro σ x2 h
    have h : wp_X9_crash0_22 x1 Q (LP2 (wp_X9_crash0_22 x1 Q) n9) σ x2 := h
    unfold wp_X9_crash0_22 at h
    refine J_iln F 2 dX9_crash0_22 rfl rfl ?_
    refine J_bi F dX9_crash0_23 kb_100 ?_
    refine J_cge F (tgt := 88) dX9_crash0_25 (by decide) (fun c_14 => ?_) (fun c_14 => ?_)
    · have h := h.1 c_14
      refine J_ic F dX9_crash0_88 ki_0 ?_
      exact J_reti F ⟨_, rfl, h⟩ dX9_crash0_89
    · have h := h.2 c_14
      refine J_ic F dX9_crash0_28 ki_0 ?_
      refine J_isn F (L' := [(3, .int (nI 0)), (0, .ref (gb G + 244)), (1, .int x1), (2, .int x2)]) dX9_crash0_29 rfl (by decide) rfl ?_
      refine J_sub [1, 2, 3, 0] rfl ?_
      obtain ⟨n9, h⟩ := h
      exact wk_X9_crash0_30 F i22 n9 _ _ h
set_option maxRecDepth 20000 in
set_option maxHeartbeats 4000000 in
theorem C_X9_crash0 (l : Launch) (G : Gp) (x1 : Int32)  {σ : St} {Q : Int32 → St → Prop} (h : wp_X9_crash0 σ x1 Q) : Cn l yX9_crash0 cX9_crash0 4 (some .int) 6 137 G [.ref (gb G + 244), .int x1] σ (qI Q) := by
  refine Cn_of (L := [(0, .ref (gb G + 244)), (1, .int x1)]) RX9 (by decide) rfl (Nat.le_of_ble_eq_true rfl) rfl ?_
  intro p e s m below meth c F
  unfold wp_X9_crash0 at h
  refine J_aln F 0 dX9_crash0_0 rfl rfl ?_
  refine J_iln F 1 dX9_crash0_1 rfl rfl ?_
  refine J_ic F dX9_crash0_2 ki_1 ?_
  refine J_callVi F (As := [.int x1, .int (nI 1)]) (st := []) (C_X9_isState l G x1 (nI 1)  h) (ci := 9) ly_244 (by decide) rfl rfl lm_X9_57 li_X9_isState ls_X9_isState ini_X9 lc_X9_isState hd_X9_isState (by decide) (Nat.le_of_ble_eq_true rfl) (by decide) rfl dX9_crash0_3 (fun r_15 σ_16 hh => ?_)
  clear h
  obtain ⟨e9, h⟩ := hh
  subst σ_16
  refine J_zne F (tgt := 11) dX9_crash0_6 (by decide) (fun c_17 => ?_) (fun c_17 => ?_)
  · have h := h.1 c_17
    refine J_aln F 0 dX9_crash0_11 rfl rfl ?_
    refine J_gfa F (ci := 9) 1 rfl inX9 ly_244 (by decide) (by decide) rfl lf_X9_7 rfl dX9_crash0_12 ?_
    refine J_ic F dX9_crash0_15 ki_0 ?_
    refine J_iln F 1 dX9_crash0_16 rfl rfl ?_
    refine J_iadd F dX9_crash0_17 ?_
    refine J_ic F dX9_crash0_18 ki_2 ?_
    obtain ⟨h_18, h⟩ := h
    refine J_iast F ly_245 h_18 dX9_crash0_19 ?_
    refine J_st (fun σ_19 eσ_19 => ?_)
    have h := h σ_19 eσ_19
    refine J_ic F dX9_crash0_20 ki_0 ?_
    refine J_isn F (L' := [(2, .int (nI 0)), (0, .ref (gb G + 244)), (1, .int x1)]) dX9_crash0_21 rfl (by decide) rfl ?_
    refine J_sub [1, 2, 0] rfl ?_
    obtain ⟨n9, h⟩ := h
    exact wk_X9_crash0_22 F  n9 _ _ h
  · have h := h.2 c_17
    refine J_ic F dX9_crash0_9 ki_4 ?_
    exact J_reti F ⟨_, rfl, h⟩ dX9_crash0_10
theorem dX9_notice0_0 : decode cX9_notice0 0 = .ok (.aload_n 0, 1) := by decide +kernel
theorem dX9_notice0_1 : decode cX9_notice0 1 = .ok (.iload_n 1, 1) := by decide +kernel
theorem dX9_notice0_2 : decode cX9_notice0 2 = .ok (.iconst 2, 1) := by decide +kernel
theorem dX9_notice0_3 : decode cX9_notice0 3 = .ok (.invokevirtual 57, 3) := by decide +kernel
theorem dX9_notice0_6 : decode cX9_notice0 6 = .ok (.ifCond .ne 5, 3) := by decide +kernel
theorem dX9_notice0_9 : decode cX9_notice0 9 = .ok (.iconst 5, 1) := by decide +kernel
theorem dX9_notice0_10 : decode cX9_notice0 10 = .ok (.ireturn, 1) := by decide +kernel
theorem dX9_notice0_11 : decode cX9_notice0 11 = .ok (.aload_n 0, 1) := by decide +kernel
theorem dX9_notice0_12 : decode cX9_notice0 12 = .ok (.iconst 1, 1) := by decide +kernel
theorem dX9_notice0_13 : decode cX9_notice0 13 = .ok (.invokevirtual 92, 3) := by decide +kernel
theorem dX9_notice0_16 : decode cX9_notice0 16 = .ok (.ifCond .ne 15, 3) := by decide +kernel
theorem dX9_notice0_19 : decode cX9_notice0 19 = .ok (.aload_n 0, 1) := by decide +kernel
theorem dX9_notice0_20 : decode cX9_notice0 20 = .ok (.iload_n 1, 1) := by decide +kernel
theorem dX9_notice0_21 : decode cX9_notice0 21 = .ok (.iconst 2, 1) := by decide +kernel
theorem dX9_notice0_22 : decode cX9_notice0 22 = .ok (.invokevirtual 200, 3) := by decide +kernel
theorem dX9_notice0_25 : decode cX9_notice0 25 = .ok (.ifCond .eq 6, 3) := by decide +kernel
theorem dX9_notice0_28 : decode cX9_notice0 28 = .ok (.bipush 6, 2) := by decide +kernel
theorem dX9_notice0_30 : decode cX9_notice0 30 = .ok (.ireturn, 1) := by decide +kernel
theorem dX9_notice0_31 : decode cX9_notice0 31 = .ok (.aload_n 0, 1) := by decide +kernel
theorem dX9_notice0_32 : decode cX9_notice0 32 = .ok (.iload_n 1, 1) := by decide +kernel
theorem dX9_notice0_33 : decode cX9_notice0 33 = .ok (.invokevirtual 203, 3) := by decide +kernel
theorem dX9_notice0_36 : decode cX9_notice0 36 = .ok (.iconst 0, 1) := by decide +kernel
theorem dX9_notice0_37 : decode cX9_notice0 37 = .ok (.ireturn, 1) := by decide +kernel
set_option maxRecDepth 20000 in
set_option maxHeartbeats 4000000 in
theorem wk_X9_notice0_31 {p : Program} {l : Launch} {e : Env} {s : State} {m : MethodId} {args : Array Value} {below : List Frame} {meth : Method} {c : Code} {G : Gp} {σ : St} {x1 : Int32}  {Q : Int32 → St → Prop} (F : FX p s m args meth c cX9_notice0 2 (some .int) RX9 G)   (h : wp_X9_notice0_31 σ x1 Q) : J p l e (rmF 6 143) s m args below meth c 2 G (MQ below (QQ G (qI Q)) args s 0 0 (fr G)) 0 0 31 [(0, .ref (gb G + 244)), (1, .int x1)] [] σ := by
  unfold wp_X9_notice0_31 at h
  refine J_aln F 0 dX9_notice0_31 rfl rfl ?_
  refine J_iln F 1 dX9_notice0_32 rfl rfl ?_
  refine J_callVv F (As := [.int x1]) (st := []) (C_X9_goesAway l G x1  h) (ci := 9) ly_244 (by decide) rfl rfl lm_X9_203 li_X9_goesAway ls_X9_goesAway ini_X9 lc_X9_goesAway hd_X9_goesAway (by decide) (Nat.le_of_ble_eq_true rfl) (by decide) rfl dX9_notice0_33 (fun σ_1 h => ?_)
  refine J_ic F dX9_notice0_36 ki_0 ?_
  exact J_reti F ⟨_, rfl, h⟩ dX9_notice0_37
set_option maxRecDepth 20000 in
set_option maxHeartbeats 4000000 in
theorem C_X9_notice0 (l : Launch) (G : Gp) (x1 : Int32)  {σ : St} {Q : Int32 → St → Prop} (h : wp_X9_notice0 σ x1 Q) : Cn l yX9_notice0 cX9_notice0 2 (some .int) 6 143 G [.ref (gb G + 244), .int x1] σ (qI Q) := by
  refine Cn_of (L := [(0, .ref (gb G + 244)), (1, .int x1)]) RX9 (by decide) rfl (Nat.le_of_ble_eq_true rfl) rfl ?_
  intro p e s m below meth c F
  unfold wp_X9_notice0 at h
  refine J_aln F 0 dX9_notice0_0 rfl rfl ?_
  refine J_iln F 1 dX9_notice0_1 rfl rfl ?_
  refine J_ic F dX9_notice0_2 ki_2 ?_
  refine J_callVi F (As := [.int x1, .int (nI 2)]) (st := []) (C_X9_isState l G x1 (nI 2)  h) (ci := 9) ly_244 (by decide) rfl rfl lm_X9_57 li_X9_isState ls_X9_isState ini_X9 lc_X9_isState hd_X9_isState (by decide) (Nat.le_of_ble_eq_true rfl) (by decide) rfl dX9_notice0_3 (fun r_2 σ_3 hh => ?_)
  clear h
  obtain ⟨e9, h⟩ := hh
  subst σ_3
  refine J_zne F (tgt := 11) dX9_notice0_6 (by decide) (fun c_4 => ?_) (fun c_4 => ?_)
  · have h := h.1 c_4
    refine J_aln F 0 dX9_notice0_11 rfl rfl ?_
    refine J_ic F dX9_notice0_12 ki_1 ?_
    refine J_callVi F (As := [.int (nI 1)]) (st := []) (C_X9_countOf l G (nI 1)  h) (ci := 9) ly_244 (by decide) rfl rfl lm_X9_92 li_X9_countOf ls_X9_countOf ini_X9 lc_X9_countOf hd_X9_countOf (by decide) (Nat.le_of_ble_eq_true rfl) (by decide) rfl dX9_notice0_13 (fun r_5 σ_6 hh => ?_)
    clear h
    obtain ⟨e9, h⟩ := hh
    subst σ_6
    refine J_zne F (tgt := 31) dX9_notice0_16 (by decide) (fun c_7 => ?_) (fun c_7 => ?_)
    · have h := h.1 c_7
      exact wk_X9_notice0_31 F  h
    · have h := h.2 c_7
      refine J_aln F 0 dX9_notice0_19 rfl rfl ?_
      refine J_iln F 1 dX9_notice0_20 rfl rfl ?_
      refine J_ic F dX9_notice0_21 ki_2 ?_
      refine J_callVi F (As := [.int x1, .int (nI 2)]) (st := []) (C_X9_hasOther l G x1 (nI 2)  h) (ci := 9) ly_244 (by decide) rfl rfl lm_X9_200 li_X9_hasOther ls_X9_hasOther ini_X9 lc_X9_hasOther hd_X9_hasOther (by decide) (Nat.le_of_ble_eq_true rfl) (by decide) rfl dX9_notice0_22 (fun r_8 σ_9 hh => ?_)
      clear h
      obtain ⟨e9, h⟩ := hh
      subst σ_9
      refine J_zeq F (tgt := 31) dX9_notice0_25 (by decide) (fun c_10 => ?_) (fun c_10 => ?_)
      · have h := h.1 c_10
        exact wk_X9_notice0_31 F  h
      · have h := h.2 c_10
        refine J_bi F dX9_notice0_28 kb_6 ?_
        exact J_reti F ⟨_, rfl, h⟩ dX9_notice0_30
  · have h := h.2 c_4
    refine J_ic F dX9_notice0_9 ki_5 ?_
    exact J_reti F ⟨_, rfl, h⟩ dX9_notice0_10
theorem dX9_manifold_0 : decode cX9_manifold 0 = .ok (.iconst 0, 1) := by decide +kernel
theorem dX9_manifold_1 : decode cX9_manifold 1 = .ok (.istore_n 1, 1) := by decide +kernel
theorem dX9_manifold_2 : decode cX9_manifold 2 = .ok (.iload_n 1, 1) := by decide +kernel
theorem dX9_manifold_3 : decode cX9_manifold 3 = .ok (.bipush 10, 2) := by decide +kernel
theorem dX9_manifold_5 : decode cX9_manifold 5 = .ok (.if_icmp .ge 20, 3) := by decide +kernel
theorem dX9_manifold_8 : decode cX9_manifold 8 = .ok (.aload_n 0, 1) := by decide +kernel
theorem dX9_manifold_9 : decode cX9_manifold 9 = .ok (.iload_n 1, 1) := by decide +kernel
theorem dX9_manifold_10 : decode cX9_manifold 10 = .ok (.invokevirtual 206, 3) := by decide +kernel
theorem dX9_manifold_13 : decode cX9_manifold 13 = .ok (.iconst 1, 1) := by decide +kernel
theorem dX9_manifold_14 : decode cX9_manifold 14 = .ok (.if_icmp .le 5, 3) := by decide +kernel
theorem dX9_manifold_17 : decode cX9_manifold 17 = .ok (.iload_n 1, 1) := by decide +kernel
theorem dX9_manifold_18 : decode cX9_manifold 18 = .ok (.ireturn, 1) := by decide +kernel
theorem dX9_manifold_19 : decode cX9_manifold 19 = .ok (.iinc 1 1, 3) := by decide +kernel
theorem dX9_manifold_22 : decode cX9_manifold 22 = .ok (.goto (-20), 3) := by decide +kernel
theorem dX9_manifold_25 : decode cX9_manifold 25 = .ok (.iconst (-1), 1) := by decide +kernel
theorem dX9_manifold_26 : decode cX9_manifold 26 = .ok (.ireturn, 1) := by decide +kernel
set_option maxRecDepth 20000 in
set_option maxHeartbeats 4000000 in
theorem wk_X9_manifold_2 {p : Program} {l : Launch} {e : Env} {s : State} {m : MethodId} {args : Array Value} {below : List Frame} {meth : Method} {c : Code} {G : Gp} {σ : St}   {Q : Int32 → Prop} (F : FX p s m args meth c cX9_manifold 2 (some .int) RX9 G)   : ∀ (n9 : Nat) (x1 : Int32), LP1 (wp_X9_manifold_2 σ Q) n9 x1 → J p l e (rmF 1 23) s m args below meth c 2 G (MQ below (QQ G (qI (fun r σ' => σ' = σ ∧ Q r))) args s 0 0 (fr G)) 0 0 2 [(0, .ref (gb G + 244)), (1, .int x1)] [] σ := by
  intro n9
  induction n9 with
  | zero => intro x1 h; exact h.elim
  | succ n9 i2 =>
    intro x1 h
    have h : wp_X9_manifold_2 σ Q (LP1 (wp_X9_manifold_2 σ Q) n9) x1 := h
    unfold wp_X9_manifold_2 at h
    refine J_iln F 1 dX9_manifold_2 rfl rfl ?_
    refine J_bi F dX9_manifold_3 kb_10 ?_
    refine J_cge F (tgt := 25) dX9_manifold_5 (by decide) (fun c_1 => ?_) (fun c_1 => ?_)
    · have h := h.1 c_1
      refine J_ic F dX9_manifold_25 ki_m1 ?_
      exact J_reti F ⟨_, rfl, rfl, h⟩ dX9_manifold_26
    · have h := h.2 c_1
      refine J_aln F 0 dX9_manifold_8 rfl rfl ?_
      refine J_iln F 1 dX9_manifold_9 rfl rfl ?_
      refine J_callVi F (As := [.int x1]) (st := []) (C_X9_zonesOf l G x1  h) (ci := 9) ly_244 (by decide) rfl rfl lm_X9_206 li_X9_zonesOf ls_X9_zonesOf ini_X9 lc_X9_zonesOf hd_X9_zonesOf (by decide) (Nat.le_of_ble_eq_true rfl) (by decide) rfl dX9_manifold_10 (fun r_2 σ_3 hh => ?_)
      clear h
      obtain ⟨e9, h⟩ := hh
      subst σ_3
      refine J_ic F dX9_manifold_13 ki_1 ?_
      refine J_cle F (tgt := 19) dX9_manifold_14 (by decide) (fun c_4 => ?_) (fun c_4 => ?_)
      · have h := h.1 c_4
        obtain ⟨x1_5, ex1_5⟩ : ∃ z : Int32, z = x1 + (nI 1) := ⟨_, rfl⟩
        have h := h x1_5 ex1_5
        refine J_iinc F (v := x1_5) (L' := [(1, .int x1_5), (0, .ref (gb G + 244))]) 1 dX9_manifold_19 rfl (by rw [ki_1, ex1_5]) (by decide) rfl ?_
        refine J_goto F (tgt := 2) dX9_manifold_22 (by decide) ?_
        refine J_sub [1, 0] rfl ?_
        exact i2 _ h
      · have h := h.2 c_4
        refine J_iln F 1 dX9_manifold_17 rfl rfl ?_
        exact J_reti F ⟨_, rfl, rfl, h⟩ dX9_manifold_18
set_option maxRecDepth 20000 in
set_option maxHeartbeats 4000000 in
theorem C_X9_manifold (l : Launch) (G : Gp)   {σ : St} {Q : Int32 → Prop} (h : wp_X9_manifold σ  Q) : Cn l yX9_manifold cX9_manifold 2 (some .int) 1 23 G [.ref (gb G + 244)] σ (qI (fun r σ' => σ' = σ ∧ Q r)) := by
  refine Cn_of (L := [(0, .ref (gb G + 244))]) RX9 (by decide) rfl (Nat.le_of_ble_eq_true rfl) rfl ?_
  intro p e s m below meth c F
  unfold wp_X9_manifold at h
  refine J_ic F dX9_manifold_0 ki_0 ?_
  refine J_isn F (L' := [(1, .int (nI 0)), (0, .ref (gb G + 244))]) dX9_manifold_1 rfl (by decide) rfl ?_
  refine J_sub [1, 0] rfl ?_
  obtain ⟨n9, h⟩ := h
  exact wk_X9_manifold_2 F  n9 _ h
theorem dX9_strayOf_0 : decode cX9_strayOf 0 = .ok (.iconst (-1), 1) := by decide +kernel
theorem dX9_strayOf_1 : decode cX9_strayOf 1 = .ok (.istore_n 2, 1) := by decide +kernel
theorem dX9_strayOf_2 : decode cX9_strayOf 2 = .ok (.iconst 0, 1) := by decide +kernel
theorem dX9_strayOf_3 : decode cX9_strayOf 3 = .ok (.istore_n 3, 1) := by decide +kernel
theorem dX9_strayOf_4 : decode cX9_strayOf 4 = .ok (.iload_n 3, 1) := by decide +kernel
theorem dX9_strayOf_5 : decode cX9_strayOf 5 = .ok (.aload_n 0, 1) := by decide +kernel
theorem dX9_strayOf_6 : decode cX9_strayOf 6 = .ok (.getfield 113, 3) := by decide +kernel
theorem dX9_strayOf_9 : decode cX9_strayOf 9 = .ok (.if_icmp .ge 47, 3) := by decide +kernel
theorem dX9_strayOf_12 : decode cX9_strayOf 12 = .ok (.aload_n 0, 1) := by decide +kernel
theorem dX9_strayOf_13 : decode cX9_strayOf 13 = .ok (.getfield 33, 3) := by decide +kernel
theorem dX9_strayOf_16 : decode cX9_strayOf 16 = .ok (.iload_n 3, 1) := by decide +kernel
theorem dX9_strayOf_17 : decode cX9_strayOf 17 = .ok (.iaload, 1) := by decide +kernel
theorem dX9_strayOf_18 : decode cX9_strayOf 18 = .ok (.iload_n 1, 1) := by decide +kernel
theorem dX9_strayOf_19 : decode cX9_strayOf 19 = .ok (.if_icmp .ne 31, 3) := by decide +kernel
theorem dX9_strayOf_22 : decode cX9_strayOf 22 = .ok (.iload_n 2, 1) := by decide +kernel
theorem dX9_strayOf_23 : decode cX9_strayOf 23 = .ok (.iconst (-1), 1) := by decide +kernel
theorem dX9_strayOf_24 : decode cX9_strayOf 24 = .ok (.if_icmp .eq 19, 3) := by decide +kernel
theorem dX9_strayOf_27 : decode cX9_strayOf 27 = .ok (.aload_n 0, 1) := by decide +kernel
theorem dX9_strayOf_28 : decode cX9_strayOf 28 = .ok (.getfield 30, 3) := by decide +kernel
theorem dX9_strayOf_31 : decode cX9_strayOf 31 = .ok (.iload_n 3, 1) := by decide +kernel
theorem dX9_strayOf_32 : decode cX9_strayOf 32 = .ok (.iaload, 1) := by decide +kernel
theorem dX9_strayOf_33 : decode cX9_strayOf 33 = .ok (.invokestatic 73, 3) := by decide +kernel
theorem dX9_strayOf_36 : decode cX9_strayOf 36 = .ok (.iload_n 2, 1) := by decide +kernel
theorem dX9_strayOf_37 : decode cX9_strayOf 37 = .ok (.invokestatic 73, 3) := by decide +kernel
theorem dX9_strayOf_40 : decode cX9_strayOf 40 = .ok (.if_icmp .lt 10, 3) := by decide +kernel
theorem dX9_strayOf_43 : decode cX9_strayOf 43 = .ok (.aload_n 0, 1) := by decide +kernel
theorem dX9_strayOf_44 : decode cX9_strayOf 44 = .ok (.getfield 30, 3) := by decide +kernel
theorem dX9_strayOf_47 : decode cX9_strayOf 47 = .ok (.iload_n 3, 1) := by decide +kernel
theorem dX9_strayOf_48 : decode cX9_strayOf 48 = .ok (.iaload, 1) := by decide +kernel
theorem dX9_strayOf_49 : decode cX9_strayOf 49 = .ok (.istore_n 2, 1) := by decide +kernel
theorem dX9_strayOf_50 : decode cX9_strayOf 50 = .ok (.iinc 3 1, 3) := by decide +kernel
theorem dX9_strayOf_53 : decode cX9_strayOf 53 = .ok (.goto (-49), 3) := by decide +kernel
theorem dX9_strayOf_56 : decode cX9_strayOf 56 = .ok (.iload_n 2, 1) := by decide +kernel
theorem dX9_strayOf_57 : decode cX9_strayOf 57 = .ok (.ireturn, 1) := by decide +kernel
set_option maxRecDepth 20000 in
set_option maxHeartbeats 4000000 in
theorem wk_X9_strayOf_4 {p : Program} {l : Launch} {e : Env} {s : State} {m : MethodId} {args : Array Value} {below : List Frame} {meth : Method} {c : Code} {G : Gp} {σ : St} {x1 : Int32}  {Q : Int32 → Prop} (F : FX p s m args meth c cX9_strayOf 4 (some .int) RX9 G)   : ∀ (n9 : Nat) (x2 : Int32) (x3 : Int32), LP2 (wp_X9_strayOf_4 σ x1 Q) n9 x2 x3 → J p l e (rmF 1 21) s m args below meth c 4 G (MQ below (QQ G (qI (fun r σ' => σ' = σ ∧ Q r))) args s 0 0 (fr G)) 0 0 4 [(0, .ref (gb G + 244)), (1, .int x1), (2, .int x2), (3, .int x3)] [] σ := by
  intro n9
  induction n9 with
  | zero => intro x2 x3 h; exact h.elim
  | succ n9 i4 =>
    intro x2 x3 h
    have h : wp_X9_strayOf_4 σ x1 Q (LP2 (wp_X9_strayOf_4 σ x1 Q) n9) x2 x3 := h
    unfold wp_X9_strayOf_4 at h
    refine J_iln F 3 dX9_strayOf_4 rfl rfl ?_
    refine J_aln F 0 dX9_strayOf_5 rfl rfl ?_
    refine J_gfi F (ci := 9) 23 rfl inX9 ly_244 (by decide) (by decide) rfl lf_X9_113 rfl dX9_strayOf_6 ?_
    refine J_cge F (tgt := 56) dX9_strayOf_9 (by decide) (fun c_1 => ?_) (fun c_1 => ?_)
    · have h := h.1 c_1
      refine J_iln F 2 dX9_strayOf_56 rfl rfl ?_
      exact J_reti F ⟨_, rfl, rfl, h⟩ dX9_strayOf_57
    · have h := h.2 c_1
      refine J_aln F 0 dX9_strayOf_12 rfl rfl ?_
      refine J_gfa F (ci := 9) 18 rfl inX9 ly_244 (by decide) (by decide) rfl lf_X9_33 rfl dX9_strayOf_13 ?_
      refine J_iln F 3 dX9_strayOf_16 rfl rfl ?_
      obtain ⟨h_2, h⟩ := h
      refine J_iald F ly_251 h_2 dX9_strayOf_17 ?_
      refine J_iln F 1 dX9_strayOf_18 rfl rfl ?_
      refine J_cne F (tgt := 50) dX9_strayOf_19 (by decide) (fun c_3 => ?_) (fun c_3 => ?_)
      · have h := h.1 c_3
        obtain ⟨x3_4, ex3_4⟩ : ∃ z : Int32, z = x3 + (nI 1) := ⟨_, rfl⟩
        have h := h x3_4 ex3_4
        refine J_iinc F (v := x3_4) (L' := [(3, .int x3_4), (0, .ref (gb G + 244)), (1, .int x1), (2, .int x2)]) 3 dX9_strayOf_50 rfl (by rw [ki_1, ex3_4]) (by decide) rfl ?_
        refine J_goto F (tgt := 4) dX9_strayOf_53 (by decide) ?_
        refine J_sub [1, 2, 3, 0] rfl ?_
        exact i4 _ _ h
      · have h := h.2 c_3
        refine J_iln F 2 dX9_strayOf_22 rfl rfl ?_
        refine J_ic F dX9_strayOf_23 ki_m1 ?_
        refine J_ceq F (tgt := 43) dX9_strayOf_24 (by decide) (fun c_5 => ?_) (fun c_5 => ?_)
        · have h := h.1 c_5
          refine J_aln F 0 dX9_strayOf_43 rfl rfl ?_
          refine J_gfa F (ci := 9) 17 rfl inX9 ly_244 (by decide) (by decide) rfl lf_X9_30 rfl dX9_strayOf_44 ?_
          refine J_iln F 3 dX9_strayOf_47 rfl rfl ?_
          obtain ⟨h_6, h⟩ := h
          refine J_iald F ly_250 h_6 dX9_strayOf_48 ?_
          refine J_top (fun x2_7 ex2_7 => ?_)
          have h := h x2_7 ex2_7
          refine J_isn F (L' := [(2, .int x2_7), (0, .ref (gb G + 244)), (1, .int x1), (3, .int x3)]) dX9_strayOf_49 rfl (by decide) rfl ?_
          obtain ⟨x3_8, ex3_8⟩ : ∃ z : Int32, z = x3 + (nI 1) := ⟨_, rfl⟩
          have h := h x3_8 ex3_8
          refine J_iinc F (v := x3_8) (L' := [(3, .int x3_8), (2, .int x2_7), (0, .ref (gb G + 244)), (1, .int x1)]) 3 dX9_strayOf_50 rfl (by rw [ki_1, ex3_8]) (by decide) rfl ?_
          refine J_goto F (tgt := 4) dX9_strayOf_53 (by decide) ?_
          refine J_sub [2, 3, 1, 0] rfl ?_
          exact i4 _ _ h
        · have h := h.2 c_5
          refine J_aln F 0 dX9_strayOf_27 rfl rfl ?_
          refine J_gfa F (ci := 9) 17 rfl inX9 ly_244 (by decide) (by decide) rfl lf_X9_30 rfl dX9_strayOf_28 ?_
          refine J_iln F 3 dX9_strayOf_31 rfl rfl ?_
          obtain ⟨h_9, h⟩ := h
          refine J_iald F ly_250 h_9 dX9_strayOf_32 ?_
          refine J_callSi F (As := [.int (σ 250 (Int32.toNatClampNeg x3))]) (st := []) (C_X9_depthOf l G (σ 250 (Int32.toNatClampNeg x3))  h) lm_X9_73 li_X9_depthOf ini_X9 lc_X9_depthOf hd_X9_depthOf (by decide) (Nat.le_of_ble_eq_true rfl) (by decide) rfl dX9_strayOf_33 (fun r_10 σ_11 hh => ?_)
          clear h
          obtain ⟨e9, h⟩ := hh
          subst σ_11
          refine J_iln F 2 dX9_strayOf_36 rfl rfl ?_
          refine J_callSi F (As := [.int x2]) (st := [.int r_10]) (C_X9_depthOf l G x2  h) lm_X9_73 li_X9_depthOf ini_X9 lc_X9_depthOf hd_X9_depthOf (by decide) (Nat.le_of_ble_eq_true rfl) (by decide) rfl dX9_strayOf_37 (fun r_12 σ_13 hh => ?_)
          clear h
          obtain ⟨e9, h⟩ := hh
          subst σ_13
          refine J_clt F (tgt := 50) dX9_strayOf_40 (by decide) (fun c_14 => ?_) (fun c_14 => ?_)
          · have h := h.1 c_14
            obtain ⟨x3_15, ex3_15⟩ : ∃ z : Int32, z = x3 + (nI 1) := ⟨_, rfl⟩
            have h := h x3_15 ex3_15
            refine J_iinc F (v := x3_15) (L' := [(3, .int x3_15), (0, .ref (gb G + 244)), (1, .int x1), (2, .int x2)]) 3 dX9_strayOf_50 rfl (by rw [ki_1, ex3_15]) (by decide) rfl ?_
            refine J_goto F (tgt := 4) dX9_strayOf_53 (by decide) ?_
            refine J_sub [1, 2, 3, 0] rfl ?_
            exact i4 _ _ h
          · have h := h.2 c_14
            refine J_aln F 0 dX9_strayOf_43 rfl rfl ?_
            refine J_gfa F (ci := 9) 17 rfl inX9 ly_244 (by decide) (by decide) rfl lf_X9_30 rfl dX9_strayOf_44 ?_
            refine J_iln F 3 dX9_strayOf_47 rfl rfl ?_
            obtain ⟨h_16, h⟩ := h
            refine J_iald F ly_250 h_16 dX9_strayOf_48 ?_
            refine J_top (fun x2_17 ex2_17 => ?_)
            have h := h x2_17 ex2_17
            refine J_isn F (L' := [(2, .int x2_17), (0, .ref (gb G + 244)), (1, .int x1), (3, .int x3)]) dX9_strayOf_49 rfl (by decide) rfl ?_
            obtain ⟨x3_18, ex3_18⟩ : ∃ z : Int32, z = x3 + (nI 1) := ⟨_, rfl⟩
            have h := h x3_18 ex3_18
            refine J_iinc F (v := x3_18) (L' := [(3, .int x3_18), (2, .int x2_17), (0, .ref (gb G + 244)), (1, .int x1)]) 3 dX9_strayOf_50 rfl (by rw [ki_1, ex3_18]) (by decide) rfl ?_
            refine J_goto F (tgt := 4) dX9_strayOf_53 (by decide) ?_
            refine J_sub [2, 3, 1, 0] rfl ?_
            exact i4 _ _ h
set_option maxRecDepth 20000 in
set_option maxHeartbeats 4000000 in
theorem C_X9_strayOf (l : Launch) (G : Gp) (x1 : Int32)  {σ : St} {Q : Int32 → Prop} (h : wp_X9_strayOf σ x1 Q) : Cn l yX9_strayOf cX9_strayOf 4 (some .int) 1 21 G [.ref (gb G + 244), .int x1] σ (qI (fun r σ' => σ' = σ ∧ Q r)) := by
  refine Cn_of (L := [(0, .ref (gb G + 244)), (1, .int x1)]) RX9 (by decide) rfl (Nat.le_of_ble_eq_true rfl) rfl ?_
  intro p e s m below meth c F
  unfold wp_X9_strayOf at h
  refine J_ic F dX9_strayOf_0 ki_m1 ?_
  refine J_isn F (L' := [(2, .int (-1)), (0, .ref (gb G + 244)), (1, .int x1)]) dX9_strayOf_1 rfl (by decide) rfl ?_
  refine J_ic F dX9_strayOf_2 ki_0 ?_
  refine J_isn F (L' := [(3, .int (nI 0)), (2, .int (-1)), (0, .ref (gb G + 244)), (1, .int x1)]) dX9_strayOf_3 rfl (by decide) rfl ?_
  refine J_sub [2, 3, 1, 0] rfl ?_
  obtain ⟨n9, h⟩ := h
  exact wk_X9_strayOf_4 F  n9 _ _ h
theorem dX9_isInside_0 : decode cX9_isInside 0 = .ok (.iload_n 0, 1) := by decide +kernel
theorem dX9_isInside_1 : decode cX9_isInside 1 = .ok (.istore_n 2, 1) := by decide +kernel
theorem dX9_isInside_2 : decode cX9_isInside 2 = .ok (.iload_n 2, 1) := by decide +kernel
theorem dX9_isInside_3 : decode cX9_isInside 3 = .ok (.iload_n 1, 1) := by decide +kernel
theorem dX9_isInside_4 : decode cX9_isInside 4 = .ok (.if_icmp .le 10, 3) := by decide +kernel
theorem dX9_isInside_7 : decode cX9_isInside 7 = .ok (.iload_n 2, 1) := by decide +kernel
theorem dX9_isInside_8 : decode cX9_isInside 8 = .ok (.iconst 2, 1) := by decide +kernel
theorem dX9_isInside_9 : decode cX9_isInside 9 = .ok (.idiv, 1) := by decide +kernel
theorem dX9_isInside_10 : decode cX9_isInside 10 = .ok (.istore_n 2, 1) := by decide +kernel
theorem dX9_isInside_11 : decode cX9_isInside 11 = .ok (.goto (-9), 3) := by decide +kernel
theorem dX9_isInside_14 : decode cX9_isInside 14 = .ok (.iload_n 2, 1) := by decide +kernel
theorem dX9_isInside_15 : decode cX9_isInside 15 = .ok (.iload_n 1, 1) := by decide +kernel
theorem dX9_isInside_16 : decode cX9_isInside 16 = .ok (.if_icmp .ne 7, 3) := by decide +kernel
theorem dX9_isInside_19 : decode cX9_isInside 19 = .ok (.iconst 1, 1) := by decide +kernel
theorem dX9_isInside_20 : decode cX9_isInside 20 = .ok (.goto 4, 3) := by decide +kernel
theorem dX9_isInside_23 : decode cX9_isInside 23 = .ok (.iconst 0, 1) := by decide +kernel
theorem dX9_isInside_24 : decode cX9_isInside 24 = .ok (.ireturn, 1) := by decide +kernel
set_option maxRecDepth 20000 in
set_option maxHeartbeats 4000000 in
theorem wk_X9_isInside_14 {p : Program} {l : Launch} {e : Env} {s : State} {m : MethodId} {args : Array Value} {below : List Frame} {meth : Method} {c : Code} {G : Gp} {σ : St} {x1 : Int32} {x2 : Int32}  {Q : Int32 → Prop} (F : FX p s m args meth c cX9_isInside 3 (some .boolean) RX9 G)   (h : wp_X9_isInside_14 σ x1 x2 Q) : J p l e (rmF 0 0) s m args below meth c 3 G (MQ below (QQ G (qI (fun r σ' => σ' = σ ∧ Q r))) args s 0 0 (fr G)) 0 0 14 [(1, .int x1), (2, .int x2)] [] σ := by
  unfold wp_X9_isInside_14 at h
  refine J_iln F 1 dX9_isInside_14 rfl rfl ?_
  refine J_iln F 0 dX9_isInside_15 rfl rfl ?_
  refine J_cne F (tgt := 23) dX9_isInside_16 (by decide) (fun c_1 => ?_) (fun c_1 => ?_)
  · have h := h.1 c_1
    refine J_ic F dX9_isInside_23 ki_0 ?_
    exact J_retz F (Or.inl rfl) ⟨_, rfl, rfl, h⟩ dX9_isInside_24
  · have h := h.2 c_1
    refine J_ic F dX9_isInside_19 ki_1 ?_
    refine J_goto F (tgt := 24) dX9_isInside_20 (by decide) ?_
    exact J_retz F (Or.inr rfl) ⟨_, rfl, rfl, h⟩ dX9_isInside_24
set_option maxRecDepth 20000 in
set_option maxHeartbeats 4000000 in
theorem wk_X9_isInside_2 {p : Program} {l : Launch} {e : Env} {s : State} {m : MethodId} {args : Array Value} {below : List Frame} {meth : Method} {c : Code} {G : Gp} {σ : St} {x1 : Int32}  {Q : Int32 → Prop} (F : FX p s m args meth c cX9_isInside 3 (some .boolean) RX9 G)   : ∀ (n9 : Nat) (x2 : Int32), LP1 (wp_X9_isInside_2 σ x1 Q) n9 x2 → J p l e (rmF 0 0) s m args below meth c 3 G (MQ below (QQ G (qI (fun r σ' => σ' = σ ∧ Q r))) args s 0 0 (fr G)) 0 0 2 [(1, .int x1), (2, .int x2)] [] σ := by
  intro n9
  induction n9 with
  | zero => intro x2 h; exact h.elim
  | succ n9 i2 =>
    intro x2 h
    have h : wp_X9_isInside_2 σ x1 Q (LP1 (wp_X9_isInside_2 σ x1 Q) n9) x2 := h
    unfold wp_X9_isInside_2 at h
    refine J_iln F 1 dX9_isInside_2 rfl rfl ?_
    refine J_iln F 0 dX9_isInside_3 rfl rfl ?_
    refine J_cle F (tgt := 14) dX9_isInside_4 (by decide) (fun c_2 => ?_) (fun c_2 => ?_)
    · have h := h.1 c_2
      exact wk_X9_isInside_14 F  h
    · have h := h.2 c_2
      refine J_iln F 1 dX9_isInside_7 rfl rfl ?_
      refine J_ic F dX9_isInside_8 ki_2 ?_
      refine J_idiv F dX9_isInside_9 nz_2 ?_
      refine J_top (fun x2_3 ex2_3 => ?_)
      have h := h x2_3 ex2_3
      refine J_isn F (L' := [(2, .int x2_3), (1, .int x1)]) dX9_isInside_10 rfl (by decide) rfl ?_
      refine J_goto F (tgt := 2) dX9_isInside_11 (by decide) ?_
      refine J_sub [1, 0] rfl ?_
      exact i2 _ h
set_option maxRecDepth 20000 in
set_option maxHeartbeats 4000000 in
theorem C_X9_isInside (l : Launch) (G : Gp) (x0 : Int32) (x1 : Int32)  {σ : St} {Q : Int32 → Prop} (h : wp_X9_isInside σ x0 x1 Q) : Cn l yX9_isInside cX9_isInside 3 (some .boolean) 0 0 G [.int x0, .int x1] σ (qI (fun r σ' => σ' = σ ∧ Q r)) := by
  refine Cn_of (L := [(0, .int x0), (1, .int x1)]) RX9 (by decide) rfl (Nat.le_of_ble_eq_true rfl) rfl ?_
  intro p e s m below meth c F
  unfold wp_X9_isInside at h
  refine J_iln F 0 dX9_isInside_0 rfl rfl ?_
  refine J_isn F (L' := [(2, .int x0), (0, .int x0), (1, .int x1)]) dX9_isInside_1 rfl (by decide) rfl ?_
  refine J_sub [2, 0] rfl ?_
  obtain ⟨n9, h⟩ := h
  exact wk_X9_isInside_2 F  n9 _ h
theorem dX9_twinsIn_0 : decode cX9_twinsIn 0 = .ok (.iconst (-1), 1) := by decide +kernel
theorem dX9_twinsIn_1 : decode cX9_twinsIn 1 = .ok (.istore_n 3, 1) := by decide +kernel
theorem dX9_twinsIn_2 : decode cX9_twinsIn 2 = .ok (.iconst 1, 1) := by decide +kernel
theorem dX9_twinsIn_3 : decode cX9_twinsIn 3 = .ok (.istore 4, 2) := by decide +kernel
theorem dX9_twinsIn_5 : decode cX9_twinsIn 5 = .ok (.iload 4, 2) := by decide +kernel
theorem dX9_twinsIn_7 : decode cX9_twinsIn 7 = .ok (.sipush 1024, 3) := by decide +kernel
theorem dX9_twinsIn_10 : decode cX9_twinsIn 10 = .ok (.if_icmp .ge 71, 3) := by decide +kernel
theorem dX9_twinsIn_13 : decode cX9_twinsIn 13 = .ok (.iload 4, 2) := by decide +kernel
theorem dX9_twinsIn_15 : decode cX9_twinsIn 15 = .ok (.iload_n 2, 1) := by decide +kernel
theorem dX9_twinsIn_16 : decode cX9_twinsIn 16 = .ok (.invokestatic 209, 3) := by decide +kernel
theorem dX9_twinsIn_19 : decode cX9_twinsIn 19 = .ok (.ifCond .eq 56, 3) := by decide +kernel
theorem dX9_twinsIn_22 : decode cX9_twinsIn 22 = .ok (.aload_n 0, 1) := by decide +kernel
theorem dX9_twinsIn_23 : decode cX9_twinsIn 23 = .ok (.iload_n 1, 1) := by decide +kernel
theorem dX9_twinsIn_24 : decode cX9_twinsIn 24 = .ok (.iload 4, 2) := by decide +kernel
theorem dX9_twinsIn_26 : decode cX9_twinsIn 26 = .ok (.iconst 0, 1) := by decide +kernel
theorem dX9_twinsIn_27 : decode cX9_twinsIn 27 = .ok (.invokestatic 81, 3) := by decide +kernel
theorem dX9_twinsIn_30 : decode cX9_twinsIn 30 = .ok (.invokevirtual 95, 3) := by decide +kernel
theorem dX9_twinsIn_33 : decode cX9_twinsIn 33 = .ok (.iconst (-1), 1) := by decide +kernel
theorem dX9_twinsIn_34 : decode cX9_twinsIn 34 = .ok (.if_icmp .eq 41, 3) := by decide +kernel
theorem dX9_twinsIn_37 : decode cX9_twinsIn 37 = .ok (.aload_n 0, 1) := by decide +kernel
theorem dX9_twinsIn_38 : decode cX9_twinsIn 38 = .ok (.iload_n 1, 1) := by decide +kernel
theorem dX9_twinsIn_39 : decode cX9_twinsIn 39 = .ok (.iload 4, 2) := by decide +kernel
theorem dX9_twinsIn_41 : decode cX9_twinsIn 41 = .ok (.iconst 1, 1) := by decide +kernel
theorem dX9_twinsIn_42 : decode cX9_twinsIn 42 = .ok (.invokestatic 81, 3) := by decide +kernel
theorem dX9_twinsIn_45 : decode cX9_twinsIn 45 = .ok (.invokevirtual 95, 3) := by decide +kernel
theorem dX9_twinsIn_48 : decode cX9_twinsIn 48 = .ok (.iconst (-1), 1) := by decide +kernel
theorem dX9_twinsIn_49 : decode cX9_twinsIn 49 = .ok (.if_icmp .ne 6, 3) := by decide +kernel
theorem dX9_twinsIn_52 : decode cX9_twinsIn 52 = .ok (.goto 23, 3) := by decide +kernel
theorem dX9_twinsIn_55 : decode cX9_twinsIn 55 = .ok (.iload_n 3, 1) := by decide +kernel
theorem dX9_twinsIn_56 : decode cX9_twinsIn 56 = .ok (.iconst (-1), 1) := by decide +kernel
theorem dX9_twinsIn_57 : decode cX9_twinsIn 57 = .ok (.if_icmp .eq 15, 3) := by decide +kernel
theorem dX9_twinsIn_60 : decode cX9_twinsIn 60 = .ok (.iload 4, 2) := by decide +kernel
theorem dX9_twinsIn_62 : decode cX9_twinsIn 62 = .ok (.invokestatic 73, 3) := by decide +kernel
theorem dX9_twinsIn_65 : decode cX9_twinsIn 65 = .ok (.iload_n 3, 1) := by decide +kernel
theorem dX9_twinsIn_66 : decode cX9_twinsIn 66 = .ok (.invokestatic 73, 3) := by decide +kernel
theorem dX9_twinsIn_69 : decode cX9_twinsIn 69 = .ok (.if_icmp .le 6, 3) := by decide +kernel
theorem dX9_twinsIn_72 : decode cX9_twinsIn 72 = .ok (.iload 4, 2) := by decide +kernel
theorem dX9_twinsIn_74 : decode cX9_twinsIn 74 = .ok (.istore_n 3, 1) := by decide +kernel
theorem dX9_twinsIn_75 : decode cX9_twinsIn 75 = .ok (.iinc 4 1, 3) := by decide +kernel
theorem dX9_twinsIn_78 : decode cX9_twinsIn 78 = .ok (.goto (-73), 3) := by decide +kernel
theorem dX9_twinsIn_81 : decode cX9_twinsIn 81 = .ok (.iload_n 3, 1) := by decide +kernel
theorem dX9_twinsIn_82 : decode cX9_twinsIn 82 = .ok (.ireturn, 1) := by decide +kernel
set_option maxRecDepth 20000 in
set_option maxHeartbeats 4000000 in
theorem wk_X9_twinsIn_5 {p : Program} {l : Launch} {e : Env} {s : State} {m : MethodId} {args : Array Value} {below : List Frame} {meth : Method} {c : Code} {G : Gp} {σ : St} {x1 : Int32} {x2 : Int32}  {Q : Int32 → Prop} (F : FX p s m args meth c cX9_twinsIn 5 (some .int) RX9 G)   : ∀ (n9 : Nat) (x3 : Int32) (x4 : Int32), LP2 (wp_X9_twinsIn_5 σ x1 x2 Q) n9 x3 x4 → J p l e (rmF 1 22) s m args below meth c 5 G (MQ below (QQ G (qI (fun r σ' => σ' = σ ∧ Q r))) args s 0 0 (fr G)) 0 0 5 [(0, .ref (gb G + 244)), (1, .int x1), (2, .int x2), (3, .int x3), (4, .int x4)] [] σ := by
  intro n9
  induction n9 with
  | zero => intro x3 x4 h; exact h.elim
  | succ n9 i5 =>
    intro x3 x4 h
    have h : wp_X9_twinsIn_5 σ x1 x2 Q (LP2 (wp_X9_twinsIn_5 σ x1 x2 Q) n9) x3 x4 := h
    unfold wp_X9_twinsIn_5 at h
    refine J_il F 4 dX9_twinsIn_5 rfl ?_
    refine J_si F dX9_twinsIn_7 ks_1024 ?_
    refine J_cge F (tgt := 81) dX9_twinsIn_10 (by decide) (fun c_1 => ?_) (fun c_1 => ?_)
    · have h := h.1 c_1
      refine J_iln F 3 dX9_twinsIn_81 rfl rfl ?_
      exact J_reti F ⟨_, rfl, rfl, h⟩ dX9_twinsIn_82
    · have h := h.2 c_1
      refine J_il F 4 dX9_twinsIn_13 rfl ?_
      refine J_iln F 2 dX9_twinsIn_15 rfl rfl ?_
      refine J_callSi F (As := [.int x4, .int x2]) (st := []) (C_X9_isInside l G x4 x2  h) lm_X9_209 li_X9_isInside ini_X9 lc_X9_isInside hd_X9_isInside (by decide) (Nat.le_of_ble_eq_true rfl) (by decide) rfl dX9_twinsIn_16 (fun r_2 σ_3 hh => ?_)
      clear h
      obtain ⟨e9, h⟩ := hh
      subst σ_3
      refine J_zeq F (tgt := 75) dX9_twinsIn_19 (by decide) (fun c_4 => ?_) (fun c_4 => ?_)
      · have h := h.1 c_4
        obtain ⟨x4_5, ex4_5⟩ : ∃ z : Int32, z = x4 + (nI 1) := ⟨_, rfl⟩
        have h := h x4_5 ex4_5
        refine J_iinc F (v := x4_5) (L' := [(4, .int x4_5), (0, .ref (gb G + 244)), (1, .int x1), (2, .int x2), (3, .int x3)]) 4 dX9_twinsIn_75 rfl (by rw [ki_1, ex4_5]) (by decide) rfl ?_
        refine J_goto F (tgt := 5) dX9_twinsIn_78 (by decide) ?_
        refine J_sub [1, 2, 3, 4, 0] rfl ?_
        exact i5 _ _ h
      · have h := h.2 c_4
        refine J_aln F 0 dX9_twinsIn_22 rfl rfl ?_
        refine J_iln F 1 dX9_twinsIn_23 rfl rfl ?_
        refine J_il F 4 dX9_twinsIn_24 rfl ?_
        refine J_ic F dX9_twinsIn_26 ki_0 ?_
        refine J_callSi F (As := [.int x4, .int (nI 0)]) (st := [.int x1, .ref (gb G + 244)]) (C_X9_halfAt l G x4 (nI 0)  h) lm_X9_81 li_X9_halfAt ini_X9 lc_X9_halfAt hd_X9_halfAt (by decide) (Nat.le_of_ble_eq_true rfl) (by decide) rfl dX9_twinsIn_27 (fun r_6 σ_7 hh => ?_)
        clear h
        obtain ⟨e9, h⟩ := hh
        subst σ_7
        refine J_callVi F (As := [.int x1, .int r_6]) (st := []) (C_X9_ownerOf l G x1 r_6  h) (ci := 9) ly_244 (by decide) rfl rfl lm_X9_95 li_X9_ownerOf ls_X9_ownerOf ini_X9 lc_X9_ownerOf hd_X9_ownerOf (by decide) (Nat.le_of_ble_eq_true rfl) (by decide) rfl dX9_twinsIn_30 (fun r_8 σ_9 hh => ?_)
        clear h
        obtain ⟨e9, h⟩ := hh
        subst σ_9
        refine J_ic F dX9_twinsIn_33 ki_m1 ?_
        refine J_ceq F (tgt := 75) dX9_twinsIn_34 (by decide) (fun c_10 => ?_) (fun c_10 => ?_)
        · have h := h.1 c_10
          obtain ⟨x4_11, ex4_11⟩ : ∃ z : Int32, z = x4 + (nI 1) := ⟨_, rfl⟩
          have h := h x4_11 ex4_11
          refine J_iinc F (v := x4_11) (L' := [(4, .int x4_11), (0, .ref (gb G + 244)), (1, .int x1), (2, .int x2), (3, .int x3)]) 4 dX9_twinsIn_75 rfl (by rw [ki_1, ex4_11]) (by decide) rfl ?_
          refine J_goto F (tgt := 5) dX9_twinsIn_78 (by decide) ?_
          refine J_sub [1, 2, 3, 4, 0] rfl ?_
          exact i5 _ _ h
        · have h := h.2 c_10
          refine J_aln F 0 dX9_twinsIn_37 rfl rfl ?_
          refine J_iln F 1 dX9_twinsIn_38 rfl rfl ?_
          refine J_il F 4 dX9_twinsIn_39 rfl ?_
          refine J_ic F dX9_twinsIn_41 ki_1 ?_
          refine J_callSi F (As := [.int x4, .int (nI 1)]) (st := [.int x1, .ref (gb G + 244)]) (C_X9_halfAt l G x4 (nI 1)  h) lm_X9_81 li_X9_halfAt ini_X9 lc_X9_halfAt hd_X9_halfAt (by decide) (Nat.le_of_ble_eq_true rfl) (by decide) rfl dX9_twinsIn_42 (fun r_12 σ_13 hh => ?_)
          clear h
          obtain ⟨e9, h⟩ := hh
          subst σ_13
          refine J_callVi F (As := [.int x1, .int r_12]) (st := []) (C_X9_ownerOf l G x1 r_12  h) (ci := 9) ly_244 (by decide) rfl rfl lm_X9_95 li_X9_ownerOf ls_X9_ownerOf ini_X9 lc_X9_ownerOf hd_X9_ownerOf (by decide) (Nat.le_of_ble_eq_true rfl) (by decide) rfl dX9_twinsIn_45 (fun r_14 σ_15 hh => ?_)
          clear h
          obtain ⟨e9, h⟩ := hh
          subst σ_15
          refine J_ic F dX9_twinsIn_48 ki_m1 ?_
          refine J_cne F (tgt := 55) dX9_twinsIn_49 (by decide) (fun c_16 => ?_) (fun c_16 => ?_)
          · have h := h.1 c_16
            refine J_iln F 3 dX9_twinsIn_55 rfl rfl ?_
            refine J_ic F dX9_twinsIn_56 ki_m1 ?_
            refine J_ceq F (tgt := 72) dX9_twinsIn_57 (by decide) (fun c_17 => ?_) (fun c_17 => ?_)
            · have h := h.1 c_17
              refine J_il F 4 dX9_twinsIn_72 rfl ?_
              refine J_isn F (L' := [(3, .int x4), (0, .ref (gb G + 244)), (1, .int x1), (2, .int x2), (4, .int x4)]) dX9_twinsIn_74 rfl (by decide) rfl ?_
              obtain ⟨x4_18, ex4_18⟩ : ∃ z : Int32, z = x4 + (nI 1) := ⟨_, rfl⟩
              have h := h x4_18 ex4_18
              refine J_iinc F (v := x4_18) (L' := [(4, .int x4_18), (3, .int x4), (0, .ref (gb G + 244)), (1, .int x1), (2, .int x2)]) 4 dX9_twinsIn_75 rfl (by rw [ki_1, ex4_18]) (by decide) rfl ?_
              refine J_goto F (tgt := 5) dX9_twinsIn_78 (by decide) ?_
              refine J_sub [2, 3, 4, 1, 0] rfl ?_
              exact i5 _ _ h
            · have h := h.2 c_17
              refine J_il F 4 dX9_twinsIn_60 rfl ?_
              refine J_callSi F (As := [.int x4]) (st := []) (C_X9_depthOf l G x4  h) lm_X9_73 li_X9_depthOf ini_X9 lc_X9_depthOf hd_X9_depthOf (by decide) (Nat.le_of_ble_eq_true rfl) (by decide) rfl dX9_twinsIn_62 (fun r_19 σ_20 hh => ?_)
              clear h
              obtain ⟨e9, h⟩ := hh
              subst σ_20
              refine J_iln F 3 dX9_twinsIn_65 rfl rfl ?_
              refine J_callSi F (As := [.int x3]) (st := [.int r_19]) (C_X9_depthOf l G x3  h) lm_X9_73 li_X9_depthOf ini_X9 lc_X9_depthOf hd_X9_depthOf (by decide) (Nat.le_of_ble_eq_true rfl) (by decide) rfl dX9_twinsIn_66 (fun r_21 σ_22 hh => ?_)
              clear h
              obtain ⟨e9, h⟩ := hh
              subst σ_22
              refine J_cle F (tgt := 75) dX9_twinsIn_69 (by decide) (fun c_23 => ?_) (fun c_23 => ?_)
              · have h := h.1 c_23
                obtain ⟨x4_24, ex4_24⟩ : ∃ z : Int32, z = x4 + (nI 1) := ⟨_, rfl⟩
                have h := h x4_24 ex4_24
                refine J_iinc F (v := x4_24) (L' := [(4, .int x4_24), (0, .ref (gb G + 244)), (1, .int x1), (2, .int x2), (3, .int x3)]) 4 dX9_twinsIn_75 rfl (by rw [ki_1, ex4_24]) (by decide) rfl ?_
                refine J_goto F (tgt := 5) dX9_twinsIn_78 (by decide) ?_
                refine J_sub [1, 2, 3, 4, 0] rfl ?_
                exact i5 _ _ h
              · have h := h.2 c_23
                refine J_il F 4 dX9_twinsIn_72 rfl ?_
                refine J_isn F (L' := [(3, .int x4), (0, .ref (gb G + 244)), (1, .int x1), (2, .int x2), (4, .int x4)]) dX9_twinsIn_74 rfl (by decide) rfl ?_
                obtain ⟨x4_25, ex4_25⟩ : ∃ z : Int32, z = x4 + (nI 1) := ⟨_, rfl⟩
                have h := h x4_25 ex4_25
                refine J_iinc F (v := x4_25) (L' := [(4, .int x4_25), (3, .int x4), (0, .ref (gb G + 244)), (1, .int x1), (2, .int x2)]) 4 dX9_twinsIn_75 rfl (by rw [ki_1, ex4_25]) (by decide) rfl ?_
                refine J_goto F (tgt := 5) dX9_twinsIn_78 (by decide) ?_
                refine J_sub [2, 3, 4, 1, 0] rfl ?_
                exact i5 _ _ h
          · have h := h.2 c_16
            refine J_goto F (tgt := 75) dX9_twinsIn_52 (by decide) ?_
            obtain ⟨x4_26, ex4_26⟩ : ∃ z : Int32, z = x4 + (nI 1) := ⟨_, rfl⟩
            have h := h x4_26 ex4_26
            refine J_iinc F (v := x4_26) (L' := [(4, .int x4_26), (0, .ref (gb G + 244)), (1, .int x1), (2, .int x2), (3, .int x3)]) 4 dX9_twinsIn_75 rfl (by rw [ki_1, ex4_26]) (by decide) rfl ?_
            refine J_goto F (tgt := 5) dX9_twinsIn_78 (by decide) ?_
            refine J_sub [1, 2, 3, 4, 0] rfl ?_
            exact i5 _ _ h
set_option maxRecDepth 20000 in
set_option maxHeartbeats 4000000 in
theorem C_X9_twinsIn (l : Launch) (G : Gp) (x1 : Int32) (x2 : Int32)  {σ : St} {Q : Int32 → Prop} (h : wp_X9_twinsIn σ x1 x2 Q) : Cn l yX9_twinsIn cX9_twinsIn 5 (some .int) 1 22 G [.ref (gb G + 244), .int x1, .int x2] σ (qI (fun r σ' => σ' = σ ∧ Q r)) := by
  refine Cn_of (L := [(0, .ref (gb G + 244)), (1, .int x1), (2, .int x2)]) RX9 (by decide) rfl (Nat.le_of_ble_eq_true rfl) rfl ?_
  intro p e s m below meth c F
  unfold wp_X9_twinsIn at h
  refine J_ic F dX9_twinsIn_0 ki_m1 ?_
  refine J_isn F (L' := [(3, .int (-1)), (0, .ref (gb G + 244)), (1, .int x1), (2, .int x2)]) dX9_twinsIn_1 rfl (by decide) rfl ?_
  refine J_ic F dX9_twinsIn_2 ki_1 ?_
  refine J_is F (L' := [(4, .int (nI 1)), (3, .int (-1)), (0, .ref (gb G + 244)), (1, .int x1), (2, .int x2)]) dX9_twinsIn_3 (by decide) rfl ?_
  refine J_sub [2, 3, 4, 1, 0] rfl ?_
  obtain ⟨n9, h⟩ := h
  exact wk_X9_twinsIn_5 F  n9 _ _ h
theorem dX9_tidies_0 : decode cX9_tidies 0 = .ok (.aload_n 0, 1) := by decide +kernel
theorem dX9_tidies_1 : decode cX9_tidies 1 = .ok (.iload_n 1, 1) := by decide +kernel
theorem dX9_tidies_2 : decode cX9_tidies 2 = .ok (.invokevirtual 132, 3) := by decide +kernel
theorem dX9_tidies_5 : decode cX9_tidies 5 = .ok (.aload_n 0, 1) := by decide +kernel
theorem dX9_tidies_6 : decode cX9_tidies 6 = .ok (.invokevirtual 212, 3) := by decide +kernel
theorem dX9_tidies_9 : decode cX9_tidies 9 = .ok (.istore_n 2, 1) := by decide +kernel
theorem dX9_tidies_10 : decode cX9_tidies 10 = .ok (.iload_n 2, 1) := by decide +kernel
theorem dX9_tidies_11 : decode cX9_tidies 11 = .ok (.iconst (-1), 1) := by decide +kernel
theorem dX9_tidies_12 : decode cX9_tidies 12 = .ok (.if_icmp .eq 106, 3) := by decide +kernel
theorem dX9_tidies_15 : decode cX9_tidies 15 = .ok (.aload_n 0, 1) := by decide +kernel
theorem dX9_tidies_16 : decode cX9_tidies 16 = .ok (.iload_n 2, 1) := by decide +kernel
theorem dX9_tidies_17 : decode cX9_tidies 17 = .ok (.invokevirtual 215, 3) := by decide +kernel
theorem dX9_tidies_20 : decode cX9_tidies 20 = .ok (.istore_n 3, 1) := by decide +kernel
theorem dX9_tidies_21 : decode cX9_tidies 21 = .ok (.iload_n 3, 1) := by decide +kernel
theorem dX9_tidies_22 : decode cX9_tidies 22 = .ok (.iconst 1, 1) := by decide +kernel
theorem dX9_tidies_23 : decode cX9_tidies 23 = .ok (.ixor, 1) := by decide +kernel
theorem dX9_tidies_24 : decode cX9_tidies 24 = .ok (.istore 4, 2) := by decide +kernel
theorem dX9_tidies_26 : decode cX9_tidies 26 = .ok (.aload_n 0, 1) := by decide +kernel
theorem dX9_tidies_27 : decode cX9_tidies 27 = .ok (.iload_n 1, 1) := by decide +kernel
theorem dX9_tidies_28 : decode cX9_tidies 28 = .ok (.iload 4, 2) := by decide +kernel
theorem dX9_tidies_30 : decode cX9_tidies 30 = .ok (.invokevirtual 95, 3) := by decide +kernel
theorem dX9_tidies_33 : decode cX9_tidies 33 = .ok (.iconst (-1), 1) := by decide +kernel
theorem dX9_tidies_34 : decode cX9_tidies 34 = .ok (.if_icmp .eq 19, 3) := by decide +kernel
theorem dX9_tidies_37 : decode cX9_tidies 37 = .ok (.aload_n 0, 1) := by decide +kernel
theorem dX9_tidies_38 : decode cX9_tidies 38 = .ok (.iload_n 1, 1) := by decide +kernel
theorem dX9_tidies_39 : decode cX9_tidies 39 = .ok (.iload_n 3, 1) := by decide +kernel
theorem dX9_tidies_40 : decode cX9_tidies 40 = .ok (.aload_n 0, 1) := by decide +kernel
theorem dX9_tidies_41 : decode cX9_tidies 41 = .ok (.iload_n 1, 1) := by decide +kernel
theorem dX9_tidies_42 : decode cX9_tidies 42 = .ok (.iload 4, 2) := by decide +kernel
theorem dX9_tidies_44 : decode cX9_tidies 44 = .ok (.invokevirtual 95, 3) := by decide +kernel
theorem dX9_tidies_47 : decode cX9_tidies 47 = .ok (.invokevirtual 147, 3) := by decide +kernel
theorem dX9_tidies_50 : decode cX9_tidies 50 = .ok (.goto 55, 3) := by decide +kernel
theorem dX9_tidies_53 : decode cX9_tidies 53 = .ok (.aload_n 0, 1) := by decide +kernel
theorem dX9_tidies_54 : decode cX9_tidies 54 = .ok (.iload_n 1, 1) := by decide +kernel
theorem dX9_tidies_55 : decode cX9_tidies 55 = .ok (.iload 4, 2) := by decide +kernel
theorem dX9_tidies_57 : decode cX9_tidies 57 = .ok (.invokevirtual 218, 3) := by decide +kernel
theorem dX9_tidies_60 : decode cX9_tidies 60 = .ok (.istore 5, 2) := by decide +kernel
theorem dX9_tidies_62 : decode cX9_tidies 62 = .ok (.aload_n 0, 1) := by decide +kernel
theorem dX9_tidies_63 : decode cX9_tidies 63 = .ok (.iload_n 1, 1) := by decide +kernel
theorem dX9_tidies_64 : decode cX9_tidies 64 = .ok (.iload 5, 2) := by decide +kernel
theorem dX9_tidies_66 : decode cX9_tidies 66 = .ok (.iconst 1, 1) := by decide +kernel
theorem dX9_tidies_67 : decode cX9_tidies 67 = .ok (.invokestatic 81, 3) := by decide +kernel
theorem dX9_tidies_70 : decode cX9_tidies 70 = .ok (.invokevirtual 95, 3) := by decide +kernel
theorem dX9_tidies_73 : decode cX9_tidies 73 = .ok (.istore 6, 2) := by decide +kernel
theorem dX9_tidies_75 : decode cX9_tidies 75 = .ok (.aload_n 0, 1) := by decide +kernel
theorem dX9_tidies_76 : decode cX9_tidies 76 = .ok (.iload_n 1, 1) := by decide +kernel
theorem dX9_tidies_77 : decode cX9_tidies 77 = .ok (.iload 5, 2) := by decide +kernel
theorem dX9_tidies_79 : decode cX9_tidies 79 = .ok (.iconst 1, 1) := by decide +kernel
theorem dX9_tidies_80 : decode cX9_tidies 80 = .ok (.invokestatic 81, 3) := by decide +kernel
theorem dX9_tidies_83 : decode cX9_tidies 83 = .ok (.aload_n 0, 1) := by decide +kernel
theorem dX9_tidies_84 : decode cX9_tidies 84 = .ok (.iload_n 1, 1) := by decide +kernel
theorem dX9_tidies_85 : decode cX9_tidies 85 = .ok (.iload 5, 2) := by decide +kernel
theorem dX9_tidies_87 : decode cX9_tidies 87 = .ok (.iconst 0, 1) := by decide +kernel
theorem dX9_tidies_88 : decode cX9_tidies 88 = .ok (.invokestatic 81, 3) := by decide +kernel
theorem dX9_tidies_91 : decode cX9_tidies 91 = .ok (.invokevirtual 95, 3) := by decide +kernel
theorem dX9_tidies_94 : decode cX9_tidies 94 = .ok (.invokevirtual 147, 3) := by decide +kernel
theorem dX9_tidies_97 : decode cX9_tidies 97 = .ok (.aload_n 0, 1) := by decide +kernel
theorem dX9_tidies_98 : decode cX9_tidies 98 = .ok (.iload_n 1, 1) := by decide +kernel
theorem dX9_tidies_99 : decode cX9_tidies 99 = .ok (.iload_n 3, 1) := by decide +kernel
theorem dX9_tidies_100 : decode cX9_tidies 100 = .ok (.iload 6, 2) := by decide +kernel
theorem dX9_tidies_102 : decode cX9_tidies 102 = .ok (.invokevirtual 147, 3) := by decide +kernel
theorem dX9_tidies_105 : decode cX9_tidies 105 = .ok (.aload_n 0, 1) := by decide +kernel
theorem dX9_tidies_106 : decode cX9_tidies 106 = .ok (.iload_n 1, 1) := by decide +kernel
theorem dX9_tidies_107 : decode cX9_tidies 107 = .ok (.invokevirtual 132, 3) := by decide +kernel
theorem dX9_tidies_110 : decode cX9_tidies 110 = .ok (.aload_n 0, 1) := by decide +kernel
theorem dX9_tidies_111 : decode cX9_tidies 111 = .ok (.invokevirtual 212, 3) := by decide +kernel
theorem dX9_tidies_114 : decode cX9_tidies 114 = .ok (.istore_n 2, 1) := by decide +kernel
theorem dX9_tidies_115 : decode cX9_tidies 115 = .ok (.goto (-105), 3) := by decide +kernel
theorem dX9_tidies_118 : decode cX9_tidies 118 = .ok (.return_, 1) := by decide +kernel
set_option maxRecDepth 20000 in
set_option maxHeartbeats 4000000 in
theorem wk_X9_tidies_105 {p : Program} {l : Launch} {e : Env} {s : State} {m : MethodId} {args : Array Value} {below : List Frame} {meth : Method} {c : Code} {G : Gp} {σ : St} {x1 : Int32} {ih10 : St → Int32 → Prop} {Q : St → Prop} (F : FX p s m args meth c cX9_tidies 7 none RX9 G)  (i10 : ∀ (σ : St) (x2 : Int32), ih10 σ x2 → J p l e (rmF 3 70) s m args below meth c 7 G (MQ below (QQ G (qV Q)) args s 0 0 (fr G)) 0 0 10 [(0, .ref (gb G + 244)), (1, .int x1), (2, .int x2)] [] σ) (h : wp_X9_tidies_105 σ x1 ih10 Q) : J p l e (rmF 3 70) s m args below meth c 7 G (MQ below (QQ G (qV Q)) args s 0 0 (fr G)) 0 0 105 [(0, .ref (gb G + 244)), (1, .int x1)] [] σ := by
  unfold wp_X9_tidies_105 at h
  refine J_aln F 0 dX9_tidies_105 rfl rfl ?_
  refine J_iln F 1 dX9_tidies_106 rfl rfl ?_
  refine J_callVv F (As := [.int x1]) (st := []) (C_X9_laysList l G x1  h) (ci := 9) ly_244 (by decide) rfl rfl lm_X9_132 li_X9_laysList ls_X9_laysList ini_X9 lc_X9_laysList hd_X9_laysList (by decide) (Nat.le_of_ble_eq_true rfl) (by decide) rfl dX9_tidies_107 (fun σ_1 h => ?_)
  refine J_aln F 0 dX9_tidies_110 rfl rfl ?_
  refine J_callVi F (As := []) (st := []) (C_X9_manifold l G   h) (ci := 9) ly_244 (by decide) rfl rfl lm_X9_212 li_X9_manifold ls_X9_manifold ini_X9 lc_X9_manifold hd_X9_manifold (by decide) (Nat.le_of_ble_eq_true rfl) (by decide) rfl dX9_tidies_111 (fun r_2 σ_3 hh => ?_)
  clear h
  obtain ⟨e9, h⟩ := hh
  subst σ_3
  refine J_isn F (L' := [(2, .int r_2), (0, .ref (gb G + 244)), (1, .int x1)]) dX9_tidies_114 rfl (by decide) rfl ?_
  refine J_goto F (tgt := 10) dX9_tidies_115 (by decide) ?_
  refine J_sub [1, 2, 0] rfl ?_
  exact i10 _ _ h
set_option maxRecDepth 20000 in
set_option maxHeartbeats 4000000 in
theorem wk_X9_tidies_10 {p : Program} {l : Launch} {e : Env} {s : State} {m : MethodId} {args : Array Value} {below : List Frame} {meth : Method} {c : Code} {G : Gp} {x1 : Int32}  {Q : St → Prop} (F : FX p s m args meth c cX9_tidies 7 none RX9 G)   : ∀ (n9 : Nat) (σ : St) (x2 : Int32), LP2 (wp_X9_tidies_10 x1 Q) n9 σ x2 → J p l e (rmF 3 70) s m args below meth c 7 G (MQ below (QQ G (qV Q)) args s 0 0 (fr G)) 0 0 10 [(0, .ref (gb G + 244)), (1, .int x1), (2, .int x2)] [] σ := by
  intro n9
  induction n9 with
  | zero => intro σ x2 h; exact h.elim
  | succ n9 i10 =>
    intro σ x2 h
    have h : wp_X9_tidies_10 x1 Q (LP2 (wp_X9_tidies_10 x1 Q) n9) σ x2 := h
    unfold wp_X9_tidies_10 at h
    refine J_iln F 2 dX9_tidies_10 rfl rfl ?_
    refine J_ic F dX9_tidies_11 ki_m1 ?_
    refine J_ceq F (tgt := 118) dX9_tidies_12 (by decide) (fun c_4 => ?_) (fun c_4 => ?_)
    · have h := h.1 c_4
      exact J_retv F ⟨rfl, h⟩ dX9_tidies_118
    · have h := h.2 c_4
      refine J_aln F 0 dX9_tidies_15 rfl rfl ?_
      refine J_iln F 2 dX9_tidies_16 rfl rfl ?_
      refine J_callVi F (As := [.int x2]) (st := []) (C_X9_strayOf l G x2  h) (ci := 9) ly_244 (by decide) rfl rfl lm_X9_215 li_X9_strayOf ls_X9_strayOf ini_X9 lc_X9_strayOf hd_X9_strayOf (by decide) (Nat.le_of_ble_eq_true rfl) (by decide) rfl dX9_tidies_17 (fun r_5 σ_6 hh => ?_)
      clear h
      obtain ⟨e9, h⟩ := hh
      subst σ_6
      refine J_isn F (L' := [(3, .int r_5), (0, .ref (gb G + 244)), (1, .int x1), (2, .int x2)]) dX9_tidies_20 rfl (by decide) rfl ?_
      refine J_iln F 0 dX9_tidies_21 rfl rfl ?_
      refine J_ic F dX9_tidies_22 ki_1 ?_
      refine J_ixor F dX9_tidies_23 ?_
      refine J_top (fun x4_7 ex4_7 => ?_)
      have h := h x4_7 ex4_7
      refine J_is F (L' := [(4, .int x4_7), (3, .int r_5), (0, .ref (gb G + 244)), (1, .int x1), (2, .int x2)]) dX9_tidies_24 (by decide) rfl ?_
      refine J_aln F 2 dX9_tidies_26 rfl rfl ?_
      refine J_iln F 3 dX9_tidies_27 rfl rfl ?_
      refine J_il F 0 dX9_tidies_28 rfl ?_
      refine J_callVi F (As := [.int x1, .int x4_7]) (st := []) (C_X9_ownerOf l G x1 x4_7  h) (ci := 9) ly_244 (by decide) rfl rfl lm_X9_95 li_X9_ownerOf ls_X9_ownerOf ini_X9 lc_X9_ownerOf hd_X9_ownerOf (by decide) (Nat.le_of_ble_eq_true rfl) (by decide) rfl dX9_tidies_30 (fun r_8 σ_9 hh => ?_)
      clear h
      obtain ⟨e9, h⟩ := hh
      subst σ_9
      refine J_ic F dX9_tidies_33 ki_m1 ?_
      refine J_ceq F (tgt := 53) dX9_tidies_34 (by decide) (fun c_10 => ?_) (fun c_10 => ?_)
      · have h := h.1 c_10
        refine J_aln F 2 dX9_tidies_53 rfl rfl ?_
        refine J_iln F 3 dX9_tidies_54 rfl rfl ?_
        refine J_il F 0 dX9_tidies_55 rfl ?_
        refine J_callVi F (As := [.int x1, .int x4_7]) (st := []) (C_X9_twinsIn l G x1 x4_7  h) (ci := 9) ly_244 (by decide) rfl rfl lm_X9_218 li_X9_twinsIn ls_X9_twinsIn ini_X9 lc_X9_twinsIn hd_X9_twinsIn (by decide) (Nat.le_of_ble_eq_true rfl) (by decide) rfl dX9_tidies_57 (fun r_11 σ_12 hh => ?_)
        clear h
        obtain ⟨e9, h⟩ := hh
        subst σ_12
        refine J_is F (L' := [(5, .int r_11), (4, .int x4_7), (3, .int r_5), (0, .ref (gb G + 244)), (1, .int x1), (2, .int x2)]) dX9_tidies_60 (by decide) rfl ?_
        refine J_aln F 3 dX9_tidies_62 rfl rfl ?_
        refine J_iln F 4 dX9_tidies_63 rfl rfl ?_
        refine J_il F 0 dX9_tidies_64 rfl ?_
        refine J_ic F dX9_tidies_66 ki_1 ?_
        refine J_callSi F (As := [.int r_11, .int (nI 1)]) (st := [.int x1, .ref (gb G + 244)]) (C_X9_halfAt l G r_11 (nI 1)  h) lm_X9_81 li_X9_halfAt ini_X9 lc_X9_halfAt hd_X9_halfAt (by decide) (Nat.le_of_ble_eq_true rfl) (by decide) rfl dX9_tidies_67 (fun r_13 σ_14 hh => ?_)
        clear h
        obtain ⟨e9, h⟩ := hh
        subst σ_14
        refine J_callVi F (As := [.int x1, .int r_13]) (st := []) (C_X9_ownerOf l G x1 r_13  h) (ci := 9) ly_244 (by decide) rfl rfl lm_X9_95 li_X9_ownerOf ls_X9_ownerOf ini_X9 lc_X9_ownerOf hd_X9_ownerOf (by decide) (Nat.le_of_ble_eq_true rfl) (by decide) rfl dX9_tidies_70 (fun r_15 σ_16 hh => ?_)
        clear h
        obtain ⟨e9, h⟩ := hh
        subst σ_16
        refine J_is F (L' := [(6, .int r_15), (5, .int r_11), (4, .int x4_7), (3, .int r_5), (0, .ref (gb G + 244)), (1, .int x1), (2, .int x2)]) dX9_tidies_73 (by decide) rfl ?_
        refine J_aln F 4 dX9_tidies_75 rfl rfl ?_
        refine J_iln F 5 dX9_tidies_76 rfl rfl ?_
        refine J_il F 1 dX9_tidies_77 rfl ?_
        refine J_ic F dX9_tidies_79 ki_1 ?_
        refine J_callSi F (As := [.int r_11, .int (nI 1)]) (st := [.int x1, .ref (gb G + 244)]) (C_X9_halfAt l G r_11 (nI 1)  h) lm_X9_81 li_X9_halfAt ini_X9 lc_X9_halfAt hd_X9_halfAt (by decide) (Nat.le_of_ble_eq_true rfl) (by decide) rfl dX9_tidies_80 (fun r_17 σ_18 hh => ?_)
        clear h
        obtain ⟨e9, h⟩ := hh
        subst σ_18
        refine J_aln F 4 dX9_tidies_83 rfl rfl ?_
        refine J_iln F 5 dX9_tidies_84 rfl rfl ?_
        refine J_il F 1 dX9_tidies_85 rfl ?_
        refine J_ic F dX9_tidies_87 ki_0 ?_
        refine J_callSi F (As := [.int r_11, .int (nI 0)]) (st := [.int x1, .ref (gb G + 244), .int r_17, .int x1, .ref (gb G + 244)]) (C_X9_halfAt l G r_11 (nI 0)  h) lm_X9_81 li_X9_halfAt ini_X9 lc_X9_halfAt hd_X9_halfAt (by decide) (Nat.le_of_ble_eq_true rfl) (by decide) rfl dX9_tidies_88 (fun r_19 σ_20 hh => ?_)
        clear h
        obtain ⟨e9, h⟩ := hh
        subst σ_20
        refine J_callVi F (As := [.int x1, .int r_19]) (st := [.int r_17, .int x1, .ref (gb G + 244)]) (C_X9_ownerOf l G x1 r_19  h) (ci := 9) ly_244 (by decide) rfl rfl lm_X9_95 li_X9_ownerOf ls_X9_ownerOf ini_X9 lc_X9_ownerOf hd_X9_ownerOf (by decide) (Nat.le_of_ble_eq_true rfl) (by decide) rfl dX9_tidies_91 (fun r_21 σ_22 hh => ?_)
        clear h
        obtain ⟨e9, h⟩ := hh
        subst σ_22
        refine J_callVv F (As := [.int x1, .int r_17, .int r_21]) (st := []) (C_X9_gives l G x1 r_17 r_21  h) (ci := 9) ly_244 (by decide) rfl rfl lm_X9_147 li_X9_gives ls_X9_gives ini_X9 lc_X9_gives hd_X9_gives (by decide) (Nat.le_of_ble_eq_true rfl) (by decide) rfl dX9_tidies_94 (fun σ_23 h => ?_)
        refine J_aln F 4 dX9_tidies_97 rfl rfl ?_
        refine J_iln F 5 dX9_tidies_98 rfl rfl ?_
        refine J_iln F 3 dX9_tidies_99 rfl rfl ?_
        refine J_il F 0 dX9_tidies_100 rfl ?_
        refine J_callVv F (As := [.int x1, .int r_5, .int r_15]) (st := []) (C_X9_gives l G x1 r_5 r_15  h) (ci := 9) ly_244 (by decide) rfl rfl lm_X9_147 li_X9_gives ls_X9_gives ini_X9 lc_X9_gives hd_X9_gives (by decide) (Nat.le_of_ble_eq_true rfl) (by decide) rfl dX9_tidies_102 (fun σ_24 h => ?_)
        refine J_sub [4, 5] rfl ?_
        exact wk_X9_tidies_105 F i10 h
      · have h := h.2 c_10
        refine J_aln F 2 dX9_tidies_37 rfl rfl ?_
        refine J_iln F 3 dX9_tidies_38 rfl rfl ?_
        refine J_iln F 1 dX9_tidies_39 rfl rfl ?_
        refine J_aln F 2 dX9_tidies_40 rfl rfl ?_
        refine J_iln F 3 dX9_tidies_41 rfl rfl ?_
        refine J_il F 0 dX9_tidies_42 rfl ?_
        refine J_callVi F (As := [.int x1, .int x4_7]) (st := [.int r_5, .int x1, .ref (gb G + 244)]) (C_X9_ownerOf l G x1 x4_7  h) (ci := 9) ly_244 (by decide) rfl rfl lm_X9_95 li_X9_ownerOf ls_X9_ownerOf ini_X9 lc_X9_ownerOf hd_X9_ownerOf (by decide) (Nat.le_of_ble_eq_true rfl) (by decide) rfl dX9_tidies_44 (fun r_25 σ_26 hh => ?_)
        clear h
        obtain ⟨e9, h⟩ := hh
        subst σ_26
        refine J_callVv F (As := [.int x1, .int r_5, .int r_25]) (st := []) (C_X9_gives l G x1 r_5 r_25  h) (ci := 9) ly_244 (by decide) rfl rfl lm_X9_147 li_X9_gives ls_X9_gives ini_X9 lc_X9_gives hd_X9_gives (by decide) (Nat.le_of_ble_eq_true rfl) (by decide) rfl dX9_tidies_47 (fun σ_27 h => ?_)
        refine J_goto F (tgt := 105) dX9_tidies_50 (by decide) ?_
        refine J_sub [2, 3] rfl ?_
        exact wk_X9_tidies_105 F i10 h
set_option maxRecDepth 20000 in
set_option maxHeartbeats 4000000 in
theorem C_X9_tidies (l : Launch) (G : Gp) (x1 : Int32)  {σ : St} {Q : St → Prop} (h : wp_X9_tidies σ x1 Q) : Cn l yX9_tidies cX9_tidies 7 none 3 70 G [.ref (gb G + 244), .int x1] σ (qV Q) := by
  refine Cn_of (L := [(0, .ref (gb G + 244)), (1, .int x1)]) RX9 (by decide) rfl (Nat.le_of_ble_eq_true rfl) rfl ?_
  intro p e s m below meth c F
  unfold wp_X9_tidies at h
  refine J_aln F 0 dX9_tidies_0 rfl rfl ?_
  refine J_iln F 1 dX9_tidies_1 rfl rfl ?_
  refine J_callVv F (As := [.int x1]) (st := []) (C_X9_laysList l G x1  h) (ci := 9) ly_244 (by decide) rfl rfl lm_X9_132 li_X9_laysList ls_X9_laysList ini_X9 lc_X9_laysList hd_X9_laysList (by decide) (Nat.le_of_ble_eq_true rfl) (by decide) rfl dX9_tidies_2 (fun σ_28 h => ?_)
  refine J_aln F 0 dX9_tidies_5 rfl rfl ?_
  refine J_callVi F (As := []) (st := []) (C_X9_manifold l G   h) (ci := 9) ly_244 (by decide) rfl rfl lm_X9_212 li_X9_manifold ls_X9_manifold ini_X9 lc_X9_manifold hd_X9_manifold (by decide) (Nat.le_of_ble_eq_true rfl) (by decide) rfl dX9_tidies_6 (fun r_29 σ_30 hh => ?_)
  clear h
  obtain ⟨e9, h⟩ := hh
  subst σ_30
  refine J_isn F (L' := [(2, .int r_29), (0, .ref (gb G + 244)), (1, .int x1)]) dX9_tidies_9 rfl (by decide) rfl ?_
  refine J_sub [1, 2, 0] rfl ?_
  obtain ⟨n9, h⟩ := h
  exact wk_X9_tidies_10 F  n9 _ _ h
theorem dX9_allZones_0 : decode cX9_allZones 0 = .ok (.iconst 0, 1) := by decide +kernel
theorem dX9_allZones_1 : decode cX9_allZones 1 = .ok (.istore_n 1, 1) := by decide +kernel
theorem dX9_allZones_2 : decode cX9_allZones 2 = .ok (.iconst 0, 1) := by decide +kernel
theorem dX9_allZones_3 : decode cX9_allZones 3 = .ok (.istore_n 2, 1) := by decide +kernel
theorem dX9_allZones_4 : decode cX9_allZones 4 = .ok (.iload_n 2, 1) := by decide +kernel
theorem dX9_allZones_5 : decode cX9_allZones 5 = .ok (.aload_n 0, 1) := by decide +kernel
theorem dX9_allZones_6 : decode cX9_allZones 6 = .ok (.getfield 7, 3) := by decide +kernel
theorem dX9_allZones_9 : decode cX9_allZones 9 = .ok (.bipush 37, 2) := by decide +kernel
theorem dX9_allZones_11 : decode cX9_allZones 11 = .ok (.iaload, 1) := by decide +kernel
theorem dX9_allZones_12 : decode cX9_allZones 12 = .ok (.if_icmp .ge 21, 3) := by decide +kernel
theorem dX9_allZones_15 : decode cX9_allZones 15 = .ok (.aload_n 0, 1) := by decide +kernel
theorem dX9_allZones_16 : decode cX9_allZones 16 = .ok (.iload_n 2, 1) := by decide +kernel
theorem dX9_allZones_17 : decode cX9_allZones 17 = .ok (.invokevirtual 132, 3) := by decide +kernel
theorem dX9_allZones_20 : decode cX9_allZones 20 = .ok (.iload_n 1, 1) := by decide +kernel
theorem dX9_allZones_21 : decode cX9_allZones 21 = .ok (.aload_n 0, 1) := by decide +kernel
theorem dX9_allZones_22 : decode cX9_allZones 22 = .ok (.getfield 113, 3) := by decide +kernel
theorem dX9_allZones_25 : decode cX9_allZones 25 = .ok (.iadd, 1) := by decide +kernel
theorem dX9_allZones_26 : decode cX9_allZones 26 = .ok (.istore_n 1, 1) := by decide +kernel
theorem dX9_allZones_27 : decode cX9_allZones 27 = .ok (.iinc 2 1, 3) := by decide +kernel
theorem dX9_allZones_30 : decode cX9_allZones 30 = .ok (.goto (-26), 3) := by decide +kernel
theorem dX9_allZones_33 : decode cX9_allZones 33 = .ok (.iload_n 1, 1) := by decide +kernel
theorem dX9_allZones_34 : decode cX9_allZones 34 = .ok (.ireturn, 1) := by decide +kernel
set_option maxRecDepth 20000 in
set_option maxHeartbeats 4000000 in
theorem wk_X9_allZones_4 {p : Program} {l : Launch} {e : Env} {s : State} {m : MethodId} {args : Array Value} {below : List Frame} {meth : Method} {c : Code} {G : Gp}   {Q : Int32 → St → Prop} (F : FX p s m args meth c cX9_allZones 3 (some .int) RX9 G)   : ∀ (n9 : Nat) (σ : St) (x1 : Int32) (x2 : Int32), LP3 (wp_X9_allZones_4 Q) n9 σ x1 x2 → J p l e (rmF 3 66) s m args below meth c 3 G (MQ below (QQ G (qI Q)) args s 0 0 (fr G)) 0 0 4 [(0, .ref (gb G + 244)), (1, .int x1), (2, .int x2)] [] σ := by
  intro n9
  induction n9 with
  | zero => intro σ x1 x2 h; exact h.elim
  | succ n9 i4 =>
    intro σ x1 x2 h
    have h : wp_X9_allZones_4 Q (LP3 (wp_X9_allZones_4 Q) n9) σ x1 x2 := h
    unfold wp_X9_allZones_4 at h
    refine J_iln F 2 dX9_allZones_4 rfl rfl ?_
    refine J_aln F 0 dX9_allZones_5 rfl rfl ?_
    refine J_gfa F (ci := 9) 1 rfl inX9 ly_244 (by decide) (by decide) rfl lf_X9_7 rfl dX9_allZones_6 ?_
    refine J_bi F dX9_allZones_9 kb_37 ?_
    refine J_ialdc F ly_245 (by decide) (by decide) dX9_allZones_11 ?_
    refine J_cge F (tgt := 33) dX9_allZones_12 (by decide) (fun c_1 => ?_) (fun c_1 => ?_)
    · have h := h.1 c_1
      refine J_iln F 1 dX9_allZones_33 rfl rfl ?_
      exact J_reti F ⟨_, rfl, h⟩ dX9_allZones_34
    · have h := h.2 c_1
      refine J_aln F 0 dX9_allZones_15 rfl rfl ?_
      refine J_iln F 2 dX9_allZones_16 rfl rfl ?_
      refine J_callVv F (As := [.int x2]) (st := []) (C_X9_laysList l G x2  h) (ci := 9) ly_244 (by decide) rfl rfl lm_X9_132 li_X9_laysList ls_X9_laysList ini_X9 lc_X9_laysList hd_X9_laysList (by decide) (Nat.le_of_ble_eq_true rfl) (by decide) rfl dX9_allZones_17 (fun σ_2 h => ?_)
      refine J_iln F 1 dX9_allZones_20 rfl rfl ?_
      refine J_aln F 0 dX9_allZones_21 rfl rfl ?_
      refine J_gfi F (ci := 9) 23 rfl inX9 ly_244 (by decide) (by decide) rfl lf_X9_113 rfl dX9_allZones_22 ?_
      refine J_iadd F dX9_allZones_25 ?_
      refine J_top (fun x1_3 ex1_3 => ?_)
      have h := h x1_3 ex1_3
      refine J_isn F (L' := [(1, .int x1_3), (0, .ref (gb G + 244)), (2, .int x2)]) dX9_allZones_26 rfl (by decide) rfl ?_
      obtain ⟨x2_4, ex2_4⟩ : ∃ z : Int32, z = x2 + (nI 1) := ⟨_, rfl⟩
      have h := h x2_4 ex2_4
      refine J_iinc F (v := x2_4) (L' := [(2, .int x2_4), (1, .int x1_3), (0, .ref (gb G + 244))]) 2 dX9_allZones_27 rfl (by rw [ki_1, ex2_4]) (by decide) rfl ?_
      refine J_goto F (tgt := 4) dX9_allZones_30 (by decide) ?_
      refine J_sub [2, 1, 0] rfl ?_
      exact i4 _ _ _ h
set_option maxRecDepth 20000 in
set_option maxHeartbeats 4000000 in
theorem C_X9_allZones (l : Launch) (G : Gp)   {σ : St} {Q : Int32 → St → Prop} (h : wp_X9_allZones σ  Q) : Cn l yX9_allZones cX9_allZones 3 (some .int) 3 66 G [.ref (gb G + 244)] σ (qI Q) := by
  refine Cn_of (L := [(0, .ref (gb G + 244))]) RX9 (by decide) rfl (Nat.le_of_ble_eq_true rfl) rfl ?_
  intro p e s m below meth c F
  unfold wp_X9_allZones at h
  refine J_ic F dX9_allZones_0 ki_0 ?_
  refine J_isn F (L' := [(1, .int (nI 0)), (0, .ref (gb G + 244))]) dX9_allZones_1 rfl (by decide) rfl ?_
  refine J_ic F dX9_allZones_2 ki_0 ?_
  refine J_isn F (L' := [(2, .int (nI 0)), (1, .int (nI 0)), (0, .ref (gb G + 244))]) dX9_allZones_3 rfl (by decide) rfl ?_
  refine J_sub [2, 1, 0] rfl ?_
  obtain ⟨n9, h⟩ := h
  exact wk_X9_allZones_4 F  n9 _ _ _ h
theorem dX9_tidy0_0 : decode cX9_tidy0 0 = .ok (.aload_n 0, 1) := by decide +kernel
theorem dX9_tidy0_1 : decode cX9_tidy0 1 = .ok (.iconst 2, 1) := by decide +kernel
theorem dX9_tidy0_2 : decode cX9_tidy0 2 = .ok (.invokevirtual 92, 3) := by decide +kernel
theorem dX9_tidy0_5 : decode cX9_tidy0 5 = .ok (.ifCond .le 6, 3) := by decide +kernel
theorem dX9_tidy0_8 : decode cX9_tidy0 8 = .ok (.bipush 7, 2) := by decide +kernel
theorem dX9_tidy0_10 : decode cX9_tidy0 10 = .ok (.ireturn, 1) := by decide +kernel
theorem dX9_tidy0_11 : decode cX9_tidy0 11 = .ok (.iconst 0, 1) := by decide +kernel
theorem dX9_tidy0_12 : decode cX9_tidy0 12 = .ok (.istore_n 1, 1) := by decide +kernel
theorem dX9_tidy0_13 : decode cX9_tidy0 13 = .ok (.iload_n 1, 1) := by decide +kernel
theorem dX9_tidy0_14 : decode cX9_tidy0 14 = .ok (.aload_n 0, 1) := by decide +kernel
theorem dX9_tidy0_15 : decode cX9_tidy0 15 = .ok (.getfield 7, 3) := by decide +kernel
theorem dX9_tidy0_18 : decode cX9_tidy0 18 = .ok (.bipush 37, 2) := by decide +kernel
theorem dX9_tidy0_20 : decode cX9_tidy0 20 = .ok (.iaload, 1) := by decide +kernel
theorem dX9_tidy0_21 : decode cX9_tidy0 21 = .ok (.if_icmp .ge 14, 3) := by decide +kernel
theorem dX9_tidy0_24 : decode cX9_tidy0 24 = .ok (.aload_n 0, 1) := by decide +kernel
theorem dX9_tidy0_25 : decode cX9_tidy0 25 = .ok (.iload_n 1, 1) := by decide +kernel
theorem dX9_tidy0_26 : decode cX9_tidy0 26 = .ok (.invokevirtual 221, 3) := by decide +kernel
theorem dX9_tidy0_29 : decode cX9_tidy0 29 = .ok (.iinc 1 1, 3) := by decide +kernel
theorem dX9_tidy0_32 : decode cX9_tidy0 32 = .ok (.goto (-19), 3) := by decide +kernel
theorem dX9_tidy0_35 : decode cX9_tidy0 35 = .ok (.iconst 0, 1) := by decide +kernel
theorem dX9_tidy0_36 : decode cX9_tidy0 36 = .ok (.ireturn, 1) := by decide +kernel
set_option maxRecDepth 20000 in
set_option maxHeartbeats 4000000 in
theorem wk_X9_tidy0_13 {p : Program} {l : Launch} {e : Env} {s : State} {m : MethodId} {args : Array Value} {below : List Frame} {meth : Method} {c : Code} {G : Gp}   {Q : Int32 → St → Prop} (F : FX p s m args meth c cX9_tidy0 2 (some .int) RX9 G)   : ∀ (n9 : Nat) (σ : St) (x1 : Int32), LP2 (wp_X9_tidy0_13 Q) n9 σ x1 → J p l e (rmF 4 96) s m args below meth c 2 G (MQ below (QQ G (qI Q)) args s 0 0 (fr G)) 0 0 13 [(0, .ref (gb G + 244)), (1, .int x1)] [] σ := by
  intro n9
  induction n9 with
  | zero => intro σ x1 h; exact h.elim
  | succ n9 i13 =>
    intro σ x1 h
    have h : wp_X9_tidy0_13 Q (LP2 (wp_X9_tidy0_13 Q) n9) σ x1 := h
    unfold wp_X9_tidy0_13 at h
    refine J_iln F 1 dX9_tidy0_13 rfl rfl ?_
    refine J_aln F 0 dX9_tidy0_14 rfl rfl ?_
    refine J_gfa F (ci := 9) 1 rfl inX9 ly_244 (by decide) (by decide) rfl lf_X9_7 rfl dX9_tidy0_15 ?_
    refine J_bi F dX9_tidy0_18 kb_37 ?_
    refine J_ialdc F ly_245 (by decide) (by decide) dX9_tidy0_20 ?_
    refine J_cge F (tgt := 35) dX9_tidy0_21 (by decide) (fun c_1 => ?_) (fun c_1 => ?_)
    · have h := h.1 c_1
      refine J_ic F dX9_tidy0_35 ki_0 ?_
      exact J_reti F ⟨_, rfl, h⟩ dX9_tidy0_36
    · have h := h.2 c_1
      refine J_aln F 0 dX9_tidy0_24 rfl rfl ?_
      refine J_iln F 1 dX9_tidy0_25 rfl rfl ?_
      refine J_callVv F (As := [.int x1]) (st := []) (C_X9_tidies l G x1  h) (ci := 9) ly_244 (by decide) rfl rfl lm_X9_221 li_X9_tidies ls_X9_tidies ini_X9 lc_X9_tidies hd_X9_tidies (by decide) (Nat.le_of_ble_eq_true rfl) (by decide) rfl dX9_tidy0_26 (fun σ_2 h => ?_)
      obtain ⟨x1_3, ex1_3⟩ : ∃ z : Int32, z = x1 + (nI 1) := ⟨_, rfl⟩
      have h := h x1_3 ex1_3
      refine J_iinc F (v := x1_3) (L' := [(1, .int x1_3), (0, .ref (gb G + 244))]) 1 dX9_tidy0_29 rfl (by rw [ki_1, ex1_3]) (by decide) rfl ?_
      refine J_goto F (tgt := 13) dX9_tidy0_32 (by decide) ?_
      refine J_sub [1, 0] rfl ?_
      exact i13 _ _ h
set_option maxRecDepth 20000 in
set_option maxHeartbeats 4000000 in
theorem C_X9_tidy0 (l : Launch) (G : Gp)   {σ : St} {Q : Int32 → St → Prop} (h : wp_X9_tidy0 σ  Q) : Cn l yX9_tidy0 cX9_tidy0 2 (some .int) 4 96 G [.ref (gb G + 244)] σ (qI Q) := by
  refine Cn_of (L := [(0, .ref (gb G + 244))]) RX9 (by decide) rfl (Nat.le_of_ble_eq_true rfl) rfl ?_
  intro p e s m below meth c F
  unfold wp_X9_tidy0 at h
  refine J_aln F 0 dX9_tidy0_0 rfl rfl ?_
  refine J_ic F dX9_tidy0_1 ki_2 ?_
  refine J_callVi F (As := [.int (nI 2)]) (st := []) (C_X9_countOf l G (nI 2)  h) (ci := 9) ly_244 (by decide) rfl rfl lm_X9_92 li_X9_countOf ls_X9_countOf ini_X9 lc_X9_countOf hd_X9_countOf (by decide) (Nat.le_of_ble_eq_true rfl) (by decide) rfl dX9_tidy0_2 (fun r_4 σ_5 hh => ?_)
  clear h
  obtain ⟨e9, h⟩ := hh
  subst σ_5
  refine J_zle F (tgt := 11) dX9_tidy0_5 (by decide) (fun c_6 => ?_) (fun c_6 => ?_)
  · have h := h.1 c_6
    refine J_ic F dX9_tidy0_11 ki_0 ?_
    refine J_isn F (L' := [(1, .int (nI 0)), (0, .ref (gb G + 244))]) dX9_tidy0_12 rfl (by decide) rfl ?_
    refine J_sub [1, 0] rfl ?_
    obtain ⟨n9, h⟩ := h
    exact wk_X9_tidy0_13 F  n9 _ _ h
  · have h := h.2 c_6
    refine J_bi F dX9_tidy0_8 kb_7 ?_
    exact J_reti F ⟨_, rfl, h⟩ dX9_tidy0_10
theorem dX9_put0_0 : decode cX9_put0 0 = .ok (.iconst 0, 1) := by decide +kernel
theorem dX9_put0_1 : decode cX9_put0 1 = .ok (.istore_n 3, 1) := by decide +kernel
theorem dX9_put0_2 : decode cX9_put0 2 = .ok (.iconst 0, 1) := by decide +kernel
theorem dX9_put0_3 : decode cX9_put0 3 = .ok (.istore 4, 2) := by decide +kernel
theorem dX9_put0_5 : decode cX9_put0 5 = .ok (.iload 4, 2) := by decide +kernel
theorem dX9_put0_7 : decode cX9_put0 7 = .ok (.aload_n 0, 1) := by decide +kernel
theorem dX9_put0_8 : decode cX9_put0 8 = .ok (.getfield 7, 3) := by decide +kernel
theorem dX9_put0_11 : decode cX9_put0 11 = .ok (.bipush 37, 2) := by decide +kernel
theorem dX9_put0_13 : decode cX9_put0 13 = .ok (.iaload, 1) := by decide +kernel
theorem dX9_put0_14 : decode cX9_put0 14 = .ok (.if_icmp .ge 30, 3) := by decide +kernel
theorem dX9_put0_17 : decode cX9_put0 17 = .ok (.iload_n 3, 1) := by decide +kernel
theorem dX9_put0_18 : decode cX9_put0 18 = .ok (.aload_n 0, 1) := by decide +kernel
theorem dX9_put0_19 : decode cX9_put0 19 = .ok (.iload_n 1, 1) := by decide +kernel
theorem dX9_put0_20 : decode cX9_put0 20 = .ok (.iload 4, 2) := by decide +kernel
theorem dX9_put0_22 : decode cX9_put0 22 = .ok (.invokevirtual 224, 3) := by decide +kernel
theorem dX9_put0_25 : decode cX9_put0 25 = .ok (.ifCond .eq 10, 3) := by decide +kernel
theorem dX9_put0_28 : decode cX9_put0 28 = .ok (.iconst 1, 1) := by decide +kernel
theorem dX9_put0_29 : decode cX9_put0 29 = .ok (.iload 4, 2) := by decide +kernel
theorem dX9_put0_31 : decode cX9_put0 31 = .ok (.ishl, 1) := by decide +kernel
theorem dX9_put0_32 : decode cX9_put0 32 = .ok (.goto 4, 3) := by decide +kernel
theorem dX9_put0_35 : decode cX9_put0 35 = .ok (.iconst 0, 1) := by decide +kernel
theorem dX9_put0_36 : decode cX9_put0 36 = .ok (.ior, 1) := by decide +kernel
theorem dX9_put0_37 : decode cX9_put0 37 = .ok (.istore_n 3, 1) := by decide +kernel
theorem dX9_put0_38 : decode cX9_put0 38 = .ok (.iinc 4 1, 3) := by decide +kernel
theorem dX9_put0_41 : decode cX9_put0 41 = .ok (.goto (-36), 3) := by decide +kernel
theorem dX9_put0_44 : decode cX9_put0 44 = .ok (.iload_n 3, 1) := by decide +kernel
theorem dX9_put0_45 : decode cX9_put0 45 = .ok (.ifCond .ne 6, 3) := by decide +kernel
theorem dX9_put0_48 : decode cX9_put0 48 = .ok (.bipush 8, 2) := by decide +kernel
theorem dX9_put0_50 : decode cX9_put0 50 = .ok (.ireturn, 1) := by decide +kernel
theorem dX9_put0_51 : decode cX9_put0 51 = .ok (.aload_n 0, 1) := by decide +kernel
theorem dX9_put0_52 : decode cX9_put0 52 = .ok (.getfield 7, 3) := by decide +kernel
theorem dX9_put0_55 : decode cX9_put0 55 = .ok (.bipush 38, 2) := by decide +kernel
theorem dX9_put0_57 : decode cX9_put0 57 = .ok (.iload_n 1, 1) := by decide +kernel
theorem dX9_put0_58 : decode cX9_put0 58 = .ok (.iadd, 1) := by decide +kernel
theorem dX9_put0_59 : decode cX9_put0 59 = .ok (.iconst 1, 1) := by decide +kernel
theorem dX9_put0_60 : decode cX9_put0 60 = .ok (.iastore, 1) := by decide +kernel
theorem dX9_put0_61 : decode cX9_put0 61 = .ok (.aload_n 0, 1) := by decide +kernel
theorem dX9_put0_62 : decode cX9_put0 62 = .ok (.getfield 7, 3) := by decide +kernel
theorem dX9_put0_65 : decode cX9_put0 65 = .ok (.sipush 138, 3) := by decide +kernel
theorem dX9_put0_68 : decode cX9_put0 68 = .ok (.iload_n 1, 1) := by decide +kernel
theorem dX9_put0_69 : decode cX9_put0 69 = .ok (.iadd, 1) := by decide +kernel
theorem dX9_put0_70 : decode cX9_put0 70 = .ok (.iload_n 2, 1) := by decide +kernel
theorem dX9_put0_71 : decode cX9_put0 71 = .ok (.iastore, 1) := by decide +kernel
theorem dX9_put0_72 : decode cX9_put0 72 = .ok (.iconst 0, 1) := by decide +kernel
theorem dX9_put0_73 : decode cX9_put0 73 = .ok (.istore 4, 2) := by decide +kernel
theorem dX9_put0_75 : decode cX9_put0 75 = .ok (.iload 4, 2) := by decide +kernel
theorem dX9_put0_77 : decode cX9_put0 77 = .ok (.aload_n 0, 1) := by decide +kernel
theorem dX9_put0_78 : decode cX9_put0 78 = .ok (.getfield 7, 3) := by decide +kernel
theorem dX9_put0_81 : decode cX9_put0 81 = .ok (.bipush 37, 2) := by decide +kernel
theorem dX9_put0_83 : decode cX9_put0 83 = .ok (.iaload, 1) := by decide +kernel
theorem dX9_put0_84 : decode cX9_put0 84 = .ok (.if_icmp .ge 31, 3) := by decide +kernel
theorem dX9_put0_87 : decode cX9_put0 87 = .ok (.aload_n 0, 1) := by decide +kernel
theorem dX9_put0_88 : decode cX9_put0 88 = .ok (.getfield 7, 3) := by decide +kernel
theorem dX9_put0_91 : decode cX9_put0 91 = .ok (.sipush 238, 3) := by decide +kernel
theorem dX9_put0_94 : decode cX9_put0 94 = .ok (.bipush 100, 2) := by decide +kernel
theorem dX9_put0_96 : decode cX9_put0 96 = .ok (.iload 4, 2) := by decide +kernel
theorem dX9_put0_98 : decode cX9_put0 98 = .ok (.imul, 1) := by decide +kernel
theorem dX9_put0_99 : decode cX9_put0 99 = .ok (.iadd, 1) := by decide +kernel
theorem dX9_put0_100 : decode cX9_put0 100 = .ok (.iload_n 1, 1) := by decide +kernel
theorem dX9_put0_101 : decode cX9_put0 101 = .ok (.iadd, 1) := by decide +kernel
theorem dX9_put0_102 : decode cX9_put0 102 = .ok (.iload_n 3, 1) := by decide +kernel
theorem dX9_put0_103 : decode cX9_put0 103 = .ok (.iload 4, 2) := by decide +kernel
theorem dX9_put0_105 : decode cX9_put0 105 = .ok (.ishr, 1) := by decide +kernel
theorem dX9_put0_106 : decode cX9_put0 106 = .ok (.iconst 1, 1) := by decide +kernel
theorem dX9_put0_107 : decode cX9_put0 107 = .ok (.iand, 1) := by decide +kernel
theorem dX9_put0_108 : decode cX9_put0 108 = .ok (.iastore, 1) := by decide +kernel
theorem dX9_put0_109 : decode cX9_put0 109 = .ok (.iinc 4 1, 3) := by decide +kernel
theorem dX9_put0_112 : decode cX9_put0 112 = .ok (.goto (-37), 3) := by decide +kernel
theorem dX9_put0_115 : decode cX9_put0 115 = .ok (.iconst 0, 1) := by decide +kernel
theorem dX9_put0_116 : decode cX9_put0 116 = .ok (.ireturn, 1) := by decide +kernel
set_option maxRecDepth 20000 in
set_option maxHeartbeats 4000000 in
theorem wk_X9_put0_75 {p : Program} {l : Launch} {e : Env} {s : State} {m : MethodId} {args : Array Value} {below : List Frame} {meth : Method} {c : Code} {G : Gp} {x1 : Int32} {x3 : Int32}  {Q : Int32 → St → Prop} (F : FX p s m args meth c cX9_put0 5 (some .int) RX9 G)   : ∀ (n9 : Nat) (σ : St) (x4 : Int32), LP2 (wp_X9_put0_75 x1 x3 Q) n9 σ x4 → J p l e (rmF 7 160) s m args below meth c 5 G (MQ below (QQ G (qI Q)) args s 0 0 (fr G)) 0 0 75 [(0, .ref (gb G + 244)), (1, .int x1), (3, .int x3), (4, .int x4)] [] σ := by
  intro n9
  induction n9 with
  | zero => intro σ x4 h; exact h.elim
  | succ n9 i75 =>
    intro σ x4 h
    have h : wp_X9_put0_75 x1 x3 Q (LP2 (wp_X9_put0_75 x1 x3 Q) n9) σ x4 := h
    unfold wp_X9_put0_75 at h
    refine J_il F 3 dX9_put0_75 rfl ?_
    refine J_aln F 0 dX9_put0_77 rfl rfl ?_
    refine J_gfa F (ci := 9) 1 rfl inX9 ly_244 (by decide) (by decide) rfl lf_X9_7 rfl dX9_put0_78 ?_
    refine J_bi F dX9_put0_81 kb_37 ?_
    refine J_ialdc F ly_245 (by decide) (by decide) dX9_put0_83 ?_
    refine J_cge F (tgt := 115) dX9_put0_84 (by decide) (fun c_1 => ?_) (fun c_1 => ?_)
    · have h := h.1 c_1
      refine J_ic F dX9_put0_115 ki_0 ?_
      exact J_reti F ⟨_, rfl, h⟩ dX9_put0_116
    · have h := h.2 c_1
      refine J_aln F 0 dX9_put0_87 rfl rfl ?_
      refine J_gfa F (ci := 9) 1 rfl inX9 ly_244 (by decide) (by decide) rfl lf_X9_7 rfl dX9_put0_88 ?_
      refine J_si F dX9_put0_91 ks_238 ?_
      refine J_bi F dX9_put0_94 kb_100 ?_
      refine J_il F 3 dX9_put0_96 rfl ?_
      refine J_imul F dX9_put0_98 ?_
      refine J_iadd F dX9_put0_99 ?_
      refine J_iln F 1 dX9_put0_100 rfl rfl ?_
      refine J_iadd F dX9_put0_101 ?_
      refine J_iln F 2 dX9_put0_102 rfl rfl ?_
      refine J_il F 3 dX9_put0_103 rfl ?_
      refine J_ishr F dX9_put0_105 ?_
      refine J_ic F dX9_put0_106 ki_1 ?_
      refine J_iand F dX9_put0_107 ?_
      obtain ⟨h_2, h⟩ := h
      refine J_iast F ly_245 h_2 dX9_put0_108 ?_
      refine J_st (fun σ_3 eσ_3 => ?_)
      have h := h σ_3 eσ_3
      obtain ⟨x4_4, ex4_4⟩ : ∃ z : Int32, z = x4 + (nI 1) := ⟨_, rfl⟩
      have h := h x4_4 ex4_4
      refine J_iinc F (v := x4_4) (L' := [(4, .int x4_4), (0, .ref (gb G + 244)), (1, .int x1), (3, .int x3)]) 3 dX9_put0_109 rfl (by rw [ki_1, ex4_4]) (by decide) rfl ?_
      refine J_goto F (tgt := 75) dX9_put0_112 (by decide) ?_
      refine J_sub [1, 2, 3, 0] rfl ?_
      exact i75 _ _ h
set_option maxRecDepth 20000 in
set_option maxHeartbeats 4000000 in
theorem wk_X9_put0_44 {p : Program} {l : Launch} {e : Env} {s : State} {m : MethodId} {args : Array Value} {below : List Frame} {meth : Method} {c : Code} {G : Gp} {σ : St} {x1 : Int32} {x2 : Int32} {x3 : Int32}  {Q : Int32 → St → Prop} (F : FX p s m args meth c cX9_put0 5 (some .int) RX9 G)   (h : wp_X9_put0_44 σ x1 x2 x3 Q) : J p l e (rmF 7 160) s m args below meth c 5 G (MQ below (QQ G (qI Q)) args s 0 0 (fr G)) 0 0 44 [(0, .ref (gb G + 244)), (1, .int x1), (2, .int x2), (3, .int x3)] [] σ := by
  unfold wp_X9_put0_44 at h
  refine J_iln F 3 dX9_put0_44 rfl rfl ?_
  refine J_zne F (tgt := 51) dX9_put0_45 (by decide) (fun c_5 => ?_) (fun c_5 => ?_)
  · have h := h.1 c_5
    refine J_aln F 0 dX9_put0_51 rfl rfl ?_
    refine J_gfa F (ci := 9) 1 rfl inX9 ly_244 (by decide) (by decide) rfl lf_X9_7 rfl dX9_put0_52 ?_
    refine J_bi F dX9_put0_55 kb_38 ?_
    refine J_iln F 1 dX9_put0_57 rfl rfl ?_
    refine J_iadd F dX9_put0_58 ?_
    refine J_ic F dX9_put0_59 ki_1 ?_
    obtain ⟨h_6, h⟩ := h
    refine J_iast F ly_245 h_6 dX9_put0_60 ?_
    refine J_st (fun σ_7 eσ_7 => ?_)
    have h := h σ_7 eσ_7
    refine J_aln F 0 dX9_put0_61 rfl rfl ?_
    refine J_gfa F (ci := 9) 1 rfl inX9 ly_244 (by decide) (by decide) rfl lf_X9_7 rfl dX9_put0_62 ?_
    refine J_si F dX9_put0_65 ks_138 ?_
    refine J_iln F 1 dX9_put0_68 rfl rfl ?_
    refine J_iadd F dX9_put0_69 ?_
    refine J_iln F 2 dX9_put0_70 rfl rfl ?_
    obtain ⟨h_8, h⟩ := h
    refine J_iast F ly_245 h_8 dX9_put0_71 ?_
    refine J_st (fun σ_9 eσ_9 => ?_)
    have h := h σ_9 eσ_9
    refine J_ic F dX9_put0_72 ki_0 ?_
    refine J_is F (L' := [(4, .int (nI 0)), (0, .ref (gb G + 244)), (1, .int x1), (2, .int x2), (3, .int x3)]) dX9_put0_73 (by decide) rfl ?_
    refine J_sub [1, 2, 4, 0] rfl ?_
    obtain ⟨n9, h⟩ := h
    exact wk_X9_put0_75 F  n9 _ _ h
  · have h := h.2 c_5
    refine J_bi F dX9_put0_48 kb_8 ?_
    exact J_reti F ⟨_, rfl, h⟩ dX9_put0_50
set_option maxRecDepth 20000 in
set_option maxHeartbeats 4000000 in
theorem wk_X9_put0_5 {p : Program} {l : Launch} {e : Env} {s : State} {m : MethodId} {args : Array Value} {below : List Frame} {meth : Method} {c : Code} {G : Gp} {x1 : Int32} {x2 : Int32}  {Q : Int32 → St → Prop} (F : FX p s m args meth c cX9_put0 5 (some .int) RX9 G)   : ∀ (n9 : Nat) (σ : St) (x3 : Int32) (x4 : Int32), LP3 (wp_X9_put0_5 x1 x2 Q) n9 σ x3 x4 → J p l e (rmF 7 160) s m args below meth c 5 G (MQ below (QQ G (qI Q)) args s 0 0 (fr G)) 0 0 5 [(0, .ref (gb G + 244)), (1, .int x1), (2, .int x2), (3, .int x3), (4, .int x4)] [] σ := by
  intro n9
  induction n9 with
  | zero => intro σ x3 x4 h; exact h.elim
  | succ n9 i5 =>
    intro σ x3 x4 h
    have h : wp_X9_put0_5 x1 x2 Q (LP3 (wp_X9_put0_5 x1 x2 Q) n9) σ x3 x4 := h
    unfold wp_X9_put0_5 at h
    refine J_il F 4 dX9_put0_5 rfl ?_
    refine J_aln F 0 dX9_put0_7 rfl rfl ?_
    refine J_gfa F (ci := 9) 1 rfl inX9 ly_244 (by decide) (by decide) rfl lf_X9_7 rfl dX9_put0_8 ?_
    refine J_bi F dX9_put0_11 kb_37 ?_
    refine J_ialdc F ly_245 (by decide) (by decide) dX9_put0_13 ?_
    refine J_cge F (tgt := 44) dX9_put0_14 (by decide) (fun c_10 => ?_) (fun c_10 => ?_)
    · have h := h.1 c_10
      refine J_sub [0, 1, 2, 3] rfl ?_
      exact wk_X9_put0_44 F  h
    · have h := h.2 c_10
      refine J_iln F 3 dX9_put0_17 rfl rfl ?_
      refine J_aln F 0 dX9_put0_18 rfl rfl ?_
      refine J_iln F 1 dX9_put0_19 rfl rfl ?_
      refine J_il F 4 dX9_put0_20 rfl ?_
      refine J_callVi F (As := [.int x1, .int x4]) (st := [.int x3]) (C_X9_canHold l G x1 x4  h) (ci := 9) ly_244 (by decide) rfl rfl lm_X9_224 li_X9_canHold ls_X9_canHold ini_X9 lc_X9_canHold hd_X9_canHold (by decide) (Nat.le_of_ble_eq_true rfl) (by decide) rfl dX9_put0_22 (fun r_11 σ_12 h => ?_)
      refine J_zeq F (tgt := 35) dX9_put0_25 (by decide) (fun c_13 => ?_) (fun c_13 => ?_)
      · have h := h.1 c_13
        refine J_ic F dX9_put0_35 ki_0 ?_
        refine J_ior F dX9_put0_36 ?_
        refine J_top (fun x3_14 ex3_14 => ?_)
        have h := h x3_14 ex3_14
        refine J_isn F (L' := [(3, .int x3_14), (0, .ref (gb G + 244)), (1, .int x1), (2, .int x2), (4, .int x4)]) dX9_put0_37 rfl (by decide) rfl ?_
        obtain ⟨x4_15, ex4_15⟩ : ∃ z : Int32, z = x4 + (nI 1) := ⟨_, rfl⟩
        have h := h x4_15 ex4_15
        refine J_iinc F (v := x4_15) (L' := [(4, .int x4_15), (3, .int x3_14), (0, .ref (gb G + 244)), (1, .int x1), (2, .int x2)]) 4 dX9_put0_38 rfl (by rw [ki_1, ex4_15]) (by decide) rfl ?_
        refine J_goto F (tgt := 5) dX9_put0_41 (by decide) ?_
        refine J_sub [2, 3, 4, 1, 0] rfl ?_
        exact i5 _ _ _ h
      · have h := h.2 c_13
        refine J_ic F dX9_put0_28 ki_1 ?_
        refine J_il F 4 dX9_put0_29 rfl ?_
        refine J_ishl F dX9_put0_31 ?_
        refine J_goto F (tgt := 36) dX9_put0_32 (by decide) ?_
        refine J_ior F dX9_put0_36 ?_
        refine J_top (fun x3_16 ex3_16 => ?_)
        have h := h x3_16 ex3_16
        refine J_isn F (L' := [(3, .int x3_16), (0, .ref (gb G + 244)), (1, .int x1), (2, .int x2), (4, .int x4)]) dX9_put0_37 rfl (by decide) rfl ?_
        obtain ⟨x4_17, ex4_17⟩ : ∃ z : Int32, z = x4 + (nI 1) := ⟨_, rfl⟩
        have h := h x4_17 ex4_17
        refine J_iinc F (v := x4_17) (L' := [(4, .int x4_17), (3, .int x3_16), (0, .ref (gb G + 244)), (1, .int x1), (2, .int x2)]) 4 dX9_put0_38 rfl (by rw [ki_1, ex4_17]) (by decide) rfl ?_
        refine J_goto F (tgt := 5) dX9_put0_41 (by decide) ?_
        refine J_sub [2, 3, 4, 1, 0] rfl ?_
        exact i5 _ _ _ h
set_option maxRecDepth 20000 in
set_option maxHeartbeats 4000000 in
theorem C_X9_put0 (l : Launch) (G : Gp) (x1 : Int32) (x2 : Int32)  {σ : St} {Q : Int32 → St → Prop} (h : wp_X9_put0 σ x1 x2 Q) : Cn l yX9_put0 cX9_put0 5 (some .int) 7 160 G [.ref (gb G + 244), .int x1, .int x2] σ (qI Q) := by
  refine Cn_of (L := [(0, .ref (gb G + 244)), (1, .int x1), (2, .int x2)]) RX9 (by decide) rfl (Nat.le_of_ble_eq_true rfl) rfl ?_
  intro p e s m below meth c F
  unfold wp_X9_put0 at h
  refine J_ic F dX9_put0_0 ki_0 ?_
  refine J_isn F (L' := [(3, .int (nI 0)), (0, .ref (gb G + 244)), (1, .int x1), (2, .int x2)]) dX9_put0_1 rfl (by decide) rfl ?_
  refine J_ic F dX9_put0_2 ki_0 ?_
  refine J_is F (L' := [(4, .int (nI 0)), (3, .int (nI 0)), (0, .ref (gb G + 244)), (1, .int x1), (2, .int x2)]) dX9_put0_3 (by decide) rfl ?_
  refine J_sub [2, 3, 4, 1, 0] rfl ?_
  obtain ⟨n9, h⟩ := h
  exact wk_X9_put0_5 F  n9 _ _ _ h
theorem dX9_cut0_0 : decode cX9_cut0 0 = .ok (.aload_n 0, 1) := by decide +kernel
theorem dX9_cut0_1 : decode cX9_cut0 1 = .ok (.getfield 7, 3) := by decide +kernel
theorem dX9_cut0_4 : decode cX9_cut0 4 = .ok (.bipush 38, 2) := by decide +kernel
theorem dX9_cut0_6 : decode cX9_cut0 6 = .ok (.iload_n 1, 1) := by decide +kernel
theorem dX9_cut0_7 : decode cX9_cut0 7 = .ok (.iadd, 1) := by decide +kernel
theorem dX9_cut0_8 : decode cX9_cut0 8 = .ok (.iaload, 1) := by decide +kernel
theorem dX9_cut0_9 : decode cX9_cut0 9 = .ok (.ifCond .ne 6, 3) := by decide +kernel
theorem dX9_cut0_12 : decode cX9_cut0 12 = .ok (.bipush 9, 2) := by decide +kernel
theorem dX9_cut0_14 : decode cX9_cut0 14 = .ok (.ireturn, 1) := by decide +kernel
theorem dX9_cut0_15 : decode cX9_cut0 15 = .ok (.aload_n 0, 1) := by decide +kernel
theorem dX9_cut0_16 : decode cX9_cut0 16 = .ok (.getfield 7, 3) := by decide +kernel
theorem dX9_cut0_19 : decode cX9_cut0 19 = .ok (.bipush 38, 2) := by decide +kernel
theorem dX9_cut0_21 : decode cX9_cut0 21 = .ok (.iload_n 1, 1) := by decide +kernel
theorem dX9_cut0_22 : decode cX9_cut0 22 = .ok (.iadd, 1) := by decide +kernel
theorem dX9_cut0_23 : decode cX9_cut0 23 = .ok (.iconst 0, 1) := by decide +kernel
theorem dX9_cut0_24 : decode cX9_cut0 24 = .ok (.iastore, 1) := by decide +kernel
theorem dX9_cut0_25 : decode cX9_cut0 25 = .ok (.aload_n 0, 1) := by decide +kernel
theorem dX9_cut0_26 : decode cX9_cut0 26 = .ok (.getfield 7, 3) := by decide +kernel
theorem dX9_cut0_29 : decode cX9_cut0 29 = .ok (.sipush 138, 3) := by decide +kernel
theorem dX9_cut0_32 : decode cX9_cut0 32 = .ok (.iload_n 1, 1) := by decide +kernel
theorem dX9_cut0_33 : decode cX9_cut0 33 = .ok (.iadd, 1) := by decide +kernel
theorem dX9_cut0_34 : decode cX9_cut0 34 = .ok (.iconst 0, 1) := by decide +kernel
theorem dX9_cut0_35 : decode cX9_cut0 35 = .ok (.iastore, 1) := by decide +kernel
theorem dX9_cut0_36 : decode cX9_cut0 36 = .ok (.iconst 0, 1) := by decide +kernel
theorem dX9_cut0_37 : decode cX9_cut0 37 = .ok (.istore_n 2, 1) := by decide +kernel
theorem dX9_cut0_38 : decode cX9_cut0 38 = .ok (.iload_n 2, 1) := by decide +kernel
theorem dX9_cut0_39 : decode cX9_cut0 39 = .ok (.iconst 3, 1) := by decide +kernel
theorem dX9_cut0_40 : decode cX9_cut0 40 = .ok (.if_icmp .ge 25, 3) := by decide +kernel
theorem dX9_cut0_43 : decode cX9_cut0 43 = .ok (.aload_n 0, 1) := by decide +kernel
theorem dX9_cut0_44 : decode cX9_cut0 44 = .ok (.getfield 7, 3) := by decide +kernel
theorem dX9_cut0_47 : decode cX9_cut0 47 = .ok (.sipush 238, 3) := by decide +kernel
theorem dX9_cut0_50 : decode cX9_cut0 50 = .ok (.bipush 100, 2) := by decide +kernel
theorem dX9_cut0_52 : decode cX9_cut0 52 = .ok (.iload_n 2, 1) := by decide +kernel
theorem dX9_cut0_53 : decode cX9_cut0 53 = .ok (.imul, 1) := by decide +kernel
theorem dX9_cut0_54 : decode cX9_cut0 54 = .ok (.iadd, 1) := by decide +kernel
theorem dX9_cut0_55 : decode cX9_cut0 55 = .ok (.iload_n 1, 1) := by decide +kernel
theorem dX9_cut0_56 : decode cX9_cut0 56 = .ok (.iadd, 1) := by decide +kernel
theorem dX9_cut0_57 : decode cX9_cut0 57 = .ok (.iconst 0, 1) := by decide +kernel
theorem dX9_cut0_58 : decode cX9_cut0 58 = .ok (.iastore, 1) := by decide +kernel
theorem dX9_cut0_59 : decode cX9_cut0 59 = .ok (.iinc 2 1, 3) := by decide +kernel
theorem dX9_cut0_62 : decode cX9_cut0 62 = .ok (.goto (-24), 3) := by decide +kernel
theorem dX9_cut0_65 : decode cX9_cut0 65 = .ok (.iconst 0, 1) := by decide +kernel
theorem dX9_cut0_66 : decode cX9_cut0 66 = .ok (.ireturn, 1) := by decide +kernel
set_option maxRecDepth 20000 in
set_option maxHeartbeats 4000000 in
theorem wk_X9_cut0_38 {p : Program} {l : Launch} {e : Env} {s : State} {m : MethodId} {args : Array Value} {below : List Frame} {meth : Method} {c : Code} {G : Gp} {x1 : Int32}  {Q : Int32 → St → Prop} (F : FX p s m args meth c cX9_cut0 3 (some .int) RX9 G)   : ∀ (n9 : Nat) (σ : St) (x2 : Int32), LP2 (wp_X9_cut0_38 x1 Q) n9 σ x2 → J p l e (rmF 0 0) s m args below meth c 3 G (MQ below (QQ G (qI Q)) args s 0 0 (fr G)) 0 0 38 [(0, .ref (gb G + 244)), (1, .int x1), (2, .int x2)] [] σ := by
  intro n9
  induction n9 with
  | zero => intro σ x2 h; exact h.elim
  | succ n9 i38 =>
    intro σ x2 h
    have h : wp_X9_cut0_38 x1 Q (LP2 (wp_X9_cut0_38 x1 Q) n9) σ x2 := h
    unfold wp_X9_cut0_38 at h
    refine J_iln F 2 dX9_cut0_38 rfl rfl ?_
    refine J_ic F dX9_cut0_39 ki_3 ?_
    refine J_cge F (tgt := 65) dX9_cut0_40 (by decide) (fun c_1 => ?_) (fun c_1 => ?_)
    · have h := h.1 c_1
      refine J_ic F dX9_cut0_65 ki_0 ?_
      exact J_reti F ⟨_, rfl, h⟩ dX9_cut0_66
    · have h := h.2 c_1
      refine J_aln F 0 dX9_cut0_43 rfl rfl ?_
      refine J_gfa F (ci := 9) 1 rfl inX9 ly_244 (by decide) (by decide) rfl lf_X9_7 rfl dX9_cut0_44 ?_
      refine J_si F dX9_cut0_47 ks_238 ?_
      refine J_bi F dX9_cut0_50 kb_100 ?_
      refine J_iln F 2 dX9_cut0_52 rfl rfl ?_
      refine J_imul F dX9_cut0_53 ?_
      refine J_iadd F dX9_cut0_54 ?_
      refine J_iln F 1 dX9_cut0_55 rfl rfl ?_
      refine J_iadd F dX9_cut0_56 ?_
      refine J_ic F dX9_cut0_57 ki_0 ?_
      obtain ⟨h_2, h⟩ := h
      refine J_iast F ly_245 h_2 dX9_cut0_58 ?_
      refine J_st (fun σ_3 eσ_3 => ?_)
      have h := h σ_3 eσ_3
      obtain ⟨x2_4, ex2_4⟩ : ∃ z : Int32, z = x2 + (nI 1) := ⟨_, rfl⟩
      have h := h x2_4 ex2_4
      refine J_iinc F (v := x2_4) (L' := [(2, .int x2_4), (0, .ref (gb G + 244)), (1, .int x1)]) 2 dX9_cut0_59 rfl (by rw [ki_1, ex2_4]) (by decide) rfl ?_
      refine J_goto F (tgt := 38) dX9_cut0_62 (by decide) ?_
      refine J_sub [1, 2, 0] rfl ?_
      exact i38 _ _ h
set_option maxRecDepth 20000 in
set_option maxHeartbeats 4000000 in
theorem C_X9_cut0 (l : Launch) (G : Gp) (x1 : Int32)  {σ : St} {Q : Int32 → St → Prop} (h : wp_X9_cut0 σ x1 Q) : Cn l yX9_cut0 cX9_cut0 3 (some .int) 0 0 G [.ref (gb G + 244), .int x1] σ (qI Q) := by
  refine Cn_of (L := [(0, .ref (gb G + 244)), (1, .int x1)]) RX9 (by decide) rfl (Nat.le_of_ble_eq_true rfl) rfl ?_
  intro p e s m below meth c F
  unfold wp_X9_cut0 at h
  refine J_aln F 0 dX9_cut0_0 rfl rfl ?_
  refine J_gfa F (ci := 9) 1 rfl inX9 ly_244 (by decide) (by decide) rfl lf_X9_7 rfl dX9_cut0_1 ?_
  refine J_bi F dX9_cut0_4 kb_38 ?_
  refine J_iln F 1 dX9_cut0_6 rfl rfl ?_
  refine J_iadd F dX9_cut0_7 ?_
  obtain ⟨h_5, h⟩ := h
  refine J_iald F ly_245 h_5 dX9_cut0_8 ?_
  refine J_zne F (tgt := 15) dX9_cut0_9 (by decide) (fun c_6 => ?_) (fun c_6 => ?_)
  · have h := h.1 c_6
    refine J_aln F 0 dX9_cut0_15 rfl rfl ?_
    refine J_gfa F (ci := 9) 1 rfl inX9 ly_244 (by decide) (by decide) rfl lf_X9_7 rfl dX9_cut0_16 ?_
    refine J_bi F dX9_cut0_19 kb_38 ?_
    refine J_iln F 1 dX9_cut0_21 rfl rfl ?_
    refine J_iadd F dX9_cut0_22 ?_
    refine J_ic F dX9_cut0_23 ki_0 ?_
    obtain ⟨h_7, h⟩ := h
    refine J_iast F ly_245 h_7 dX9_cut0_24 ?_
    refine J_st (fun σ_8 eσ_8 => ?_)
    have h := h σ_8 eσ_8
    refine J_aln F 0 dX9_cut0_25 rfl rfl ?_
    refine J_gfa F (ci := 9) 1 rfl inX9 ly_244 (by decide) (by decide) rfl lf_X9_7 rfl dX9_cut0_26 ?_
    refine J_si F dX9_cut0_29 ks_138 ?_
    refine J_iln F 1 dX9_cut0_32 rfl rfl ?_
    refine J_iadd F dX9_cut0_33 ?_
    refine J_ic F dX9_cut0_34 ki_0 ?_
    obtain ⟨h_9, h⟩ := h
    refine J_iast F ly_245 h_9 dX9_cut0_35 ?_
    refine J_st (fun σ_10 eσ_10 => ?_)
    have h := h σ_10 eσ_10
    refine J_ic F dX9_cut0_36 ki_0 ?_
    refine J_isn F (L' := [(2, .int (nI 0)), (0, .ref (gb G + 244)), (1, .int x1)]) dX9_cut0_37 rfl (by decide) rfl ?_
    refine J_sub [1, 2, 0] rfl ?_
    obtain ⟨n9, h⟩ := h
    exact wk_X9_cut0_38 F  n9 _ _ h
  · have h := h.2 c_6
    refine J_bi F dX9_cut0_12 kb_9 ?_
    exact J_reti F ⟨_, rfl, h⟩ dX9_cut0_14
theorem dX9_mend0_0 : decode cX9_mend0 0 = .ok (.iconst 0, 1) := by decide +kernel
theorem dX9_mend0_1 : decode cX9_mend0 1 = .ok (.istore_n 1, 1) := by decide +kernel
theorem dX9_mend0_2 : decode cX9_mend0 2 = .ok (.iconst 0, 1) := by decide +kernel
theorem dX9_mend0_3 : decode cX9_mend0 3 = .ok (.istore_n 2, 1) := by decide +kernel
theorem dX9_mend0_4 : decode cX9_mend0 4 = .ok (.iload_n 2, 1) := by decide +kernel
theorem dX9_mend0_5 : decode cX9_mend0 5 = .ok (.bipush 100, 2) := by decide +kernel
theorem dX9_mend0_7 : decode cX9_mend0 7 = .ok (.if_icmp .ge 79, 3) := by decide +kernel
theorem dX9_mend0_10 : decode cX9_mend0 10 = .ok (.aload_n 0, 1) := by decide +kernel
theorem dX9_mend0_11 : decode cX9_mend0 11 = .ok (.iload_n 2, 1) := by decide +kernel
theorem dX9_mend0_12 : decode cX9_mend0 12 = .ok (.invokevirtual 227, 3) := by decide +kernel
theorem dX9_mend0_15 : decode cX9_mend0 15 = .ok (.ifCond .ne 6, 3) := by decide +kernel
theorem dX9_mend0_18 : decode cX9_mend0 18 = .ok (.goto 62, 3) := by decide +kernel
theorem dX9_mend0_21 : decode cX9_mend0 21 = .ok (.iconst 0, 1) := by decide +kernel
theorem dX9_mend0_22 : decode cX9_mend0 22 = .ok (.istore_n 3, 1) := by decide +kernel
theorem dX9_mend0_23 : decode cX9_mend0 23 = .ok (.iload_n 3, 1) := by decide +kernel
theorem dX9_mend0_24 : decode cX9_mend0 24 = .ok (.aload_n 0, 1) := by decide +kernel
theorem dX9_mend0_25 : decode cX9_mend0 25 = .ok (.getfield 7, 3) := by decide +kernel
theorem dX9_mend0_28 : decode cX9_mend0 28 = .ok (.bipush 37, 2) := by decide +kernel
theorem dX9_mend0_30 : decode cX9_mend0 30 = .ok (.iaload, 1) := by decide +kernel
theorem dX9_mend0_31 : decode cX9_mend0 31 = .ok (.if_icmp .ge 49, 3) := by decide +kernel
theorem dX9_mend0_34 : decode cX9_mend0 34 = .ok (.aload_n 0, 1) := by decide +kernel
theorem dX9_mend0_35 : decode cX9_mend0 35 = .ok (.iload_n 2, 1) := by decide +kernel
theorem dX9_mend0_36 : decode cX9_mend0 36 = .ok (.iload_n 3, 1) := by decide +kernel
theorem dX9_mend0_37 : decode cX9_mend0 37 = .ok (.invokevirtual 165, 3) := by decide +kernel
theorem dX9_mend0_40 : decode cX9_mend0 40 = .ok (.ifCond .ne 34, 3) := by decide +kernel
theorem dX9_mend0_43 : decode cX9_mend0 43 = .ok (.aload_n 0, 1) := by decide +kernel
theorem dX9_mend0_44 : decode cX9_mend0 44 = .ok (.iload_n 2, 1) := by decide +kernel
theorem dX9_mend0_45 : decode cX9_mend0 45 = .ok (.iload_n 3, 1) := by decide +kernel
theorem dX9_mend0_46 : decode cX9_mend0 46 = .ok (.invokevirtual 224, 3) := by decide +kernel
theorem dX9_mend0_49 : decode cX9_mend0 49 = .ok (.ifCond .ne 6, 3) := by decide +kernel
theorem dX9_mend0_52 : decode cX9_mend0 52 = .ok (.goto 22, 3) := by decide +kernel
theorem dX9_mend0_55 : decode cX9_mend0 55 = .ok (.aload_n 0, 1) := by decide +kernel
theorem dX9_mend0_56 : decode cX9_mend0 56 = .ok (.getfield 7, 3) := by decide +kernel
theorem dX9_mend0_59 : decode cX9_mend0 59 = .ok (.sipush 238, 3) := by decide +kernel
theorem dX9_mend0_62 : decode cX9_mend0 62 = .ok (.bipush 100, 2) := by decide +kernel
theorem dX9_mend0_64 : decode cX9_mend0 64 = .ok (.iload_n 3, 1) := by decide +kernel
theorem dX9_mend0_65 : decode cX9_mend0 65 = .ok (.imul, 1) := by decide +kernel
theorem dX9_mend0_66 : decode cX9_mend0 66 = .ok (.iadd, 1) := by decide +kernel
theorem dX9_mend0_67 : decode cX9_mend0 67 = .ok (.iload_n 2, 1) := by decide +kernel
theorem dX9_mend0_68 : decode cX9_mend0 68 = .ok (.iadd, 1) := by decide +kernel
theorem dX9_mend0_69 : decode cX9_mend0 69 = .ok (.iconst 1, 1) := by decide +kernel
theorem dX9_mend0_70 : decode cX9_mend0 70 = .ok (.iastore, 1) := by decide +kernel
theorem dX9_mend0_71 : decode cX9_mend0 71 = .ok (.iinc 1 1, 3) := by decide +kernel
theorem dX9_mend0_74 : decode cX9_mend0 74 = .ok (.iinc 3 1, 3) := by decide +kernel
theorem dX9_mend0_77 : decode cX9_mend0 77 = .ok (.goto (-54), 3) := by decide +kernel
theorem dX9_mend0_80 : decode cX9_mend0 80 = .ok (.iinc 2 1, 3) := by decide +kernel
theorem dX9_mend0_83 : decode cX9_mend0 83 = .ok (.goto (-79), 3) := by decide +kernel
theorem dX9_mend0_86 : decode cX9_mend0 86 = .ok (.iload_n 1, 1) := by decide +kernel
theorem dX9_mend0_87 : decode cX9_mend0 87 = .ok (.ireturn, 1) := by decide +kernel
set_option maxRecDepth 20000 in
set_option maxHeartbeats 4000000 in
theorem wk_X9_mend0_23 {p : Program} {l : Launch} {e : Env} {s : State} {m : MethodId} {args : Array Value} {below : List Frame} {meth : Method} {c : Code} {G : Gp} {x2 : Int32} {ih4 : St → Int32 → Int32 → Prop} {Q : Int32 → St → Prop} (F : FX p s m args meth c cX9_mend0 4 (some .int) RX9 G)  (i4 : ∀ (σ : St) (x1 : Int32) (x2 : Int32), ih4 σ x1 x2 → J p l e (rmF 7 160) s m args below meth c 4 G (MQ below (QQ G (qI Q)) args s 0 0 (fr G)) 0 0 4 [(0, .ref (gb G + 244)), (1, .int x1), (2, .int x2)] [] σ) : ∀ (n9 : Nat) (σ : St) (x1 : Int32) (x3 : Int32), LP3 (wp_X9_mend0_23 x2 ih4 Q) n9 σ x1 x3 → J p l e (rmF 7 160) s m args below meth c 4 G (MQ below (QQ G (qI Q)) args s 0 0 (fr G)) 0 0 23 [(0, .ref (gb G + 244)), (1, .int x1), (2, .int x2), (3, .int x3)] [] σ := by
  intro n9
  induction n9 with
  | zero => intro σ x1 x3 h; exact h.elim
  | succ n9 i23 =>
    intro σ x1 x3 h
    have h : wp_X9_mend0_23 x2 ih4 Q (LP3 (wp_X9_mend0_23 x2 ih4 Q) n9) σ x1 x3 := h
    unfold wp_X9_mend0_23 at h
    refine J_iln F 3 dX9_mend0_23 rfl rfl ?_
    refine J_aln F 0 dX9_mend0_24 rfl rfl ?_
    refine J_gfa F (ci := 9) 1 rfl inX9 ly_244 (by decide) (by decide) rfl lf_X9_7 rfl dX9_mend0_25 ?_
    refine J_bi F dX9_mend0_28 kb_37 ?_
    refine J_ialdc F ly_245 (by decide) (by decide) dX9_mend0_30 ?_
    refine J_cge F (tgt := 80) dX9_mend0_31 (by decide) (fun c_1 => ?_) (fun c_1 => ?_)
    · have h := h.1 c_1
      obtain ⟨x2_2, ex2_2⟩ : ∃ z : Int32, z = x2 + (nI 1) := ⟨_, rfl⟩
      have h := h x2_2 ex2_2
      refine J_iinc F (v := x2_2) (L' := [(2, .int x2_2), (0, .ref (gb G + 244)), (1, .int x1), (3, .int x3)]) 2 dX9_mend0_80 rfl (by rw [ki_1, ex2_2]) (by decide) rfl ?_
      refine J_goto F (tgt := 4) dX9_mend0_83 (by decide) ?_
      refine J_sub [1, 2, 0] rfl ?_
      exact i4 _ _ _ h
    · have h := h.2 c_1
      refine J_aln F 0 dX9_mend0_34 rfl rfl ?_
      refine J_iln F 2 dX9_mend0_35 rfl rfl ?_
      refine J_iln F 3 dX9_mend0_36 rfl rfl ?_
      refine J_callVi F (As := [.int x2, .int x3]) (st := []) (C_X9_isHeld l G x2 x3  h) (ci := 9) ly_244 (by decide) rfl rfl lm_X9_165 li_X9_isHeld ls_X9_isHeld ini_X9 lc_X9_isHeld hd_X9_isHeld (by decide) (Nat.le_of_ble_eq_true rfl) (by decide) rfl dX9_mend0_37 (fun r_3 σ_4 hh => ?_)
      clear h
      obtain ⟨e9, h⟩ := hh
      subst σ_4
      refine J_zne F (tgt := 74) dX9_mend0_40 (by decide) (fun c_5 => ?_) (fun c_5 => ?_)
      · have h := h.1 c_5
        obtain ⟨x3_6, ex3_6⟩ : ∃ z : Int32, z = x3 + (nI 1) := ⟨_, rfl⟩
        have h := h x3_6 ex3_6
        refine J_iinc F (v := x3_6) (L' := [(3, .int x3_6), (0, .ref (gb G + 244)), (1, .int x1), (2, .int x2)]) 3 dX9_mend0_74 rfl (by rw [ki_1, ex3_6]) (by decide) rfl ?_
        refine J_goto F (tgt := 23) dX9_mend0_77 (by decide) ?_
        refine J_sub [1, 2, 3, 0] rfl ?_
        exact i23 _ _ _ h
      · have h := h.2 c_5
        refine J_aln F 0 dX9_mend0_43 rfl rfl ?_
        refine J_iln F 2 dX9_mend0_44 rfl rfl ?_
        refine J_iln F 3 dX9_mend0_45 rfl rfl ?_
        refine J_callVi F (As := [.int x2, .int x3]) (st := []) (C_X9_canHold l G x2 x3  h) (ci := 9) ly_244 (by decide) rfl rfl lm_X9_224 li_X9_canHold ls_X9_canHold ini_X9 lc_X9_canHold hd_X9_canHold (by decide) (Nat.le_of_ble_eq_true rfl) (by decide) rfl dX9_mend0_46 (fun r_7 σ_8 h => ?_)
        refine J_zne F (tgt := 55) dX9_mend0_49 (by decide) (fun c_9 => ?_) (fun c_9 => ?_)
        · have h := h.1 c_9
          refine J_aln F 0 dX9_mend0_55 rfl rfl ?_
          refine J_gfa F (ci := 9) 1 rfl inX9 ly_244 (by decide) (by decide) rfl lf_X9_7 rfl dX9_mend0_56 ?_
          refine J_si F dX9_mend0_59 ks_238 ?_
          refine J_bi F dX9_mend0_62 kb_100 ?_
          refine J_iln F 3 dX9_mend0_64 rfl rfl ?_
          refine J_imul F dX9_mend0_65 ?_
          refine J_iadd F dX9_mend0_66 ?_
          refine J_iln F 2 dX9_mend0_67 rfl rfl ?_
          refine J_iadd F dX9_mend0_68 ?_
          refine J_ic F dX9_mend0_69 ki_1 ?_
          obtain ⟨h_10, h⟩ := h
          refine J_iast F ly_245 h_10 dX9_mend0_70 ?_
          refine J_st (fun σ_11 eσ_11 => ?_)
          have h := h σ_11 eσ_11
          obtain ⟨x1_12, ex1_12⟩ : ∃ z : Int32, z = x1 + (nI 1) := ⟨_, rfl⟩
          have h := h x1_12 ex1_12
          refine J_iinc F (v := x1_12) (L' := [(1, .int x1_12), (0, .ref (gb G + 244)), (2, .int x2), (3, .int x3)]) 1 dX9_mend0_71 rfl (by rw [ki_1, ex1_12]) (by decide) rfl ?_
          obtain ⟨x3_13, ex3_13⟩ : ∃ z : Int32, z = x3 + (nI 1) := ⟨_, rfl⟩
          have h := h x3_13 ex3_13
          refine J_iinc F (v := x3_13) (L' := [(3, .int x3_13), (1, .int x1_12), (0, .ref (gb G + 244)), (2, .int x2)]) 3 dX9_mend0_74 rfl (by rw [ki_1, ex3_13]) (by decide) rfl ?_
          refine J_goto F (tgt := 23) dX9_mend0_77 (by decide) ?_
          refine J_sub [2, 1, 3, 0] rfl ?_
          exact i23 _ _ _ h
        · have h := h.2 c_9
          refine J_goto F (tgt := 74) dX9_mend0_52 (by decide) ?_
          obtain ⟨x3_14, ex3_14⟩ : ∃ z : Int32, z = x3 + (nI 1) := ⟨_, rfl⟩
          have h := h x3_14 ex3_14
          refine J_iinc F (v := x3_14) (L' := [(3, .int x3_14), (0, .ref (gb G + 244)), (1, .int x1), (2, .int x2)]) 3 dX9_mend0_74 rfl (by rw [ki_1, ex3_14]) (by decide) rfl ?_
          refine J_goto F (tgt := 23) dX9_mend0_77 (by decide) ?_
          refine J_sub [1, 2, 3, 0] rfl ?_
          exact i23 _ _ _ h
set_option maxRecDepth 20000 in
set_option maxHeartbeats 4000000 in
theorem wk_X9_mend0_4 {p : Program} {l : Launch} {e : Env} {s : State} {m : MethodId} {args : Array Value} {below : List Frame} {meth : Method} {c : Code} {G : Gp}   {Q : Int32 → St → Prop} (F : FX p s m args meth c cX9_mend0 4 (some .int) RX9 G)   : ∀ (n9 : Nat) (σ : St) (x1 : Int32) (x2 : Int32), LP3 (wp_X9_mend0_4 Q) n9 σ x1 x2 → J p l e (rmF 7 160) s m args below meth c 4 G (MQ below (QQ G (qI Q)) args s 0 0 (fr G)) 0 0 4 [(0, .ref (gb G + 244)), (1, .int x1), (2, .int x2)] [] σ := by
  intro n9
  induction n9 with
  | zero => intro σ x1 x2 h; exact h.elim
  | succ n9 i4 =>
    intro σ x1 x2 h
    have h : wp_X9_mend0_4 Q (LP3 (wp_X9_mend0_4 Q) n9) σ x1 x2 := h
    unfold wp_X9_mend0_4 at h
    refine J_iln F 2 dX9_mend0_4 rfl rfl ?_
    refine J_bi F dX9_mend0_5 kb_100 ?_
    refine J_cge F (tgt := 86) dX9_mend0_7 (by decide) (fun c_15 => ?_) (fun c_15 => ?_)
    · have h := h.1 c_15
      refine J_iln F 1 dX9_mend0_86 rfl rfl ?_
      exact J_reti F ⟨_, rfl, h⟩ dX9_mend0_87
    · have h := h.2 c_15
      refine J_aln F 0 dX9_mend0_10 rfl rfl ?_
      refine J_iln F 2 dX9_mend0_11 rfl rfl ?_
      refine J_callVi F (As := [.int x2]) (st := []) (C_X9_heldIn l G x2  h) (ci := 9) ly_244 (by decide) rfl rfl lm_X9_227 li_X9_heldIn ls_X9_heldIn ini_X9 lc_X9_heldIn hd_X9_heldIn (by decide) (Nat.le_of_ble_eq_true rfl) (by decide) rfl dX9_mend0_12 (fun r_16 σ_17 hh => ?_)
      clear h
      obtain ⟨e9, h⟩ := hh
      subst σ_17
      refine J_zne F (tgt := 21) dX9_mend0_15 (by decide) (fun c_18 => ?_) (fun c_18 => ?_)
      · have h := h.1 c_18
        refine J_ic F dX9_mend0_21 ki_0 ?_
        refine J_isn F (L' := [(3, .int (nI 0)), (0, .ref (gb G + 244)), (1, .int x1), (2, .int x2)]) dX9_mend0_22 rfl (by decide) rfl ?_
        refine J_sub [1, 2, 3, 0] rfl ?_
        obtain ⟨n9, h⟩ := h
        exact wk_X9_mend0_23 F i4 n9 _ _ _ h
      · have h := h.2 c_18
        refine J_goto F (tgt := 80) dX9_mend0_18 (by decide) ?_
        obtain ⟨x2_19, ex2_19⟩ : ∃ z : Int32, z = x2 + (nI 1) := ⟨_, rfl⟩
        have h := h x2_19 ex2_19
        refine J_iinc F (v := x2_19) (L' := [(2, .int x2_19), (0, .ref (gb G + 244)), (1, .int x1)]) 2 dX9_mend0_80 rfl (by rw [ki_1, ex2_19]) (by decide) rfl ?_
        refine J_goto F (tgt := 4) dX9_mend0_83 (by decide) ?_
        refine J_sub [1, 2, 0] rfl ?_
        exact i4 _ _ _ h
set_option maxRecDepth 20000 in
set_option maxHeartbeats 4000000 in
theorem C_X9_mend0 (l : Launch) (G : Gp)   {σ : St} {Q : Int32 → St → Prop} (h : wp_X9_mend0 σ  Q) : Cn l yX9_mend0 cX9_mend0 4 (some .int) 7 160 G [.ref (gb G + 244)] σ (qI Q) := by
  refine Cn_of (L := [(0, .ref (gb G + 244))]) RX9 (by decide) rfl (Nat.le_of_ble_eq_true rfl) rfl ?_
  intro p e s m below meth c F
  unfold wp_X9_mend0 at h
  refine J_ic F dX9_mend0_0 ki_0 ?_
  refine J_isn F (L' := [(1, .int (nI 0)), (0, .ref (gb G + 244))]) dX9_mend0_1 rfl (by decide) rfl ?_
  refine J_ic F dX9_mend0_2 ki_0 ?_
  refine J_isn F (L' := [(2, .int (nI 0)), (1, .int (nI 0)), (0, .ref (gb G + 244))]) dX9_mend0_3 rfl (by decide) rfl ?_
  refine J_sub [2, 1, 0] rfl ?_
  obtain ⟨n9, h⟩ := h
  exact wk_X9_mend0_4 F  n9 _ _ _ h
theorem dX9_putsAside_0 : decode cX9_putsAside 0 = .ok (.iconst 0, 1) := by decide +kernel
theorem dX9_putsAside_1 : decode cX9_putsAside 1 = .ok (.istore_n 1, 1) := by decide +kernel
theorem dX9_putsAside_2 : decode cX9_putsAside 2 = .ok (.iload_n 1, 1) := by decide +kernel
theorem dX9_putsAside_3 : decode cX9_putsAside 3 = .ok (.sipush 6682, 3) := by decide +kernel
theorem dX9_putsAside_6 : decode cX9_putsAside 6 = .ok (.if_icmp .ge 21, 3) := by decide +kernel
theorem dX9_putsAside_9 : decode cX9_putsAside 9 = .ok (.aload_n 0, 1) := by decide +kernel
theorem dX9_putsAside_10 : decode cX9_putsAside 10 = .ok (.getfield 13, 3) := by decide +kernel
theorem dX9_putsAside_13 : decode cX9_putsAside 13 = .ok (.iload_n 1, 1) := by decide +kernel
theorem dX9_putsAside_14 : decode cX9_putsAside 14 = .ok (.aload_n 0, 1) := by decide +kernel
theorem dX9_putsAside_15 : decode cX9_putsAside 15 = .ok (.getfield 7, 3) := by decide +kernel
theorem dX9_putsAside_18 : decode cX9_putsAside 18 = .ok (.iload_n 1, 1) := by decide +kernel
theorem dX9_putsAside_19 : decode cX9_putsAside 19 = .ok (.iaload, 1) := by decide +kernel
theorem dX9_putsAside_20 : decode cX9_putsAside 20 = .ok (.iastore, 1) := by decide +kernel
theorem dX9_putsAside_21 : decode cX9_putsAside 21 = .ok (.iinc 1 1, 3) := by decide +kernel
theorem dX9_putsAside_24 : decode cX9_putsAside 24 = .ok (.goto (-22), 3) := by decide +kernel
theorem dX9_putsAside_27 : decode cX9_putsAside 27 = .ok (.return_, 1) := by decide +kernel
set_option maxRecDepth 20000 in
set_option maxHeartbeats 4000000 in
theorem wk_X9_putsAside_2 {p : Program} {l : Launch} {e : Env} {s : State} {m : MethodId} {args : Array Value} {below : List Frame} {meth : Method} {c : Code} {G : Gp}   {Q : St → Prop} (F : FX p s m args meth c cX9_putsAside 2 none RX9 G)   : ∀ (n9 : Nat) (σ : St) (x1 : Int32), LP2 (wp_X9_putsAside_2 Q) n9 σ x1 → J p l e (rmF 0 0) s m args below meth c 2 G (MQ below (QQ G (qV Q)) args s 0 0 (fr G)) 0 0 2 [(0, .ref (gb G + 244)), (1, .int x1)] [] σ := by
  intro n9
  induction n9 with
  | zero => intro σ x1 h; exact h.elim
  | succ n9 i2 =>
    intro σ x1 h
    have h : wp_X9_putsAside_2 Q (LP2 (wp_X9_putsAside_2 Q) n9) σ x1 := h
    unfold wp_X9_putsAside_2 at h
    refine J_iln F 1 dX9_putsAside_2 rfl rfl ?_
    refine J_si F dX9_putsAside_3 ks_6682 ?_
    refine J_cge F (tgt := 27) dX9_putsAside_6 (by decide) (fun c_1 => ?_) (fun c_1 => ?_)
    · have h := h.1 c_1
      exact J_retv F ⟨rfl, h⟩ dX9_putsAside_27
    · have h := h.2 c_1
      refine J_aln F 0 dX9_putsAside_9 rfl rfl ?_
      refine J_gfa F (ci := 9) 2 rfl inX9 ly_244 (by decide) (by decide) rfl lf_X9_13 rfl dX9_putsAside_10 ?_
      refine J_iln F 1 dX9_putsAside_13 rfl rfl ?_
      refine J_aln F 0 dX9_putsAside_14 rfl rfl ?_
      refine J_gfa F (ci := 9) 1 rfl inX9 ly_244 (by decide) (by decide) rfl lf_X9_7 rfl dX9_putsAside_15 ?_
      refine J_iln F 1 dX9_putsAside_18 rfl rfl ?_
      obtain ⟨h_2, h⟩ := h
      refine J_iald F ly_245 h_2 dX9_putsAside_19 ?_
      obtain ⟨h_3, h⟩ := h
      refine J_iast F ly_246 h_3 dX9_putsAside_20 ?_
      refine J_st (fun σ_4 eσ_4 => ?_)
      have h := h σ_4 eσ_4
      obtain ⟨x1_5, ex1_5⟩ : ∃ z : Int32, z = x1 + (nI 1) := ⟨_, rfl⟩
      have h := h x1_5 ex1_5
      refine J_iinc F (v := x1_5) (L' := [(1, .int x1_5), (0, .ref (gb G + 244))]) 1 dX9_putsAside_21 rfl (by rw [ki_1, ex1_5]) (by decide) rfl ?_
      refine J_goto F (tgt := 2) dX9_putsAside_24 (by decide) ?_
      refine J_sub [1, 0] rfl ?_
      exact i2 _ _ h
set_option maxRecDepth 20000 in
set_option maxHeartbeats 4000000 in
theorem C_X9_putsAside (l : Launch) (G : Gp)   {σ : St} {Q : St → Prop} (h : wp_X9_putsAside σ  Q) : Cn l yX9_putsAside cX9_putsAside 2 none 0 0 G [.ref (gb G + 244)] σ (qV Q) := by
  refine Cn_of (L := [(0, .ref (gb G + 244))]) RX9 (by decide) rfl (Nat.le_of_ble_eq_true rfl) rfl ?_
  intro p e s m below meth c F
  unfold wp_X9_putsAside at h
  refine J_ic F dX9_putsAside_0 ki_0 ?_
  refine J_isn F (L' := [(1, .int (nI 0)), (0, .ref (gb G + 244))]) dX9_putsAside_1 rfl (by decide) rfl ?_
  refine J_sub [1, 0] rfl ?_
  obtain ⟨n9, h⟩ := h
  exact wk_X9_putsAside_2 F  n9 _ _ h
theorem dX9_remembers_0 : decode cX9_remembers 0 = .ok (.aload_n 0, 1) := by decide +kernel
theorem dX9_remembers_1 : decode cX9_remembers 1 = .ok (.getfield 230, 3) := by decide +kernel
theorem dX9_remembers_4 : decode cX9_remembers 4 = .ok (.bipush 8, 2) := by decide +kernel
theorem dX9_remembers_6 : decode cX9_remembers 6 = .ok (.if_icmp .ne 43, 3) := by decide +kernel
theorem dX9_remembers_9 : decode cX9_remembers 9 = .ok (.iconst 0, 1) := by decide +kernel
theorem dX9_remembers_10 : decode cX9_remembers 10 = .ok (.istore_n 1, 1) := by decide +kernel
theorem dX9_remembers_11 : decode cX9_remembers 11 = .ok (.iload_n 1, 1) := by decide +kernel
theorem dX9_remembers_12 : decode cX9_remembers 12 = .ok (.ldc 233, 2) := by decide +kernel
theorem dX9_remembers_14 : decode cX9_remembers 14 = .ok (.if_icmp .ge 25, 3) := by decide +kernel
theorem dX9_remembers_17 : decode cX9_remembers 17 = .ok (.aload_n 0, 1) := by decide +kernel
theorem dX9_remembers_18 : decode cX9_remembers 18 = .ok (.getfield 20, 3) := by decide +kernel
theorem dX9_remembers_21 : decode cX9_remembers 21 = .ok (.iload_n 1, 1) := by decide +kernel
theorem dX9_remembers_22 : decode cX9_remembers 22 = .ok (.aload_n 0, 1) := by decide +kernel
theorem dX9_remembers_23 : decode cX9_remembers 23 = .ok (.getfield 20, 3) := by decide +kernel
theorem dX9_remembers_26 : decode cX9_remembers 26 = .ok (.iload_n 1, 1) := by decide +kernel
theorem dX9_remembers_27 : decode cX9_remembers 27 = .ok (.sipush 6682, 3) := by decide +kernel
theorem dX9_remembers_30 : decode cX9_remembers 30 = .ok (.iadd, 1) := by decide +kernel
theorem dX9_remembers_31 : decode cX9_remembers 31 = .ok (.iaload, 1) := by decide +kernel
theorem dX9_remembers_32 : decode cX9_remembers 32 = .ok (.iastore, 1) := by decide +kernel
theorem dX9_remembers_33 : decode cX9_remembers 33 = .ok (.iinc 1 1, 3) := by decide +kernel
theorem dX9_remembers_36 : decode cX9_remembers 36 = .ok (.goto (-25), 3) := by decide +kernel
theorem dX9_remembers_39 : decode cX9_remembers 39 = .ok (.aload_n 0, 1) := by decide +kernel
theorem dX9_remembers_40 : decode cX9_remembers 40 = .ok (.dup, 1) := by decide +kernel
theorem dX9_remembers_41 : decode cX9_remembers 41 = .ok (.getfield 230, 3) := by decide +kernel
theorem dX9_remembers_44 : decode cX9_remembers 44 = .ok (.iconst 1, 1) := by decide +kernel
theorem dX9_remembers_45 : decode cX9_remembers 45 = .ok (.isub, 1) := by decide +kernel
theorem dX9_remembers_46 : decode cX9_remembers 46 = .ok (.putfield 230, 3) := by decide +kernel
theorem dX9_remembers_49 : decode cX9_remembers 49 = .ok (.iconst 0, 1) := by decide +kernel
theorem dX9_remembers_50 : decode cX9_remembers 50 = .ok (.istore_n 1, 1) := by decide +kernel
theorem dX9_remembers_51 : decode cX9_remembers 51 = .ok (.iload_n 1, 1) := by decide +kernel
theorem dX9_remembers_52 : decode cX9_remembers 52 = .ok (.sipush 6682, 3) := by decide +kernel
theorem dX9_remembers_55 : decode cX9_remembers 55 = .ok (.if_icmp .ge 30, 3) := by decide +kernel
theorem dX9_remembers_58 : decode cX9_remembers 58 = .ok (.aload_n 0, 1) := by decide +kernel
theorem dX9_remembers_59 : decode cX9_remembers 59 = .ok (.getfield 20, 3) := by decide +kernel
theorem dX9_remembers_62 : decode cX9_remembers 62 = .ok (.sipush 6682, 3) := by decide +kernel
theorem dX9_remembers_65 : decode cX9_remembers 65 = .ok (.aload_n 0, 1) := by decide +kernel
theorem dX9_remembers_66 : decode cX9_remembers 66 = .ok (.getfield 230, 3) := by decide +kernel
theorem dX9_remembers_69 : decode cX9_remembers 69 = .ok (.imul, 1) := by decide +kernel
theorem dX9_remembers_70 : decode cX9_remembers 70 = .ok (.iload_n 1, 1) := by decide +kernel
theorem dX9_remembers_71 : decode cX9_remembers 71 = .ok (.iadd, 1) := by decide +kernel
theorem dX9_remembers_72 : decode cX9_remembers 72 = .ok (.aload_n 0, 1) := by decide +kernel
theorem dX9_remembers_73 : decode cX9_remembers 73 = .ok (.getfield 13, 3) := by decide +kernel
theorem dX9_remembers_76 : decode cX9_remembers 76 = .ok (.iload_n 1, 1) := by decide +kernel
theorem dX9_remembers_77 : decode cX9_remembers 77 = .ok (.iaload, 1) := by decide +kernel
theorem dX9_remembers_78 : decode cX9_remembers 78 = .ok (.iastore, 1) := by decide +kernel
theorem dX9_remembers_79 : decode cX9_remembers 79 = .ok (.iinc 1 1, 3) := by decide +kernel
theorem dX9_remembers_82 : decode cX9_remembers 82 = .ok (.goto (-31), 3) := by decide +kernel
theorem dX9_remembers_85 : decode cX9_remembers 85 = .ok (.aload_n 0, 1) := by decide +kernel
theorem dX9_remembers_86 : decode cX9_remembers 86 = .ok (.dup, 1) := by decide +kernel
theorem dX9_remembers_87 : decode cX9_remembers 87 = .ok (.getfield 230, 3) := by decide +kernel
theorem dX9_remembers_90 : decode cX9_remembers 90 = .ok (.iconst 1, 1) := by decide +kernel
theorem dX9_remembers_91 : decode cX9_remembers 91 = .ok (.iadd, 1) := by decide +kernel
theorem dX9_remembers_92 : decode cX9_remembers 92 = .ok (.putfield 230, 3) := by decide +kernel
theorem dX9_remembers_95 : decode cX9_remembers 95 = .ok (.return_, 1) := by decide +kernel
set_option maxRecDepth 20000 in
set_option maxHeartbeats 4000000 in
theorem wk_X9_remembers_51 {p : Program} {l : Launch} {e : Env} {s : State} {m : MethodId} {args : Array Value} {below : List Frame} {meth : Method} {c : Code} {G : Gp}   {Q : St → Prop} (F : FX p s m args meth c cX9_remembers 2 none RX9 G)   : ∀ (n9 : Nat) (σ : St) (x1 : Int32), LP2 (wp_X9_remembers_51 Q) n9 σ x1 → J p l e (rmF 0 0) s m args below meth c 2 G (MQ below (QQ G (qV Q)) args s 0 0 (fr G)) 0 0 51 [(0, .ref (gb G + 244)), (1, .int x1)] [] σ := by
  intro n9
  induction n9 with
  | zero => intro σ x1 h; exact h.elim
  | succ n9 i51 =>
    intro σ x1 h
    have h : wp_X9_remembers_51 Q (LP2 (wp_X9_remembers_51 Q) n9) σ x1 := h
    unfold wp_X9_remembers_51 at h
    refine J_iln F 1 dX9_remembers_51 rfl rfl ?_
    refine J_si F dX9_remembers_52 ks_6682 ?_
    refine J_cge F (tgt := 85) dX9_remembers_55 (by decide) (fun c_1 => ?_) (fun c_1 => ?_)
    · have h := h.1 c_1
      refine J_aln F 0 dX9_remembers_85 rfl rfl ?_
      refine J_dup F dX9_remembers_86 rfl ?_
      refine J_gfi F (ci := 9) 5 rfl inX9 ly_244 (by decide) (by decide) rfl lf_X9_230 rfl dX9_remembers_87 ?_
      refine J_ic F dX9_remembers_90 ki_1 ?_
      refine J_iadd F dX9_remembers_91 ?_
      refine J_pfi F (ci := 9) 5 rfl inX9 tyX9 tyX9_ok nmX9 ly_244 (by decide) (by decide) rfl lf_X9_230 rfl rfl (tyX9_ok 5 (by decide)) rfl rfl dX9_remembers_92 ?_
      refine J_st (fun σ_2 eσ_2 => ?_)
      have h := h σ_2 eσ_2
      exact J_retv F ⟨rfl, h⟩ dX9_remembers_95
    · have h := h.2 c_1
      refine J_aln F 0 dX9_remembers_58 rfl rfl ?_
      refine J_gfa F (ci := 9) 4 rfl inX9 ly_244 (by decide) (by decide) rfl lf_X9_20 rfl dX9_remembers_59 ?_
      refine J_si F dX9_remembers_62 ks_6682 ?_
      refine J_aln F 0 dX9_remembers_65 rfl rfl ?_
      refine J_gfi F (ci := 9) 5 rfl inX9 ly_244 (by decide) (by decide) rfl lf_X9_230 rfl dX9_remembers_66 ?_
      refine J_imul F dX9_remembers_69 ?_
      refine J_iln F 1 dX9_remembers_70 rfl rfl ?_
      refine J_iadd F dX9_remembers_71 ?_
      refine J_aln F 0 dX9_remembers_72 rfl rfl ?_
      refine J_gfa F (ci := 9) 2 rfl inX9 ly_244 (by decide) (by decide) rfl lf_X9_13 rfl dX9_remembers_73 ?_
      refine J_iln F 1 dX9_remembers_76 rfl rfl ?_
      obtain ⟨h_3, h⟩ := h
      refine J_iald F ly_246 h_3 dX9_remembers_77 ?_
      obtain ⟨h_4, h⟩ := h
      refine J_iast F ly_248 h_4 dX9_remembers_78 ?_
      refine J_st (fun σ_5 eσ_5 => ?_)
      have h := h σ_5 eσ_5
      obtain ⟨x1_6, ex1_6⟩ : ∃ z : Int32, z = x1 + (nI 1) := ⟨_, rfl⟩
      have h := h x1_6 ex1_6
      refine J_iinc F (v := x1_6) (L' := [(1, .int x1_6), (0, .ref (gb G + 244))]) 1 dX9_remembers_79 rfl (by rw [ki_1, ex1_6]) (by decide) rfl ?_
      refine J_goto F (tgt := 51) dX9_remembers_82 (by decide) ?_
      refine J_sub [1, 0] rfl ?_
      exact i51 _ _ h
set_option maxRecDepth 20000 in
set_option maxHeartbeats 4000000 in
theorem wk_X9_remembers_39 {p : Program} {l : Launch} {e : Env} {s : State} {m : MethodId} {args : Array Value} {below : List Frame} {meth : Method} {c : Code} {G : Gp} {σ : St}   {Q : St → Prop} (F : FX p s m args meth c cX9_remembers 2 none RX9 G)   (h : wp_X9_remembers_39 σ Q) : J p l e (rmF 0 0) s m args below meth c 2 G (MQ below (QQ G (qV Q)) args s 0 0 (fr G)) 0 0 39 [(0, .ref (gb G + 244))] [] σ := by
  unfold wp_X9_remembers_39 at h
  refine J_aln F 0 dX9_remembers_39 rfl rfl ?_
  refine J_dup F dX9_remembers_40 rfl ?_
  refine J_gfi F (ci := 9) 5 rfl inX9 ly_244 (by decide) (by decide) rfl lf_X9_230 rfl dX9_remembers_41 ?_
  refine J_ic F dX9_remembers_44 ki_1 ?_
  refine J_isub F dX9_remembers_45 ?_
  refine J_pfi F (ci := 9) 5 rfl inX9 tyX9 tyX9_ok nmX9 ly_244 (by decide) (by decide) rfl lf_X9_230 rfl rfl (tyX9_ok 5 (by decide)) rfl rfl dX9_remembers_46 ?_
  refine J_st (fun σ_7 eσ_7 => ?_)
  have h := h σ_7 eσ_7
  refine J_ic F dX9_remembers_49 ki_0 ?_
  refine J_isn F (L' := [(1, .int (nI 0)), (0, .ref (gb G + 244))]) dX9_remembers_50 rfl (by decide) rfl ?_
  refine J_sub [1, 0] rfl ?_
  obtain ⟨n9, h⟩ := h
  exact wk_X9_remembers_51 F  n9 _ _ h
set_option maxRecDepth 20000 in
set_option maxHeartbeats 4000000 in
theorem wk_X9_remembers_11 {p : Program} {l : Launch} {e : Env} {s : State} {m : MethodId} {args : Array Value} {below : List Frame} {meth : Method} {c : Code} {G : Gp}   {Q : St → Prop} (F : FX p s m args meth c cX9_remembers 2 none RX9 G)   : ∀ (n9 : Nat) (σ : St) (x1 : Int32), LP2 (wp_X9_remembers_11 Q) n9 σ x1 → J p l e (rmF 0 0) s m args below meth c 2 G (MQ below (QQ G (qV Q)) args s 0 0 (fr G)) 0 0 11 [(0, .ref (gb G + 244)), (1, .int x1)] [] σ := by
  intro n9
  induction n9 with
  | zero => intro σ x1 h; exact h.elim
  | succ n9 i11 =>
    intro σ x1 h
    have h : wp_X9_remembers_11 Q (LP2 (wp_X9_remembers_11 Q) n9) σ x1 := h
    unfold wp_X9_remembers_11 at h
    refine J_iln F 1 dX9_remembers_11 rfl rfl ?_
    refine J_ldc F dX9_remembers_12 lk_X9_233 ?_
    refine J_cge F (tgt := 39) dX9_remembers_14 (by decide) (fun c_8 => ?_) (fun c_8 => ?_)
    · have h := h.1 c_8
      refine J_sub [0] rfl ?_
      exact wk_X9_remembers_39 F  h
    · have h := h.2 c_8
      refine J_aln F 0 dX9_remembers_17 rfl rfl ?_
      refine J_gfa F (ci := 9) 4 rfl inX9 ly_244 (by decide) (by decide) rfl lf_X9_20 rfl dX9_remembers_18 ?_
      refine J_iln F 1 dX9_remembers_21 rfl rfl ?_
      refine J_aln F 0 dX9_remembers_22 rfl rfl ?_
      refine J_gfa F (ci := 9) 4 rfl inX9 ly_244 (by decide) (by decide) rfl lf_X9_20 rfl dX9_remembers_23 ?_
      refine J_iln F 1 dX9_remembers_26 rfl rfl ?_
      refine J_si F dX9_remembers_27 ks_6682 ?_
      refine J_iadd F dX9_remembers_30 ?_
      obtain ⟨h_9, h⟩ := h
      refine J_iald F ly_248 h_9 dX9_remembers_31 ?_
      obtain ⟨h_10, h⟩ := h
      refine J_iast F ly_248 h_10 dX9_remembers_32 ?_
      refine J_st (fun σ_11 eσ_11 => ?_)
      have h := h σ_11 eσ_11
      obtain ⟨x1_12, ex1_12⟩ : ∃ z : Int32, z = x1 + (nI 1) := ⟨_, rfl⟩
      have h := h x1_12 ex1_12
      refine J_iinc F (v := x1_12) (L' := [(1, .int x1_12), (0, .ref (gb G + 244))]) 1 dX9_remembers_33 rfl (by rw [ki_1, ex1_12]) (by decide) rfl ?_
      refine J_goto F (tgt := 11) dX9_remembers_36 (by decide) ?_
      refine J_sub [1, 0] rfl ?_
      exact i11 _ _ h
set_option maxRecDepth 20000 in
set_option maxHeartbeats 4000000 in
theorem C_X9_remembers (l : Launch) (G : Gp)   {σ : St} {Q : St → Prop} (h : wp_X9_remembers σ  Q) : Cn l yX9_remembers cX9_remembers 2 none 0 0 G [.ref (gb G + 244)] σ (qV Q) := by
  refine Cn_of (L := [(0, .ref (gb G + 244))]) RX9 (by decide) rfl (Nat.le_of_ble_eq_true rfl) rfl ?_
  intro p e s m below meth c F
  unfold wp_X9_remembers at h
  refine J_aln F 0 dX9_remembers_0 rfl rfl ?_
  refine J_gfi F (ci := 9) 5 rfl inX9 ly_244 (by decide) (by decide) rfl lf_X9_230 rfl dX9_remembers_1 ?_
  refine J_bi F dX9_remembers_4 kb_8 ?_
  refine J_cne F (tgt := 49) dX9_remembers_6 (by decide) (fun c_13 => ?_) (fun c_13 => ?_)
  · have h := h.1 c_13
    refine J_ic F dX9_remembers_49 ki_0 ?_
    refine J_isn F (L' := [(1, .int (nI 0)), (0, .ref (gb G + 244))]) dX9_remembers_50 rfl (by decide) rfl ?_
    refine J_sub [1, 0] rfl ?_
    obtain ⟨n9, h⟩ := h
    exact wk_X9_remembers_51 F  n9 _ _ h
  · have h := h.2 c_13
    refine J_ic F dX9_remembers_9 ki_0 ?_
    refine J_isn F (L' := [(1, .int (nI 0)), (0, .ref (gb G + 244))]) dX9_remembers_10 rfl (by decide) rfl ?_
    refine J_sub [1, 0] rfl ?_
    obtain ⟨n9, h⟩ := h
    exact wk_X9_remembers_11 F  n9 _ _ h
theorem dX9_isDone_0 : decode cX9_isDone 0 = .ok (.aload_n 0, 1) := by decide +kernel
theorem dX9_isDone_1 : decode cX9_isDone 1 = .ok (.iload_n 1, 1) := by decide +kernel
theorem dX9_isDone_2 : decode cX9_isDone 2 = .ok (.putfield 234, 3) := by decide +kernel
theorem dX9_isDone_5 : decode cX9_isDone 5 = .ok (.aload_n 0, 1) := by decide +kernel
theorem dX9_isDone_6 : decode cX9_isDone 6 = .ok (.iload_n 1, 1) := by decide +kernel
theorem dX9_isDone_7 : decode cX9_isDone 7 = .ok (.ifCond .le 7, 3) := by decide +kernel
theorem dX9_isDone_10 : decode cX9_isDone 10 = .ok (.iload_n 2, 1) := by decide +kernel
theorem dX9_isDone_11 : decode cX9_isDone 11 = .ok (.goto 4, 3) := by decide +kernel
theorem dX9_isDone_14 : decode cX9_isDone 14 = .ok (.iconst 0, 1) := by decide +kernel
theorem dX9_isDone_15 : decode cX9_isDone 15 = .ok (.putfield 54, 3) := by decide +kernel
theorem dX9_isDone_18 : decode cX9_isDone 18 = .ok (.iload_n 1, 1) := by decide +kernel
theorem dX9_isDone_19 : decode cX9_isDone 19 = .ok (.ifCond .ne 7, 3) := by decide +kernel
theorem dX9_isDone_22 : decode cX9_isDone 22 = .ok (.aload_n 0, 1) := by decide +kernel
theorem dX9_isDone_23 : decode cX9_isDone 23 = .ok (.invokevirtual 237, 3) := by decide +kernel
theorem dX9_isDone_26 : decode cX9_isDone 26 = .ok (.iload_n 1, 1) := by decide +kernel
theorem dX9_isDone_27 : decode cX9_isDone 27 = .ok (.ifCond .ne 7, 3) := by decide +kernel
theorem dX9_isDone_30 : decode cX9_isDone 30 = .ok (.iconst 1, 1) := by decide +kernel
theorem dX9_isDone_31 : decode cX9_isDone 31 = .ok (.goto 4, 3) := by decide +kernel
theorem dX9_isDone_34 : decode cX9_isDone 34 = .ok (.iconst 0, 1) := by decide +kernel
theorem dX9_isDone_35 : decode cX9_isDone 35 = .ok (.ireturn, 1) := by decide +kernel
set_option maxRecDepth 20000 in
set_option maxHeartbeats 4000000 in
theorem wk_X9_isDone_26 {p : Program} {l : Launch} {e : Env} {s : State} {m : MethodId} {args : Array Value} {below : List Frame} {meth : Method} {c : Code} {G : Gp} {σ : St} {x1 : Int32}  {Q : Int32 → St → Prop} (F : FX p s m args meth c cX9_isDone 3 (some .boolean) RX9 G)   (h : wp_X9_isDone_26 σ x1 Q) : J p l e (rmF 1 21) s m args below meth c 3 G (MQ below (QQ G (qI Q)) args s 0 0 (fr G)) 0 0 26 [(1, .int x1)] [] σ := by
  unfold wp_X9_isDone_26 at h
  refine J_iln F 0 dX9_isDone_26 rfl rfl ?_
  refine J_zne F (tgt := 34) dX9_isDone_27 (by decide) (fun c_1 => ?_) (fun c_1 => ?_)
  · have h := h.1 c_1
    refine J_ic F dX9_isDone_34 ki_0 ?_
    exact J_retz F (Or.inl rfl) ⟨_, rfl, h⟩ dX9_isDone_35
  · have h := h.2 c_1
    refine J_ic F dX9_isDone_30 ki_1 ?_
    refine J_goto F (tgt := 35) dX9_isDone_31 (by decide) ?_
    exact J_retz F (Or.inr rfl) ⟨_, rfl, h⟩ dX9_isDone_35
set_option maxRecDepth 20000 in
set_option maxHeartbeats 4000000 in
theorem wk_X9_isDone_15 {p : Program} {l : Launch} {e : Env} {s : State} {m : MethodId} {args : Array Value} {below : List Frame} {meth : Method} {c : Code} {G : Gp} {σ : St} {x1 : Int32} {t1 : Int32}  {Q : Int32 → St → Prop} (F : FX p s m args meth c cX9_isDone 3 (some .boolean) RX9 G)   (h : wp_X9_isDone_15 σ x1 t1 Q) : J p l e (rmF 1 21) s m args below meth c 3 G (MQ below (QQ G (qI Q)) args s 0 0 (fr G)) 0 0 15 [(0, .ref (gb G + 244)), (1, .int x1)] [.int t1, .ref (gb G + 244)] σ := by
  unfold wp_X9_isDone_15 at h
  refine J_pfi F (ci := 9) 0 rfl inX9 tyX9 tyX9_ok nmX9 ly_244 (by decide) (by decide) rfl lf_X9_54 rfl rfl (tyX9_ok 0 (by decide)) rfl rfl dX9_isDone_15 ?_
  refine J_st (fun σ_2 eσ_2 => ?_)
  have h := h σ_2 eσ_2
  refine J_iln F 1 dX9_isDone_18 rfl rfl ?_
  refine J_zne F (tgt := 26) dX9_isDone_19 (by decide) (fun c_3 => ?_) (fun c_3 => ?_)
  · have h := h.1 c_3
    refine J_sub [1] rfl ?_
    exact wk_X9_isDone_26 F  h
  · have h := h.2 c_3
    refine J_aln F 0 dX9_isDone_22 rfl rfl ?_
    refine J_callVv F (As := []) (st := []) (C_X9_remembers l G   h) (ci := 9) ly_244 (by decide) rfl rfl lm_X9_237 li_X9_remembers ls_X9_remembers ini_X9 lc_X9_remembers hd_X9_remembers (by decide) (Nat.le_of_ble_eq_true rfl) (by decide) rfl dX9_isDone_23 (fun σ_4 h => ?_)
    refine J_sub [1] rfl ?_
    exact wk_X9_isDone_26 F  h
set_option maxRecDepth 20000 in
set_option maxHeartbeats 4000000 in
theorem C_X9_isDone (l : Launch) (G : Gp) (x1 : Int32) (x2 : Int32)  {σ : St} {Q : Int32 → St → Prop} (h : wp_X9_isDone σ x1 x2 Q) : Cn l yX9_isDone cX9_isDone 3 (some .boolean) 1 21 G [.ref (gb G + 244), .int x1, .int x2] σ (qI Q) := by
  refine Cn_of (L := [(0, .ref (gb G + 244)), (1, .int x1), (2, .int x2)]) RX9 (by decide) rfl (Nat.le_of_ble_eq_true rfl) rfl ?_
  intro p e s m below meth c F
  unfold wp_X9_isDone at h
  refine J_aln F 0 dX9_isDone_0 rfl rfl ?_
  refine J_iln F 1 dX9_isDone_1 rfl rfl ?_
  refine J_pfi F (ci := 9) 7 rfl inX9 tyX9 tyX9_ok nmX9 ly_244 (by decide) (by decide) rfl lf_X9_234 rfl rfl (tyX9_ok 7 (by decide)) rfl rfl dX9_isDone_2 ?_
  refine J_st (fun σ_5 eσ_5 => ?_)
  have h := h σ_5 eσ_5
  refine J_aln F 0 dX9_isDone_5 rfl rfl ?_
  refine J_iln F 1 dX9_isDone_6 rfl rfl ?_
  refine J_zle F (tgt := 14) dX9_isDone_7 (by decide) (fun c_6 => ?_) (fun c_6 => ?_)
  · have h := h.1 c_6
    refine J_ic F dX9_isDone_14 ki_0 ?_
    refine J_sub [0, 1] rfl ?_
    exact wk_X9_isDone_15 F  h
  · have h := h.2 c_6
    refine J_iln F 2 dX9_isDone_10 rfl rfl ?_
    refine J_goto F (tgt := 15) dX9_isDone_11 (by decide) ?_
    refine J_sub [0, 1] rfl ?_
    exact wk_X9_isDone_15 F  h
theorem dX9_feed_0 : decode cX9_feed 0 = .ok (.aload_n 0, 1) := by decide +kernel
theorem dX9_feed_1 : decode cX9_feed 1 = .ok (.iconst 0, 1) := by decide +kernel
theorem dX9_feed_2 : decode cX9_feed 2 = .ok (.putfield 54, 3) := by decide +kernel
theorem dX9_feed_5 : decode cX9_feed 5 = .ok (.aload_n 0, 1) := by decide +kernel
theorem dX9_feed_6 : decode cX9_feed 6 = .ok (.getfield 240, 3) := by decide +kernel
theorem dX9_feed_9 : decode cX9_feed 9 = .ok (.bipush 20, 2) := by decide +kernel
theorem dX9_feed_11 : decode cX9_feed 11 = .ok (.iadd, 1) := by decide +kernel
theorem dX9_feed_12 : decode cX9_feed 12 = .ok (.sipush 400, 3) := by decide +kernel
theorem dX9_feed_15 : decode cX9_feed 15 = .ok (.if_icmp .le 5, 3) := by decide +kernel
theorem dX9_feed_18 : decode cX9_feed 18 = .ok (.iconst (-1), 1) := by decide +kernel
theorem dX9_feed_19 : decode cX9_feed 19 = .ok (.ireturn, 1) := by decide +kernel
theorem dX9_feed_20 : decode cX9_feed 20 = .ok (.iconst 0, 1) := by decide +kernel
theorem dX9_feed_21 : decode cX9_feed 21 = .ok (.istore 6, 2) := by decide +kernel
theorem dX9_feed_23 : decode cX9_feed 23 = .ok (.iload 6, 2) := by decide +kernel
theorem dX9_feed_25 : decode cX9_feed 25 = .ok (.bipush 20, 2) := by decide +kernel
theorem dX9_feed_27 : decode cX9_feed 27 = .ok (.if_icmp .ge 93, 3) := by decide +kernel
theorem dX9_feed_30 : decode cX9_feed 30 = .ok (.iload 6, 2) := by decide +kernel
theorem dX9_feed_32 : decode cX9_feed 32 = .ok (.iconst 4, 1) := by decide +kernel
theorem dX9_feed_33 : decode cX9_feed 33 = .ok (.if_icmp .ge 7, 3) := by decide +kernel
theorem dX9_feed_36 : decode cX9_feed 36 = .ok (.iload_n 1, 1) := by decide +kernel
theorem dX9_feed_37 : decode cX9_feed 37 = .ok (.goto 39, 3) := by decide +kernel
theorem dX9_feed_40 : decode cX9_feed 40 = .ok (.iload 6, 2) := by decide +kernel
theorem dX9_feed_42 : decode cX9_feed 42 = .ok (.bipush 8, 2) := by decide +kernel
theorem dX9_feed_44 : decode cX9_feed 44 = .ok (.if_icmp .ge 7, 3) := by decide +kernel
theorem dX9_feed_47 : decode cX9_feed 47 = .ok (.iload_n 2, 1) := by decide +kernel
theorem dX9_feed_48 : decode cX9_feed 48 = .ok (.goto 28, 3) := by decide +kernel
theorem dX9_feed_51 : decode cX9_feed 51 = .ok (.iload 6, 2) := by decide +kernel
theorem dX9_feed_53 : decode cX9_feed 53 = .ok (.bipush 12, 2) := by decide +kernel
theorem dX9_feed_55 : decode cX9_feed 55 = .ok (.if_icmp .ge 7, 3) := by decide +kernel
theorem dX9_feed_58 : decode cX9_feed 58 = .ok (.iload_n 3, 1) := by decide +kernel
theorem dX9_feed_59 : decode cX9_feed 59 = .ok (.goto 17, 3) := by decide +kernel
theorem dX9_feed_62 : decode cX9_feed 62 = .ok (.iload 6, 2) := by decide +kernel
theorem dX9_feed_64 : decode cX9_feed 64 = .ok (.bipush 16, 2) := by decide +kernel
theorem dX9_feed_66 : decode cX9_feed 66 = .ok (.if_icmp .ge 8, 3) := by decide +kernel
theorem dX9_feed_69 : decode cX9_feed 69 = .ok (.iload 4, 2) := by decide +kernel
theorem dX9_feed_71 : decode cX9_feed 71 = .ok (.goto 5, 3) := by decide +kernel
theorem dX9_feed_74 : decode cX9_feed 74 = .ok (.iload 5, 2) := by decide +kernel
theorem dX9_feed_76 : decode cX9_feed 76 = .ok (.istore 7, 2) := by decide +kernel
theorem dX9_feed_78 : decode cX9_feed 78 = .ok (.aload_n 0, 1) := by decide +kernel
theorem dX9_feed_79 : decode cX9_feed 79 = .ok (.getfield 23, 3) := by decide +kernel
theorem dX9_feed_82 : decode cX9_feed 82 = .ok (.aload_n 0, 1) := by decide +kernel
theorem dX9_feed_83 : decode cX9_feed 83 = .ok (.getfield 240, 3) := by decide +kernel
theorem dX9_feed_86 : decode cX9_feed 86 = .ok (.iload 7, 2) := by decide +kernel
theorem dX9_feed_88 : decode cX9_feed 88 = .ok (.bipush 24, 2) := by decide +kernel
theorem dX9_feed_90 : decode cX9_feed 90 = .ok (.bipush 8, 2) := by decide +kernel
theorem dX9_feed_92 : decode cX9_feed 92 = .ok (.iload 6, 2) := by decide +kernel
theorem dX9_feed_94 : decode cX9_feed 94 = .ok (.iconst 4, 1) := by decide +kernel
theorem dX9_feed_95 : decode cX9_feed 95 = .ok (.irem, 1) := by decide +kernel
theorem dX9_feed_96 : decode cX9_feed 96 = .ok (.imul, 1) := by decide +kernel
theorem dX9_feed_97 : decode cX9_feed 97 = .ok (.isub, 1) := by decide +kernel
theorem dX9_feed_98 : decode cX9_feed 98 = .ok (.iushr, 1) := by decide +kernel
theorem dX9_feed_99 : decode cX9_feed 99 = .ok (.sipush 255, 3) := by decide +kernel
theorem dX9_feed_102 : decode cX9_feed 102 = .ok (.iand, 1) := by decide +kernel
theorem dX9_feed_103 : decode cX9_feed 103 = .ok (.iastore, 1) := by decide +kernel
theorem dX9_feed_104 : decode cX9_feed 104 = .ok (.aload_n 0, 1) := by decide +kernel
theorem dX9_feed_105 : decode cX9_feed 105 = .ok (.dup, 1) := by decide +kernel
theorem dX9_feed_106 : decode cX9_feed 106 = .ok (.getfield 240, 3) := by decide +kernel
theorem dX9_feed_109 : decode cX9_feed 109 = .ok (.iconst 1, 1) := by decide +kernel
theorem dX9_feed_110 : decode cX9_feed 110 = .ok (.iadd, 1) := by decide +kernel
theorem dX9_feed_111 : decode cX9_feed 111 = .ok (.putfield 240, 3) := by decide +kernel
theorem dX9_feed_114 : decode cX9_feed 114 = .ok (.iinc 6 1, 3) := by decide +kernel
theorem dX9_feed_117 : decode cX9_feed 117 = .ok (.goto (-94), 3) := by decide +kernel
theorem dX9_feed_120 : decode cX9_feed 120 = .ok (.aload_n 0, 1) := by decide +kernel
theorem dX9_feed_121 : decode cX9_feed 121 = .ok (.getfield 240, 3) := by decide +kernel
theorem dX9_feed_124 : decode cX9_feed 124 = .ok (.ireturn, 1) := by decide +kernel
set_option maxRecDepth 20000 in
set_option maxHeartbeats 4000000 in
theorem wk_X9_feed_76 {p : Program} {l : Launch} {e : Env} {s : State} {m : MethodId} {args : Array Value} {below : List Frame} {meth : Method} {c : Code} {G : Gp} {σ : St} {x1 : Int32} {x2 : Int32} {x3 : Int32} {x4 : Int32} {x5 : Int32} {x6 : Int32} {t0 : Int32} {ih23 : St → Int32 → Prop} {Q : Int32 → St → Prop} (F : FX p s m args meth c cX9_feed 8 (some .int) RX9 G)  (i23 : ∀ (σ : St) (x6 : Int32), ih23 σ x6 → J p l e (rmF 0 0) s m args below meth c 8 G (MQ below (QQ G (qI Q)) args s 0 0 (fr G)) 0 0 23 [(0, .ref (gb G + 244)), (1, .int x1), (2, .int x2), (3, .int x3), (4, .int x4), (5, .int x5), (6, .int x6)] [] σ) (h : wp_X9_feed_76 σ x1 x2 x3 x4 x5 x6 t0 ih23 Q) : J p l e (rmF 0 0) s m args below meth c 8 G (MQ below (QQ G (qI Q)) args s 0 0 (fr G)) 0 0 76 [(0, .ref (gb G + 244)), (1, .int x1), (2, .int x2), (3, .int x3), (4, .int x4), (5, .int x5), (6, .int x6)] [.int t0] σ := by
  unfold wp_X9_feed_76 at h
  refine J_is F (L' := [(7, .int t0), (0, .ref (gb G + 244)), (1, .int x1), (2, .int x2), (3, .int x3), (4, .int x4), (5, .int x5), (6, .int x6)]) dX9_feed_76 (by decide) rfl ?_
  refine J_aln F 1 dX9_feed_78 rfl rfl ?_
  refine J_gfa F (ci := 9) 8 rfl inX9 ly_244 (by decide) (by decide) rfl lf_X9_23 rfl dX9_feed_79 ?_
  refine J_aln F 1 dX9_feed_82 rfl rfl ?_
  refine J_gfi F (ci := 9) 9 rfl inX9 ly_244 (by decide) (by decide) rfl lf_X9_240 rfl dX9_feed_83 ?_
  refine J_il F 0 dX9_feed_86 rfl ?_
  refine J_bi F dX9_feed_88 kb_24 ?_
  refine J_bi F dX9_feed_90 kb_8 ?_
  refine J_il F 7 dX9_feed_92 rfl ?_
  refine J_ic F dX9_feed_94 ki_4 ?_
  refine J_irem F dX9_feed_95 nz_4 ?_
  refine J_imul F dX9_feed_96 ?_
  refine J_isub F dX9_feed_97 ?_
  refine J_iushr F dX9_feed_98 ?_
  refine J_si F dX9_feed_99 ks_255 ?_
  refine J_iand F dX9_feed_102 ?_
  obtain ⟨h_1, h⟩ := h
  refine J_iast F ly_249 h_1 dX9_feed_103 ?_
  refine J_st (fun σ_2 eσ_2 => ?_)
  have h := h σ_2 eσ_2
  refine J_aln F 1 dX9_feed_104 rfl rfl ?_
  refine J_dup F dX9_feed_105 rfl ?_
  refine J_gfi F (ci := 9) 9 rfl inX9 ly_244 (by decide) (by decide) rfl lf_X9_240 rfl dX9_feed_106 ?_
  refine J_ic F dX9_feed_109 ki_1 ?_
  refine J_iadd F dX9_feed_110 ?_
  refine J_pfi F (ci := 9) 9 rfl inX9 tyX9 tyX9_ok nmX9 ly_244 (by decide) (by decide) rfl lf_X9_240 rfl rfl (tyX9_ok 9 (by decide)) rfl rfl dX9_feed_111 ?_
  refine J_st (fun σ_3 eσ_3 => ?_)
  have h := h σ_3 eσ_3
  obtain ⟨x6_4, ex6_4⟩ : ∃ z : Int32, z = x6 + (nI 1) := ⟨_, rfl⟩
  have h := h x6_4 ex6_4
  refine J_iinc F (v := x6_4) (L' := [(6, .int x6_4), (7, .int t0), (0, .ref (gb G + 244)), (1, .int x1), (2, .int x2), (3, .int x3), (4, .int x4), (5, .int x5)]) 7 dX9_feed_114 rfl (by rw [ki_1, ex6_4]) (by decide) rfl ?_
  refine J_goto F (tgt := 23) dX9_feed_117 (by decide) ?_
  refine J_sub [2, 3, 4, 5, 6, 7, 0] rfl ?_
  exact i23 _ _ h
set_option maxRecDepth 20000 in
set_option maxHeartbeats 4000000 in
theorem wk_X9_feed_23 {p : Program} {l : Launch} {e : Env} {s : State} {m : MethodId} {args : Array Value} {below : List Frame} {meth : Method} {c : Code} {G : Gp} {x1 : Int32} {x2 : Int32} {x3 : Int32} {x4 : Int32} {x5 : Int32}  {Q : Int32 → St → Prop} (F : FX p s m args meth c cX9_feed 8 (some .int) RX9 G)   : ∀ (n9 : Nat) (σ : St) (x6 : Int32), LP2 (wp_X9_feed_23 x1 x2 x3 x4 x5 Q) n9 σ x6 → J p l e (rmF 0 0) s m args below meth c 8 G (MQ below (QQ G (qI Q)) args s 0 0 (fr G)) 0 0 23 [(0, .ref (gb G + 244)), (1, .int x1), (2, .int x2), (3, .int x3), (4, .int x4), (5, .int x5), (6, .int x6)] [] σ := by
  intro n9
  induction n9 with
  | zero => intro σ x6 h; exact h.elim
  | succ n9 i23 =>
    intro σ x6 h
    have h : wp_X9_feed_23 x1 x2 x3 x4 x5 Q (LP2 (wp_X9_feed_23 x1 x2 x3 x4 x5 Q) n9) σ x6 := h
    unfold wp_X9_feed_23 at h
    refine J_il F 6 dX9_feed_23 rfl ?_
    refine J_bi F dX9_feed_25 kb_20 ?_
    refine J_cge F (tgt := 120) dX9_feed_27 (by decide) (fun c_5 => ?_) (fun c_5 => ?_)
    · have h := h.1 c_5
      refine J_aln F 0 dX9_feed_120 rfl rfl ?_
      refine J_gfi F (ci := 9) 9 rfl inX9 ly_244 (by decide) (by decide) rfl lf_X9_240 rfl dX9_feed_121 ?_
      exact J_reti F ⟨_, rfl, h⟩ dX9_feed_124
    · have h := h.2 c_5
      refine J_il F 6 dX9_feed_30 rfl ?_
      refine J_ic F dX9_feed_32 ki_4 ?_
      refine J_cge F (tgt := 40) dX9_feed_33 (by decide) (fun c_6 => ?_) (fun c_6 => ?_)
      · have h := h.1 c_6
        refine J_il F 6 dX9_feed_40 rfl ?_
        refine J_bi F dX9_feed_42 kb_8 ?_
        refine J_cge F (tgt := 51) dX9_feed_44 (by decide) (fun c_7 => ?_) (fun c_7 => ?_)
        · have h := h.1 c_7
          refine J_il F 6 dX9_feed_51 rfl ?_
          refine J_bi F dX9_feed_53 kb_12 ?_
          refine J_cge F (tgt := 62) dX9_feed_55 (by decide) (fun c_8 => ?_) (fun c_8 => ?_)
          · have h := h.1 c_8
            refine J_il F 6 dX9_feed_62 rfl ?_
            refine J_bi F dX9_feed_64 kb_16 ?_
            refine J_cge F (tgt := 74) dX9_feed_66 (by decide) (fun c_9 => ?_) (fun c_9 => ?_)
            · have h := h.1 c_9
              refine J_il F 5 dX9_feed_74 rfl ?_
              exact wk_X9_feed_76 F i23 h
            · have h := h.2 c_9
              refine J_il F 4 dX9_feed_69 rfl ?_
              refine J_goto F (tgt := 76) dX9_feed_71 (by decide) ?_
              exact wk_X9_feed_76 F i23 h
          · have h := h.2 c_8
            refine J_iln F 3 dX9_feed_58 rfl rfl ?_
            refine J_goto F (tgt := 76) dX9_feed_59 (by decide) ?_
            exact wk_X9_feed_76 F i23 h
        · have h := h.2 c_7
          refine J_iln F 2 dX9_feed_47 rfl rfl ?_
          refine J_goto F (tgt := 76) dX9_feed_48 (by decide) ?_
          exact wk_X9_feed_76 F i23 h
      · have h := h.2 c_6
        refine J_iln F 1 dX9_feed_36 rfl rfl ?_
        refine J_goto F (tgt := 76) dX9_feed_37 (by decide) ?_
        exact wk_X9_feed_76 F i23 h
set_option maxRecDepth 20000 in
set_option maxHeartbeats 4000000 in
theorem C_X9_feed (l : Launch) (G : Gp) (x1 : Int32) (x2 : Int32) (x3 : Int32) (x4 : Int32) (x5 : Int32)  {σ : St} {Q : Int32 → St → Prop} (h : wp_X9_feed σ x1 x2 x3 x4 x5 Q) : Cn l yX9_feed cX9_feed 8 (some .int) 0 0 G [.ref (gb G + 244), .int x1, .int x2, .int x3, .int x4, .int x5] σ (qI Q) := by
  refine Cn_of (L := [(0, .ref (gb G + 244)), (1, .int x1), (2, .int x2), (3, .int x3), (4, .int x4), (5, .int x5)]) RX9 (by decide) rfl (Nat.le_of_ble_eq_true rfl) rfl ?_
  intro p e s m below meth c F
  unfold wp_X9_feed at h
  refine J_aln F 0 dX9_feed_0 rfl rfl ?_
  refine J_ic F dX9_feed_1 ki_0 ?_
  refine J_pfi F (ci := 9) 0 rfl inX9 tyX9 tyX9_ok nmX9 ly_244 (by decide) (by decide) rfl lf_X9_54 rfl rfl (tyX9_ok 0 (by decide)) rfl rfl dX9_feed_2 ?_
  refine J_st (fun σ_10 eσ_10 => ?_)
  have h := h σ_10 eσ_10
  refine J_aln F 0 dX9_feed_5 rfl rfl ?_
  refine J_gfi F (ci := 9) 9 rfl inX9 ly_244 (by decide) (by decide) rfl lf_X9_240 rfl dX9_feed_6 ?_
  refine J_bi F dX9_feed_9 kb_20 ?_
  refine J_iadd F dX9_feed_11 ?_
  refine J_si F dX9_feed_12 ks_400 ?_
  refine J_cle F (tgt := 20) dX9_feed_15 (by decide) (fun c_11 => ?_) (fun c_11 => ?_)
  · have h := h.1 c_11
    refine J_ic F dX9_feed_20 ki_0 ?_
    refine J_is F (L' := [(6, .int (nI 0)), (0, .ref (gb G + 244)), (1, .int x1), (2, .int x2), (3, .int x3), (4, .int x4), (5, .int x5)]) dX9_feed_21 (by decide) rfl ?_
    refine J_sub [1, 2, 3, 4, 5, 6, 0] rfl ?_
    obtain ⟨n9, h⟩ := h
    exact wk_X9_feed_23 F  n9 _ _ h
  · have h := h.2 c_11
    refine J_ic F dX9_feed_18 ki_m1 ?_
    exact J_reti F ⟨_, rfl, h⟩ dX9_feed_19
theorem dX9_end_0 : decode cX9_end 0 = .ok (.aload_n 0, 1) := by decide +kernel
theorem dX9_end_1 : decode cX9_end 1 = .ok (.iconst 0, 1) := by decide +kernel
theorem dX9_end_2 : decode cX9_end 2 = .ok (.putfield 54, 3) := by decide +kernel
theorem dX9_end_5 : decode cX9_end 5 = .ok (.iload_n 1, 1) := by decide +kernel
theorem dX9_end_6 : decode cX9_end 6 = .ok (.iconst 0, 1) := by decide +kernel
theorem dX9_end_7 : decode cX9_end 7 = .ok (.aload_n 0, 1) := by decide +kernel
theorem dX9_end_8 : decode cX9_end 8 = .ok (.getfield 240, 3) := by decide +kernel
theorem dX9_end_11 : decode cX9_end 11 = .ok (.invokestatic 77, 3) := by decide +kernel
theorem dX9_end_14 : decode cX9_end 14 = .ok (.ifCond .ne 5, 3) := by decide +kernel
theorem dX9_end_17 : decode cX9_end 17 = .ok (.iconst 0, 1) := by decide +kernel
theorem dX9_end_18 : decode cX9_end 18 = .ok (.ireturn, 1) := by decide +kernel
theorem dX9_end_19 : decode cX9_end 19 = .ok (.aload_n 0, 1) := by decide +kernel
theorem dX9_end_20 : decode cX9_end 20 = .ok (.iload_n 1, 1) := by decide +kernel
theorem dX9_end_21 : decode cX9_end 21 = .ok (.putfield 240, 3) := by decide +kernel
theorem dX9_end_24 : decode cX9_end 24 = .ok (.iconst 1, 1) := by decide +kernel
theorem dX9_end_25 : decode cX9_end 25 = .ok (.ireturn, 1) := by decide +kernel
set_option maxRecDepth 20000 in
set_option maxHeartbeats 4000000 in
theorem C_X9_end (l : Launch) (G : Gp) (x1 : Int32)  {σ : St} {Q : Int32 → St → Prop} (h : wp_X9_end σ x1 Q) : Cn l yX9_end cX9_end 2 (some .boolean) 1 22 G [.ref (gb G + 244), .int x1] σ (qI Q) := by
  refine Cn_of (L := [(0, .ref (gb G + 244)), (1, .int x1)]) RX9 (by decide) rfl (Nat.le_of_ble_eq_true rfl) rfl ?_
  intro p e s m below meth c F
  unfold wp_X9_end at h
  refine J_aln F 0 dX9_end_0 rfl rfl ?_
  refine J_ic F dX9_end_1 ki_0 ?_
  refine J_pfi F (ci := 9) 0 rfl inX9 tyX9 tyX9_ok nmX9 ly_244 (by decide) (by decide) rfl lf_X9_54 rfl rfl (tyX9_ok 0 (by decide)) rfl rfl dX9_end_2 ?_
  refine J_st (fun σ_1 eσ_1 => ?_)
  have h := h σ_1 eσ_1
  refine J_iln F 1 dX9_end_5 rfl rfl ?_
  refine J_ic F dX9_end_6 ki_0 ?_
  refine J_aln F 0 dX9_end_7 rfl rfl ?_
  refine J_gfi F (ci := 9) 9 rfl inX9 ly_244 (by decide) (by decide) rfl lf_X9_240 rfl dX9_end_8 ?_
  refine J_callSi F (As := [.int x1, .int (nI 0), .int (σ_1 244 9)]) (st := []) (C_X9_isIn l G x1 (nI 0) (σ_1 244 9)  h) lm_X9_77 li_X9_isIn ini_X9 lc_X9_isIn hd_X9_isIn (by decide) (Nat.le_of_ble_eq_true rfl) (by decide) rfl dX9_end_11 (fun r_2 σ_3 hh => ?_)
  clear h
  obtain ⟨e9, h⟩ := hh
  subst σ_3
  refine J_zne F (tgt := 19) dX9_end_14 (by decide) (fun c_4 => ?_) (fun c_4 => ?_)
  · have h := h.1 c_4
    refine J_aln F 0 dX9_end_19 rfl rfl ?_
    refine J_iln F 1 dX9_end_20 rfl rfl ?_
    refine J_pfi F (ci := 9) 9 rfl inX9 tyX9 tyX9_ok nmX9 ly_244 (by decide) (by decide) rfl lf_X9_240 rfl rfl (tyX9_ok 9 (by decide)) rfl rfl dX9_end_21 ?_
    refine J_st (fun σ_5 eσ_5 => ?_)
    have h := h σ_5 eσ_5
    refine J_ic F dX9_end_24 ki_1 ?_
    exact J_retz F (Or.inr rfl) ⟨_, rfl, h⟩ dX9_end_25
  · have h := h.2 c_4
    refine J_ic F dX9_end_17 ki_0 ?_
    exact J_retz F (Or.inl rfl) ⟨_, rfl, h⟩ dX9_end_18
theorem dX9_here_0 : decode cX9_here 0 = .ok (.aload_n 0, 1) := by decide +kernel
theorem dX9_here_1 : decode cX9_here 1 = .ok (.getfield 243, 3) := by decide +kernel
theorem dX9_here_4 : decode cX9_here 4 = .ok (.aload_n 0, 1) := by decide +kernel
theorem dX9_here_5 : decode cX9_here 5 = .ok (.getfield 246, 3) := by decide +kernel
theorem dX9_here_8 : decode cX9_here 8 = .ok (.if_icmp .ge 30, 3) := by decide +kernel
theorem dX9_here_11 : decode cX9_here 11 = .ok (.aload_n 0, 1) := by decide +kernel
theorem dX9_here_12 : decode cX9_here 12 = .ok (.getfield 23, 3) := by decide +kernel
theorem dX9_here_15 : decode cX9_here 15 = .ok (.aload_n 0, 1) := by decide +kernel
theorem dX9_here_16 : decode cX9_here 16 = .ok (.getfield 243, 3) := by decide +kernel
theorem dX9_here_19 : decode cX9_here 19 = .ok (.iaload, 1) := by decide +kernel
theorem dX9_here_20 : decode cX9_here 20 = .ok (.bipush 32, 2) := by decide +kernel
theorem dX9_here_22 : decode cX9_here 22 = .ok (.if_icmp .ne 16, 3) := by decide +kernel
theorem dX9_here_25 : decode cX9_here 25 = .ok (.aload_n 0, 1) := by decide +kernel
theorem dX9_here_26 : decode cX9_here 26 = .ok (.dup, 1) := by decide +kernel
theorem dX9_here_27 : decode cX9_here 27 = .ok (.getfield 243, 3) := by decide +kernel
theorem dX9_here_30 : decode cX9_here 30 = .ok (.iconst 1, 1) := by decide +kernel
theorem dX9_here_31 : decode cX9_here 31 = .ok (.iadd, 1) := by decide +kernel
theorem dX9_here_32 : decode cX9_here 32 = .ok (.putfield 243, 3) := by decide +kernel
theorem dX9_here_35 : decode cX9_here 35 = .ok (.goto (-35), 3) := by decide +kernel
theorem dX9_here_38 : decode cX9_here 38 = .ok (.aload_n 0, 1) := by decide +kernel
theorem dX9_here_39 : decode cX9_here 39 = .ok (.getfield 243, 3) := by decide +kernel
theorem dX9_here_42 : decode cX9_here 42 = .ok (.ireturn, 1) := by decide +kernel
set_option maxRecDepth 20000 in
set_option maxHeartbeats 4000000 in
theorem wk_X9_here_0 {p : Program} {l : Launch} {e : Env} {s : State} {m : MethodId} {args : Array Value} {below : List Frame} {meth : Method} {c : Code} {G : Gp}   {Q : Int32 → St → Prop} (F : FX p s m args meth c cX9_here 1 (some .int) RX9 G)   : ∀ (n9 : Nat) (σ : St), LP1 (wp_X9_here_0 Q) n9 σ → J p l e (rmF 0 0) s m args below meth c 1 G (MQ below (QQ G (qI Q)) args s 0 0 (fr G)) 0 0 0 [(0, .ref (gb G + 244))] [] σ := by
  intro n9
  induction n9 with
  | zero => intro σ h; exact h.elim
  | succ n9 i0 =>
    intro σ h
    have h : wp_X9_here_0 Q (LP1 (wp_X9_here_0 Q) n9) σ := h
    unfold wp_X9_here_0 at h
    refine J_aln F 0 dX9_here_0 rfl rfl ?_
    refine J_gfi F (ci := 9) 11 rfl inX9 ly_244 (by decide) (by decide) rfl lf_X9_243 rfl dX9_here_1 ?_
    refine J_aln F 0 dX9_here_4 rfl rfl ?_
    refine J_gfi F (ci := 9) 10 rfl inX9 ly_244 (by decide) (by decide) rfl lf_X9_246 rfl dX9_here_5 ?_
    refine J_cge F (tgt := 38) dX9_here_8 (by decide) (fun c_1 => ?_) (fun c_1 => ?_)
    · have h := h.1 c_1
      refine J_aln F 0 dX9_here_38 rfl rfl ?_
      refine J_gfi F (ci := 9) 11 rfl inX9 ly_244 (by decide) (by decide) rfl lf_X9_243 rfl dX9_here_39 ?_
      exact J_reti F ⟨_, rfl, h⟩ dX9_here_42
    · have h := h.2 c_1
      refine J_aln F 0 dX9_here_11 rfl rfl ?_
      refine J_gfa F (ci := 9) 8 rfl inX9 ly_244 (by decide) (by decide) rfl lf_X9_23 rfl dX9_here_12 ?_
      refine J_aln F 0 dX9_here_15 rfl rfl ?_
      refine J_gfi F (ci := 9) 11 rfl inX9 ly_244 (by decide) (by decide) rfl lf_X9_243 rfl dX9_here_16 ?_
      obtain ⟨h_2, h⟩ := h
      refine J_iald F ly_249 h_2 dX9_here_19 ?_
      refine J_bi F dX9_here_20 kb_32 ?_
      refine J_cne F (tgt := 38) dX9_here_22 (by decide) (fun c_3 => ?_) (fun c_3 => ?_)
      · have h := h.1 c_3
        refine J_aln F 0 dX9_here_38 rfl rfl ?_
        refine J_gfi F (ci := 9) 11 rfl inX9 ly_244 (by decide) (by decide) rfl lf_X9_243 rfl dX9_here_39 ?_
        exact J_reti F ⟨_, rfl, h⟩ dX9_here_42
      · have h := h.2 c_3
        refine J_aln F 0 dX9_here_25 rfl rfl ?_
        refine J_dup F dX9_here_26 rfl ?_
        refine J_gfi F (ci := 9) 11 rfl inX9 ly_244 (by decide) (by decide) rfl lf_X9_243 rfl dX9_here_27 ?_
        refine J_ic F dX9_here_30 ki_1 ?_
        refine J_iadd F dX9_here_31 ?_
        refine J_pfi F (ci := 9) 11 rfl inX9 tyX9 tyX9_ok nmX9 ly_244 (by decide) (by decide) rfl lf_X9_243 rfl rfl (tyX9_ok 11 (by decide)) rfl rfl dX9_here_32 ?_
        refine J_st (fun σ_4 eσ_4 => ?_)
        have h := h σ_4 eσ_4
        refine J_goto F (tgt := 0) dX9_here_35 (by decide) ?_
        exact i0 _ h
set_option maxRecDepth 20000 in
set_option maxHeartbeats 4000000 in
theorem C_X9_here (l : Launch) (G : Gp)   {σ : St} {Q : Int32 → St → Prop} (h : wp_X9_here σ  Q) : Cn l yX9_here cX9_here 1 (some .int) 0 0 G [.ref (gb G + 244)] σ (qI Q) := by
  refine Cn_of (L := [(0, .ref (gb G + 244))]) RX9 (by decide) rfl (Nat.le_of_ble_eq_true rfl) rfl ?_
  intro p e s m below meth c F
  unfold wp_X9_here at h
  obtain ⟨n9, h⟩ := h
  exact wk_X9_here_0 F  n9 _ h
theorem dX9_wrong_0 : decode cX9_wrong 0 = .ok (.aload_n 0, 1) := by decide +kernel
theorem dX9_wrong_1 : decode cX9_wrong 1 = .ok (.getfield 26, 3) := by decide +kernel
theorem dX9_wrong_4 : decode cX9_wrong 4 = .ok (.iconst (-1), 1) := by decide +kernel
theorem dX9_wrong_5 : decode cX9_wrong 5 = .ok (.if_icmp .ne 8, 3) := by decide +kernel
theorem dX9_wrong_8 : decode cX9_wrong 8 = .ok (.aload_n 0, 1) := by decide +kernel
theorem dX9_wrong_9 : decode cX9_wrong 9 = .ok (.iload_n 1, 1) := by decide +kernel
theorem dX9_wrong_10 : decode cX9_wrong 10 = .ok (.putfield 26, 3) := by decide +kernel
theorem dX9_wrong_13 : decode cX9_wrong 13 = .ok (.return_, 1) := by decide +kernel
set_option maxRecDepth 20000 in
set_option maxHeartbeats 4000000 in
theorem C_X9_wrong (l : Launch) (G : Gp) (x1 : Int32)  {σ : St} {Q : St → Prop} (h : wp_X9_wrong σ x1 Q) : Cn l yX9_wrong cX9_wrong 2 none 0 0 G [.ref (gb G + 244), .int x1] σ (qV Q) := by
  refine Cn_of (L := [(0, .ref (gb G + 244)), (1, .int x1)]) RX9 (by decide) rfl (Nat.le_of_ble_eq_true rfl) rfl ?_
  intro p e s m below meth c F
  unfold wp_X9_wrong at h
  refine J_aln F 0 dX9_wrong_0 rfl rfl ?_
  refine J_gfi F (ci := 9) 12 rfl inX9 ly_244 (by decide) (by decide) rfl lf_X9_26 rfl dX9_wrong_1 ?_
  refine J_ic F dX9_wrong_4 ki_m1 ?_
  refine J_cne F (tgt := 13) dX9_wrong_5 (by decide) (fun c_1 => ?_) (fun c_1 => ?_)
  · have h := h.1 c_1
    exact J_retv F ⟨rfl, h⟩ dX9_wrong_13
  · have h := h.2 c_1
    refine J_aln F 0 dX9_wrong_8 rfl rfl ?_
    refine J_iln F 1 dX9_wrong_9 rfl rfl ?_
    refine J_pfi F (ci := 9) 12 rfl inX9 tyX9 tyX9_ok nmX9 ly_244 (by decide) (by decide) rfl lf_X9_26 rfl rfl (tyX9_ok 12 (by decide)) rfl rfl dX9_wrong_10 ?_
    refine J_st (fun σ_2 eσ_2 => ?_)
    have h := h σ_2 eσ_2
    exact J_retv F ⟨rfl, h⟩ dX9_wrong_13
theorem dX9_number_0 : decode cX9_number 0 = .ok (.aload_n 0, 1) := by decide +kernel
theorem dX9_number_1 : decode cX9_number 1 = .ok (.getfield 26, 3) := by decide +kernel
theorem dX9_number_4 : decode cX9_number 4 = .ok (.iconst (-1), 1) := by decide +kernel
theorem dX9_number_5 : decode cX9_number 5 = .ok (.if_icmp .eq 5, 3) := by decide +kernel
theorem dX9_number_8 : decode cX9_number 8 = .ok (.iconst 0, 1) := by decide +kernel
theorem dX9_number_9 : decode cX9_number 9 = .ok (.ireturn, 1) := by decide +kernel
theorem dX9_number_10 : decode cX9_number 10 = .ok (.aload_n 0, 1) := by decide +kernel
theorem dX9_number_11 : decode cX9_number 11 = .ok (.invokevirtual 249, 3) := by decide +kernel
theorem dX9_number_14 : decode cX9_number 14 = .ok (.istore_n 3, 1) := by decide +kernel
theorem dX9_number_15 : decode cX9_number 15 = .ok (.iconst 0, 1) := by decide +kernel
theorem dX9_number_16 : decode cX9_number 16 = .ok (.istore 4, 2) := by decide +kernel
theorem dX9_number_18 : decode cX9_number 18 = .ok (.aload_n 0, 1) := by decide +kernel
theorem dX9_number_19 : decode cX9_number 19 = .ok (.getfield 243, 3) := by decide +kernel
theorem dX9_number_22 : decode cX9_number 22 = .ok (.aload_n 0, 1) := by decide +kernel
theorem dX9_number_23 : decode cX9_number 23 = .ok (.getfield 246, 3) := by decide +kernel
theorem dX9_number_26 : decode cX9_number 26 = .ok (.if_icmp .ge 65, 3) := by decide +kernel
theorem dX9_number_29 : decode cX9_number 29 = .ok (.aload_n 0, 1) := by decide +kernel
theorem dX9_number_30 : decode cX9_number 30 = .ok (.getfield 23, 3) := by decide +kernel
theorem dX9_number_33 : decode cX9_number 33 = .ok (.aload_n 0, 1) := by decide +kernel
theorem dX9_number_34 : decode cX9_number 34 = .ok (.getfield 243, 3) := by decide +kernel
theorem dX9_number_37 : decode cX9_number 37 = .ok (.iaload, 1) := by decide +kernel
theorem dX9_number_38 : decode cX9_number 38 = .ok (.bipush 48, 2) := by decide +kernel
theorem dX9_number_40 : decode cX9_number 40 = .ok (.bipush 57, 2) := by decide +kernel
theorem dX9_number_42 : decode cX9_number 42 = .ok (.invokestatic 77, 3) := by decide +kernel
theorem dX9_number_45 : decode cX9_number 45 = .ok (.ifCond .eq 46, 3) := by decide +kernel
theorem dX9_number_48 : decode cX9_number 48 = .ok (.aload_n 0, 1) := by decide +kernel
theorem dX9_number_49 : decode cX9_number 49 = .ok (.getfield 243, 3) := by decide +kernel
theorem dX9_number_52 : decode cX9_number 52 = .ok (.iload_n 3, 1) := by decide +kernel
theorem dX9_number_53 : decode cX9_number 53 = .ok (.isub, 1) := by decide +kernel
theorem dX9_number_54 : decode cX9_number 54 = .ok (.iconst 3, 1) := by decide +kernel
theorem dX9_number_55 : decode cX9_number 55 = .ok (.if_icmp .gt 36, 3) := by decide +kernel
theorem dX9_number_58 : decode cX9_number 58 = .ok (.bipush 10, 2) := by decide +kernel
theorem dX9_number_60 : decode cX9_number 60 = .ok (.iload 4, 2) := by decide +kernel
theorem dX9_number_62 : decode cX9_number 62 = .ok (.imul, 1) := by decide +kernel
theorem dX9_number_63 : decode cX9_number 63 = .ok (.aload_n 0, 1) := by decide +kernel
theorem dX9_number_64 : decode cX9_number 64 = .ok (.getfield 23, 3) := by decide +kernel
theorem dX9_number_67 : decode cX9_number 67 = .ok (.aload_n 0, 1) := by decide +kernel
theorem dX9_number_68 : decode cX9_number 68 = .ok (.getfield 243, 3) := by decide +kernel
theorem dX9_number_71 : decode cX9_number 71 = .ok (.iaload, 1) := by decide +kernel
theorem dX9_number_72 : decode cX9_number 72 = .ok (.iadd, 1) := by decide +kernel
theorem dX9_number_73 : decode cX9_number 73 = .ok (.bipush 48, 2) := by decide +kernel
theorem dX9_number_75 : decode cX9_number 75 = .ok (.isub, 1) := by decide +kernel
theorem dX9_number_76 : decode cX9_number 76 = .ok (.istore 4, 2) := by decide +kernel
theorem dX9_number_78 : decode cX9_number 78 = .ok (.aload_n 0, 1) := by decide +kernel
theorem dX9_number_79 : decode cX9_number 79 = .ok (.dup, 1) := by decide +kernel
theorem dX9_number_80 : decode cX9_number 80 = .ok (.getfield 243, 3) := by decide +kernel
theorem dX9_number_83 : decode cX9_number 83 = .ok (.iconst 1, 1) := by decide +kernel
theorem dX9_number_84 : decode cX9_number 84 = .ok (.iadd, 1) := by decide +kernel
theorem dX9_number_85 : decode cX9_number 85 = .ok (.putfield 243, 3) := by decide +kernel
theorem dX9_number_88 : decode cX9_number 88 = .ok (.goto (-70), 3) := by decide +kernel
theorem dX9_number_91 : decode cX9_number 91 = .ok (.aload_n 0, 1) := by decide +kernel
theorem dX9_number_92 : decode cX9_number 92 = .ok (.getfield 243, 3) := by decide +kernel
theorem dX9_number_95 : decode cX9_number 95 = .ok (.iload_n 3, 1) := by decide +kernel
theorem dX9_number_96 : decode cX9_number 96 = .ok (.if_icmp .eq 25, 3) := by decide +kernel
theorem dX9_number_99 : decode cX9_number 99 = .ok (.aload_n 0, 1) := by decide +kernel
theorem dX9_number_100 : decode cX9_number 100 = .ok (.getfield 243, 3) := by decide +kernel
theorem dX9_number_103 : decode cX9_number 103 = .ok (.iload_n 3, 1) := by decide +kernel
theorem dX9_number_104 : decode cX9_number 104 = .ok (.isub, 1) := by decide +kernel
theorem dX9_number_105 : decode cX9_number 105 = .ok (.iconst 3, 1) := by decide +kernel
theorem dX9_number_106 : decode cX9_number 106 = .ok (.if_icmp .gt 15, 3) := by decide +kernel
theorem dX9_number_109 : decode cX9_number 109 = .ok (.iload 4, 2) := by decide +kernel
theorem dX9_number_111 : decode cX9_number 111 = .ok (.iload_n 1, 1) := by decide +kernel
theorem dX9_number_112 : decode cX9_number 112 = .ok (.if_icmp .lt 9, 3) := by decide +kernel
theorem dX9_number_115 : decode cX9_number 115 = .ok (.iload 4, 2) := by decide +kernel
theorem dX9_number_117 : decode cX9_number 117 = .ok (.iload_n 2, 1) := by decide +kernel
theorem dX9_number_118 : decode cX9_number 118 = .ok (.if_icmp .le 8, 3) := by decide +kernel
theorem dX9_number_121 : decode cX9_number 121 = .ok (.aload_n 0, 1) := by decide +kernel
theorem dX9_number_122 : decode cX9_number 122 = .ok (.iload_n 3, 1) := by decide +kernel
theorem dX9_number_123 : decode cX9_number 123 = .ok (.invokevirtual 261, 3) := by decide +kernel
theorem dX9_number_126 : decode cX9_number 126 = .ok (.iload 4, 2) := by decide +kernel
theorem dX9_number_128 : decode cX9_number 128 = .ok (.ireturn, 1) := by decide +kernel
set_option maxRecDepth 20000 in
set_option maxHeartbeats 4000000 in
theorem wk_X9_number_121 {p : Program} {l : Launch} {e : Env} {s : State} {m : MethodId} {args : Array Value} {below : List Frame} {meth : Method} {c : Code} {G : Gp} {σ : St} {x3 : Int32} {x4 : Int32}  {Q : Int32 → St → Prop} (F : FX p s m args meth c cX9_number 5 (some .int) RX9 G)   (h : wp_X9_number_121 σ x3 x4 Q) : J p l e (rmF 1 22) s m args below meth c 5 G (MQ below (QQ G (qI Q)) args s 0 0 (fr G)) 0 0 121 [(0, .ref (gb G + 244)), (3, .int x3), (4, .int x4)] [] σ := by
  unfold wp_X9_number_121 at h
  refine J_aln F 0 dX9_number_121 rfl rfl ?_
  refine J_iln F 1 dX9_number_122 rfl rfl ?_
  refine J_callVv F (As := [.int x3]) (st := []) (C_X9_wrong l G x3  h) (ci := 9) ly_244 (by decide) rfl rfl lm_X9_261 li_X9_wrong ls_X9_wrong ini_X9 lc_X9_wrong hd_X9_wrong (by decide) (Nat.le_of_ble_eq_true rfl) (by decide) rfl dX9_number_123 (fun σ_1 h => ?_)
  refine J_il F 2 dX9_number_126 rfl ?_
  exact J_reti F ⟨_, rfl, h⟩ dX9_number_128
set_option maxRecDepth 20000 in
set_option maxHeartbeats 4000000 in
theorem wk_X9_number_91 {p : Program} {l : Launch} {e : Env} {s : State} {m : MethodId} {args : Array Value} {below : List Frame} {meth : Method} {c : Code} {G : Gp} {σ : St} {x1 : Int32} {x2 : Int32} {x3 : Int32} {x4 : Int32}  {Q : Int32 → St → Prop} (F : FX p s m args meth c cX9_number 5 (some .int) RX9 G)   (h : wp_X9_number_91 σ x1 x2 x3 x4 Q) : J p l e (rmF 1 22) s m args below meth c 5 G (MQ below (QQ G (qI Q)) args s 0 0 (fr G)) 0 0 91 [(0, .ref (gb G + 244)), (1, .int x1), (2, .int x2), (3, .int x3), (4, .int x4)] [] σ := by
  unfold wp_X9_number_91 at h
  refine J_aln F 0 dX9_number_91 rfl rfl ?_
  refine J_gfi F (ci := 9) 11 rfl inX9 ly_244 (by decide) (by decide) rfl lf_X9_243 rfl dX9_number_92 ?_
  refine J_iln F 3 dX9_number_95 rfl rfl ?_
  refine J_ceq F (tgt := 121) dX9_number_96 (by decide) (fun c_2 => ?_) (fun c_2 => ?_)
  · have h := h.1 c_2
    refine J_sub [0, 3, 4] rfl ?_
    exact wk_X9_number_121 F  h
  · have h := h.2 c_2
    refine J_aln F 0 dX9_number_99 rfl rfl ?_
    refine J_gfi F (ci := 9) 11 rfl inX9 ly_244 (by decide) (by decide) rfl lf_X9_243 rfl dX9_number_100 ?_
    refine J_iln F 3 dX9_number_103 rfl rfl ?_
    refine J_isub F dX9_number_104 ?_
    refine J_ic F dX9_number_105 ki_3 ?_
    refine J_cgt F (tgt := 121) dX9_number_106 (by decide) (fun c_3 => ?_) (fun c_3 => ?_)
    · have h := h.1 c_3
      refine J_sub [0, 3, 4] rfl ?_
      exact wk_X9_number_121 F  h
    · have h := h.2 c_3
      refine J_il F 4 dX9_number_109 rfl ?_
      refine J_iln F 1 dX9_number_111 rfl rfl ?_
      refine J_clt F (tgt := 121) dX9_number_112 (by decide) (fun c_4 => ?_) (fun c_4 => ?_)
      · have h := h.1 c_4
        refine J_sub [0, 3, 4] rfl ?_
        exact wk_X9_number_121 F  h
      · have h := h.2 c_4
        refine J_il F 4 dX9_number_115 rfl ?_
        refine J_iln F 2 dX9_number_117 rfl rfl ?_
        refine J_cle F (tgt := 126) dX9_number_118 (by decide) (fun c_5 => ?_) (fun c_5 => ?_)
        · have h := h.1 c_5
          refine J_il F 4 dX9_number_126 rfl ?_
          exact J_reti F ⟨_, rfl, h⟩ dX9_number_128
        · have h := h.2 c_5
          refine J_sub [0, 3, 4] rfl ?_
          exact wk_X9_number_121 F  h
set_option maxRecDepth 20000 in
set_option maxHeartbeats 4000000 in
theorem wk_X9_number_18 {p : Program} {l : Launch} {e : Env} {s : State} {m : MethodId} {args : Array Value} {below : List Frame} {meth : Method} {c : Code} {G : Gp} {x1 : Int32} {x2 : Int32} {x3 : Int32}  {Q : Int32 → St → Prop} (F : FX p s m args meth c cX9_number 5 (some .int) RX9 G)   : ∀ (n9 : Nat) (σ : St) (x4 : Int32), LP2 (wp_X9_number_18 x1 x2 x3 Q) n9 σ x4 → J p l e (rmF 1 22) s m args below meth c 5 G (MQ below (QQ G (qI Q)) args s 0 0 (fr G)) 0 0 18 [(0, .ref (gb G + 244)), (1, .int x1), (2, .int x2), (3, .int x3), (4, .int x4)] [] σ := by
  intro n9
  induction n9 with
  | zero => intro σ x4 h; exact h.elim
  | succ n9 i18 =>
    intro σ x4 h
    have h : wp_X9_number_18 x1 x2 x3 Q (LP2 (wp_X9_number_18 x1 x2 x3 Q) n9) σ x4 := h
    unfold wp_X9_number_18 at h
    refine J_aln F 0 dX9_number_18 rfl rfl ?_
    refine J_gfi F (ci := 9) 11 rfl inX9 ly_244 (by decide) (by decide) rfl lf_X9_243 rfl dX9_number_19 ?_
    refine J_aln F 0 dX9_number_22 rfl rfl ?_
    refine J_gfi F (ci := 9) 10 rfl inX9 ly_244 (by decide) (by decide) rfl lf_X9_246 rfl dX9_number_23 ?_
    refine J_cge F (tgt := 91) dX9_number_26 (by decide) (fun c_6 => ?_) (fun c_6 => ?_)
    · have h := h.1 c_6
      exact wk_X9_number_91 F  h
    · have h := h.2 c_6
      refine J_aln F 0 dX9_number_29 rfl rfl ?_
      refine J_gfa F (ci := 9) 8 rfl inX9 ly_244 (by decide) (by decide) rfl lf_X9_23 rfl dX9_number_30 ?_
      refine J_aln F 0 dX9_number_33 rfl rfl ?_
      refine J_gfi F (ci := 9) 11 rfl inX9 ly_244 (by decide) (by decide) rfl lf_X9_243 rfl dX9_number_34 ?_
      obtain ⟨h_7, h⟩ := h
      refine J_iald F ly_249 h_7 dX9_number_37 ?_
      refine J_bi F dX9_number_38 kb_48 ?_
      refine J_bi F dX9_number_40 kb_57 ?_
      refine J_callSi F (As := [.int (σ 249 (Int32.toNatClampNeg (σ 244 11))), .int (nI 48), .int (nI 57)]) (st := []) (C_X9_isIn l G (σ 249 (Int32.toNatClampNeg (σ 244 11))) (nI 48) (nI 57)  h) lm_X9_77 li_X9_isIn ini_X9 lc_X9_isIn hd_X9_isIn (by decide) (Nat.le_of_ble_eq_true rfl) (by decide) rfl dX9_number_42 (fun r_8 σ_9 hh => ?_)
      clear h
      obtain ⟨e9, h⟩ := hh
      subst σ_9
      refine J_zeq F (tgt := 91) dX9_number_45 (by decide) (fun c_10 => ?_) (fun c_10 => ?_)
      · have h := h.1 c_10
        exact wk_X9_number_91 F  h
      · have h := h.2 c_10
        refine J_aln F 0 dX9_number_48 rfl rfl ?_
        refine J_gfi F (ci := 9) 11 rfl inX9 ly_244 (by decide) (by decide) rfl lf_X9_243 rfl dX9_number_49 ?_
        refine J_iln F 3 dX9_number_52 rfl rfl ?_
        refine J_isub F dX9_number_53 ?_
        refine J_ic F dX9_number_54 ki_3 ?_
        refine J_cgt F (tgt := 91) dX9_number_55 (by decide) (fun c_11 => ?_) (fun c_11 => ?_)
        · have h := h.1 c_11
          exact wk_X9_number_91 F  h
        · have h := h.2 c_11
          refine J_bi F dX9_number_58 kb_10 ?_
          refine J_il F 4 dX9_number_60 rfl ?_
          refine J_imul F dX9_number_62 ?_
          refine J_aln F 0 dX9_number_63 rfl rfl ?_
          refine J_gfa F (ci := 9) 8 rfl inX9 ly_244 (by decide) (by decide) rfl lf_X9_23 rfl dX9_number_64 ?_
          refine J_aln F 0 dX9_number_67 rfl rfl ?_
          refine J_gfi F (ci := 9) 11 rfl inX9 ly_244 (by decide) (by decide) rfl lf_X9_243 rfl dX9_number_68 ?_
          obtain ⟨h_12, h⟩ := h
          refine J_iald F ly_249 h_12 dX9_number_71 ?_
          refine J_iadd F dX9_number_72 ?_
          refine J_bi F dX9_number_73 kb_48 ?_
          refine J_isub F dX9_number_75 ?_
          refine J_top (fun x4_13 ex4_13 => ?_)
          have h := h x4_13 ex4_13
          refine J_is F (L' := [(4, .int x4_13), (0, .ref (gb G + 244)), (1, .int x1), (2, .int x2), (3, .int x3)]) dX9_number_76 (by decide) rfl ?_
          refine J_aln F 1 dX9_number_78 rfl rfl ?_
          refine J_dup F dX9_number_79 rfl ?_
          refine J_gfi F (ci := 9) 11 rfl inX9 ly_244 (by decide) (by decide) rfl lf_X9_243 rfl dX9_number_80 ?_
          refine J_ic F dX9_number_83 ki_1 ?_
          refine J_iadd F dX9_number_84 ?_
          refine J_pfi F (ci := 9) 11 rfl inX9 tyX9 tyX9_ok nmX9 ly_244 (by decide) (by decide) rfl lf_X9_243 rfl rfl (tyX9_ok 11 (by decide)) rfl rfl dX9_number_85 ?_
          refine J_st (fun σ_14 eσ_14 => ?_)
          have h := h σ_14 eσ_14
          refine J_goto F (tgt := 18) dX9_number_88 (by decide) ?_
          refine J_sub [1, 2, 3, 4, 0] rfl ?_
          exact i18 _ _ h
set_option maxRecDepth 20000 in
set_option maxHeartbeats 4000000 in
theorem C_X9_number (l : Launch) (G : Gp) (x1 : Int32) (x2 : Int32)  {σ : St} {Q : Int32 → St → Prop} (h : wp_X9_number σ x1 x2 Q) : Cn l yX9_number cX9_number 5 (some .int) 1 22 G [.ref (gb G + 244), .int x1, .int x2] σ (qI Q) := by
  refine Cn_of (L := [(0, .ref (gb G + 244)), (1, .int x1), (2, .int x2)]) RX9 (by decide) rfl (Nat.le_of_ble_eq_true rfl) rfl ?_
  intro p e s m below meth c F
  unfold wp_X9_number at h
  refine J_aln F 0 dX9_number_0 rfl rfl ?_
  refine J_gfi F (ci := 9) 12 rfl inX9 ly_244 (by decide) (by decide) rfl lf_X9_26 rfl dX9_number_1 ?_
  refine J_ic F dX9_number_4 ki_m1 ?_
  refine J_ceq F (tgt := 10) dX9_number_5 (by decide) (fun c_15 => ?_) (fun c_15 => ?_)
  · have h := h.1 c_15
    refine J_aln F 0 dX9_number_10 rfl rfl ?_
    refine J_callVi F (As := []) (st := []) (C_X9_here l G   h) (ci := 9) ly_244 (by decide) rfl rfl lm_X9_249 li_X9_here ls_X9_here ini_X9 lc_X9_here hd_X9_here (by decide) (Nat.le_of_ble_eq_true rfl) (by decide) rfl dX9_number_11 (fun r_16 σ_17 h => ?_)
    refine J_isn F (L' := [(3, .int r_16), (0, .ref (gb G + 244)), (1, .int x1), (2, .int x2)]) dX9_number_14 rfl (by decide) rfl ?_
    refine J_ic F dX9_number_15 ki_0 ?_
    refine J_is F (L' := [(4, .int (nI 0)), (3, .int r_16), (0, .ref (gb G + 244)), (1, .int x1), (2, .int x2)]) dX9_number_16 (by decide) rfl ?_
    refine J_sub [2, 3, 4, 1, 0] rfl ?_
    obtain ⟨n9, h⟩ := h
    exact wk_X9_number_18 F  n9 _ _ h
  · have h := h.2 c_15
    refine J_ic F dX9_number_8 ki_0 ?_
    exact J_reti F ⟨_, rfl, h⟩ dX9_number_9
theorem dX9_landmarkText_0 : decode cX9_landmarkText 0 = .ok (.aload_n 0, 1) := by decide +kernel
theorem dX9_landmarkText_1 : decode cX9_landmarkText 1 = .ok (.iconst 0, 1) := by decide +kernel
theorem dX9_landmarkText_2 : decode cX9_landmarkText 2 = .ok (.bipush 99, 2) := by decide +kernel
theorem dX9_landmarkText_4 : decode cX9_landmarkText 4 = .ok (.invokevirtual 264, 3) := by decide +kernel
theorem dX9_landmarkText_7 : decode cX9_landmarkText 7 = .ok (.istore_n 1, 1) := by decide +kernel
theorem dX9_landmarkText_8 : decode cX9_landmarkText 8 = .ok (.aload_n 0, 1) := by decide +kernel
theorem dX9_landmarkText_9 : decode cX9_landmarkText 9 = .ok (.iconst 0, 1) := by decide +kernel
theorem dX9_landmarkText_10 : decode cX9_landmarkText 10 = .ok (.bipush 99, 2) := by decide +kernel
theorem dX9_landmarkText_12 : decode cX9_landmarkText 12 = .ok (.invokevirtual 264, 3) := by decide +kernel
theorem dX9_landmarkText_15 : decode cX9_landmarkText 15 = .ok (.istore_n 2, 1) := by decide +kernel
theorem dX9_landmarkText_16 : decode cX9_landmarkText 16 = .ok (.aload_n 0, 1) := by decide +kernel
theorem dX9_landmarkText_17 : decode cX9_landmarkText 17 = .ok (.getfield 26, 3) := by decide +kernel
theorem dX9_landmarkText_20 : decode cX9_landmarkText 20 = .ok (.iconst (-1), 1) := by decide +kernel
theorem dX9_landmarkText_21 : decode cX9_landmarkText 21 = .ok (.if_icmp .ne 12, 3) := by decide +kernel
theorem dX9_landmarkText_24 : decode cX9_landmarkText 24 = .ok (.aload_n 0, 1) := by decide +kernel
theorem dX9_landmarkText_25 : decode cX9_landmarkText 25 = .ok (.iload_n 1, 1) := by decide +kernel
theorem dX9_landmarkText_26 : decode cX9_landmarkText 26 = .ok (.iload_n 2, 1) := by decide +kernel
theorem dX9_landmarkText_27 : decode cX9_landmarkText 27 = .ok (.invokevirtual 277, 3) := by decide +kernel
theorem dX9_landmarkText_30 : decode cX9_landmarkText 30 = .ok (.goto 4, 3) := by decide +kernel
theorem dX9_landmarkText_33 : decode cX9_landmarkText 33 = .ok (.iconst 0, 1) := by decide +kernel
theorem dX9_landmarkText_34 : decode cX9_landmarkText 34 = .ok (.ireturn, 1) := by decide +kernel
set_option maxRecDepth 20000 in
set_option maxHeartbeats 4000000 in
theorem C_X9_landmarkText (l : Launch) (G : Gp)   {σ : St} {Q : Int32 → St → Prop} (h : wp_X9_landmarkText σ  Q) : Cn l yX9_landmarkText cX9_landmarkText 3 (some .int) 2 46 G [.ref (gb G + 244)] σ (qI Q) := by
  refine Cn_of (L := [(0, .ref (gb G + 244))]) RX9 (by decide) rfl (Nat.le_of_ble_eq_true rfl) rfl ?_
  intro p e s m below meth c F
  unfold wp_X9_landmarkText at h
  refine J_aln F 0 dX9_landmarkText_0 rfl rfl ?_
  refine J_ic F dX9_landmarkText_1 ki_0 ?_
  refine J_bi F dX9_landmarkText_2 kb_99 ?_
  refine J_callVi F (As := [.int (nI 0), .int (nI 99)]) (st := []) (C_X9_number l G (nI 0) (nI 99)  h) (ci := 9) ly_244 (by decide) rfl rfl lm_X9_264 li_X9_number ls_X9_number ini_X9 lc_X9_number hd_X9_number (by decide) (Nat.le_of_ble_eq_true rfl) (by decide) rfl dX9_landmarkText_4 (fun r_1 σ_2 h => ?_)
  refine J_isn F (L' := [(1, .int r_1), (0, .ref (gb G + 244))]) dX9_landmarkText_7 rfl (by decide) rfl ?_
  refine J_aln F 1 dX9_landmarkText_8 rfl rfl ?_
  refine J_ic F dX9_landmarkText_9 ki_0 ?_
  refine J_bi F dX9_landmarkText_10 kb_99 ?_
  refine J_callVi F (As := [.int (nI 0), .int (nI 99)]) (st := []) (C_X9_number l G (nI 0) (nI 99)  h) (ci := 9) ly_244 (by decide) rfl rfl lm_X9_264 li_X9_number ls_X9_number ini_X9 lc_X9_number hd_X9_number (by decide) (Nat.le_of_ble_eq_true rfl) (by decide) rfl dX9_landmarkText_12 (fun r_3 σ_4 h => ?_)
  refine J_isn F (L' := [(2, .int r_3), (1, .int r_1), (0, .ref (gb G + 244))]) dX9_landmarkText_15 rfl (by decide) rfl ?_
  refine J_aln F 2 dX9_landmarkText_16 rfl rfl ?_
  refine J_gfi F (ci := 9) 12 rfl inX9 ly_244 (by decide) (by decide) rfl lf_X9_26 rfl dX9_landmarkText_17 ?_
  refine J_ic F dX9_landmarkText_20 ki_m1 ?_
  refine J_cne F (tgt := 33) dX9_landmarkText_21 (by decide) (fun c_5 => ?_) (fun c_5 => ?_)
  · have h := h.1 c_5
    refine J_ic F dX9_landmarkText_33 ki_0 ?_
    exact J_reti F ⟨_, rfl, h⟩ dX9_landmarkText_34
  · have h := h.2 c_5
    refine J_aln F 2 dX9_landmarkText_24 rfl rfl ?_
    refine J_iln F 1 dX9_landmarkText_25 rfl rfl ?_
    refine J_iln F 0 dX9_landmarkText_26 rfl rfl ?_
    refine J_callVi F (As := [.int r_1, .int r_3]) (st := []) (C_X9_landmark0 l G r_1 r_3  h) (ci := 9) ly_244 (by decide) rfl rfl lm_X9_277 li_X9_landmark0 ls_X9_landmark0 ini_X9 lc_X9_landmark0 hd_X9_landmark0 (by decide) (Nat.le_of_ble_eq_true rfl) (by decide) rfl dX9_landmarkText_27 (fun r_6 σ_7 h => ?_)
    refine J_goto F (tgt := 34) dX9_landmarkText_30 (by decide) ?_
    exact J_reti F ⟨_, rfl, h⟩ dX9_landmarkText_34
theorem dX9_go0_0 : decode cX9_go0 0 = .ok (.iload_n 2, 1) := by decide +kernel
theorem dX9_go0_1 : decode cX9_go0 1 = .ok (.lookupswitch 39 #[(0, 27), (1, 33)], 27) := by decide +kernel
theorem dX9_go0_28 : decode cX9_go0 28 = .ok (.aload_n 0, 1) := by decide +kernel
theorem dX9_go0_29 : decode cX9_go0 29 = .ok (.iload_n 1, 1) := by decide +kernel
theorem dX9_go0_30 : decode cX9_go0 30 = .ok (.invokevirtual 345, 3) := by decide +kernel
theorem dX9_go0_33 : decode cX9_go0 33 = .ok (.ireturn, 1) := by decide +kernel
theorem dX9_go0_34 : decode cX9_go0 34 = .ok (.aload_n 0, 1) := by decide +kernel
theorem dX9_go0_35 : decode cX9_go0 35 = .ok (.iload_n 1, 1) := by decide +kernel
theorem dX9_go0_36 : decode cX9_go0 36 = .ok (.invokevirtual 348, 3) := by decide +kernel
theorem dX9_go0_39 : decode cX9_go0 39 = .ok (.ireturn, 1) := by decide +kernel
theorem dX9_go0_40 : decode cX9_go0 40 = .ok (.aload_n 0, 1) := by decide +kernel
theorem dX9_go0_41 : decode cX9_go0 41 = .ok (.iload_n 1, 1) := by decide +kernel
theorem dX9_go0_42 : decode cX9_go0 42 = .ok (.invokevirtual 351, 3) := by decide +kernel
theorem dX9_go0_45 : decode cX9_go0 45 = .ok (.ireturn, 1) := by decide +kernel
set_option maxRecDepth 20000 in
set_option maxHeartbeats 4000000 in
theorem C_X9_go0 (l : Launch) (G : Gp) (x1 : Int32) (x2 : Int32)  {σ : St} {Q : Int32 → St → Prop} (h : wp_X9_go0 σ x1 x2 Q) : Cn l yX9_go0 cX9_go0 3 (some .int) 7 164 G [.ref (gb G + 244), .int x1, .int x2] σ (qI Q) := by
  refine Cn_of (L := [(0, .ref (gb G + 244)), (1, .int x1), (2, .int x2)]) RX9 (by decide) rfl (Nat.le_of_ble_eq_true rfl) rfl ?_
  intro p e s m below meth c F
  unfold wp_X9_go0 at h
  refine J_iln F 2 dX9_go0_0 rfl rfl ?_
  refine J_case (v := nI 0) (fun c_1 => ?_) (fun c_1 => ?_)
  · have h := h.1 c_1
    refine J_look F (off := 27) (tgt := 28) dX9_go0_1 (by decide) (by decide) (by decide) ?_
    refine J_aln F 0 dX9_go0_28 rfl rfl ?_
    refine J_iln F 1 dX9_go0_29 rfl rfl ?_
    refine J_callVi F (As := [.int x1]) (st := []) (C_X9_leave0 l G x1  h) (ci := 9) ly_244 (by decide) rfl rfl lm_X9_345 li_X9_leave0 ls_X9_leave0 ini_X9 lc_X9_leave0 hd_X9_leave0 (by decide) (Nat.le_of_ble_eq_true rfl) (by decide) rfl dX9_go0_30 (fun r_2 σ_3 h => ?_)
    exact J_reti F ⟨_, rfl, h⟩ dX9_go0_33
  · have h := h.2 c_1
    refine J_case (v := nI 1) (fun c_4 => ?_) (fun c_4 => ?_)
    · have h := h.1 c_4
      refine J_look F (off := 33) (tgt := 34) dX9_go0_1 (by decide) (by decide) (by decide) ?_
      refine J_aln F 0 dX9_go0_34 rfl rfl ?_
      refine J_iln F 1 dX9_go0_35 rfl rfl ?_
      refine J_callVi F (As := [.int x1]) (st := []) (C_X9_crash0 l G x1  h) (ci := 9) ly_244 (by decide) rfl rfl lm_X9_348 li_X9_crash0 ls_X9_crash0 ini_X9 lc_X9_crash0 hd_X9_crash0 (by decide) (Nat.le_of_ble_eq_true rfl) (by decide) rfl dX9_go0_36 (fun r_5 σ_6 h => ?_)
      exact J_reti F ⟨_, rfl, h⟩ dX9_go0_39
    · have h := h.2 c_4
      refine J_look F (off := 39) (tgt := 40) dX9_go0_1 (by decide) (look_out2 c_1 c_4) (by decide) ?_
      refine J_aln F 0 dX9_go0_40 rfl rfl ?_
      refine J_iln F 1 dX9_go0_41 rfl rfl ?_
      refine J_callVi F (As := [.int x1]) (st := []) (C_X9_notice0 l G x1  h) (ci := 9) ly_244 (by decide) rfl rfl lm_X9_351 li_X9_notice0 ls_X9_notice0 ini_X9 lc_X9_notice0 hd_X9_notice0 (by decide) (Nat.le_of_ble_eq_true rfl) (by decide) rfl dX9_go0_42 (fun r_7 σ_8 h => ?_)
      exact J_reti F ⟨_, rfl, h⟩ dX9_go0_45
theorem dX9_goText_0 : decode cX9_goText 0 = .ok (.aload_n 0, 1) := by decide +kernel
theorem dX9_goText_1 : decode cX9_goText 1 = .ok (.iconst 0, 1) := by decide +kernel
theorem dX9_goText_2 : decode cX9_goText 2 = .ok (.bipush 9, 2) := by decide +kernel
theorem dX9_goText_4 : decode cX9_goText 4 = .ok (.invokevirtual 264, 3) := by decide +kernel
theorem dX9_goText_7 : decode cX9_goText 7 = .ok (.istore_n 2, 1) := by decide +kernel
theorem dX9_goText_8 : decode cX9_goText 8 = .ok (.aload_n 0, 1) := by decide +kernel
theorem dX9_goText_9 : decode cX9_goText 9 = .ok (.getfield 26, 3) := by decide +kernel
theorem dX9_goText_12 : decode cX9_goText 12 = .ok (.iconst (-1), 1) := by decide +kernel
theorem dX9_goText_13 : decode cX9_goText 13 = .ok (.if_icmp .ne 12, 3) := by decide +kernel
theorem dX9_goText_16 : decode cX9_goText 16 = .ok (.aload_n 0, 1) := by decide +kernel
theorem dX9_goText_17 : decode cX9_goText 17 = .ok (.iload_n 2, 1) := by decide +kernel
theorem dX9_goText_18 : decode cX9_goText 18 = .ok (.iload_n 1, 1) := by decide +kernel
theorem dX9_goText_19 : decode cX9_goText 19 = .ok (.invokevirtual 280, 3) := by decide +kernel
theorem dX9_goText_22 : decode cX9_goText 22 = .ok (.goto 4, 3) := by decide +kernel
theorem dX9_goText_25 : decode cX9_goText 25 = .ok (.iconst 0, 1) := by decide +kernel
theorem dX9_goText_26 : decode cX9_goText 26 = .ok (.ireturn, 1) := by decide +kernel
set_option maxRecDepth 20000 in
set_option maxHeartbeats 4000000 in
theorem C_X9_goText (l : Launch) (G : Gp) (x1 : Int32)  {σ : St} {Q : Int32 → St → Prop} (h : wp_X9_goText σ x1 Q) : Cn l yX9_goText cX9_goText 3 (some .int) 8 186 G [.ref (gb G + 244), .int x1] σ (qI Q) := by
  refine Cn_of (L := [(0, .ref (gb G + 244)), (1, .int x1)]) RX9 (by decide) rfl (Nat.le_of_ble_eq_true rfl) rfl ?_
  intro p e s m below meth c F
  unfold wp_X9_goText at h
  refine J_aln F 0 dX9_goText_0 rfl rfl ?_
  refine J_ic F dX9_goText_1 ki_0 ?_
  refine J_bi F dX9_goText_2 kb_9 ?_
  refine J_callVi F (As := [.int (nI 0), .int (nI 9)]) (st := []) (C_X9_number l G (nI 0) (nI 9)  h) (ci := 9) ly_244 (by decide) rfl rfl lm_X9_264 li_X9_number ls_X9_number ini_X9 lc_X9_number hd_X9_number (by decide) (Nat.le_of_ble_eq_true rfl) (by decide) rfl dX9_goText_4 (fun r_1 σ_2 h => ?_)
  refine J_isn F (L' := [(2, .int r_1), (0, .ref (gb G + 244)), (1, .int x1)]) dX9_goText_7 rfl (by decide) rfl ?_
  refine J_aln F 1 dX9_goText_8 rfl rfl ?_
  refine J_gfi F (ci := 9) 12 rfl inX9 ly_244 (by decide) (by decide) rfl lf_X9_26 rfl dX9_goText_9 ?_
  refine J_ic F dX9_goText_12 ki_m1 ?_
  refine J_cne F (tgt := 25) dX9_goText_13 (by decide) (fun c_3 => ?_) (fun c_3 => ?_)
  · have h := h.1 c_3
    refine J_ic F dX9_goText_25 ki_0 ?_
    exact J_reti F ⟨_, rfl, h⟩ dX9_goText_26
  · have h := h.2 c_3
    refine J_aln F 1 dX9_goText_16 rfl rfl ?_
    refine J_iln F 0 dX9_goText_17 rfl rfl ?_
    refine J_iln F 2 dX9_goText_18 rfl rfl ?_
    refine J_callVi F (As := [.int r_1, .int x1]) (st := []) (C_X9_go0 l G r_1 x1  h) (ci := 9) ly_244 (by decide) rfl rfl lm_X9_280 li_X9_go0 ls_X9_go0 ini_X9 lc_X9_go0 hd_X9_go0 (by decide) (Nat.le_of_ble_eq_true rfl) (by decide) rfl dX9_goText_19 (fun r_4 σ_5 h => ?_)
    refine J_goto F (tgt := 26) dX9_goText_22 (by decide) ?_
    exact J_reti F ⟨_, rfl, h⟩ dX9_goText_26
theorem dX9_putText_0 : decode cX9_putText 0 = .ok (.aload_n 0, 1) := by decide +kernel
theorem dX9_putText_1 : decode cX9_putText 1 = .ok (.iconst 0, 1) := by decide +kernel
theorem dX9_putText_2 : decode cX9_putText 2 = .ok (.bipush 99, 2) := by decide +kernel
theorem dX9_putText_4 : decode cX9_putText 4 = .ok (.invokevirtual 264, 3) := by decide +kernel
theorem dX9_putText_7 : decode cX9_putText 7 = .ok (.istore_n 1, 1) := by decide +kernel
theorem dX9_putText_8 : decode cX9_putText 8 = .ok (.aload_n 0, 1) := by decide +kernel
theorem dX9_putText_9 : decode cX9_putText 9 = .ok (.iconst 0, 1) := by decide +kernel
theorem dX9_putText_10 : decode cX9_putText 10 = .ok (.sipush 999, 3) := by decide +kernel
theorem dX9_putText_13 : decode cX9_putText 13 = .ok (.invokevirtual 264, 3) := by decide +kernel
theorem dX9_putText_16 : decode cX9_putText 16 = .ok (.istore_n 2, 1) := by decide +kernel
theorem dX9_putText_17 : decode cX9_putText 17 = .ok (.aload_n 0, 1) := by decide +kernel
theorem dX9_putText_18 : decode cX9_putText 18 = .ok (.getfield 26, 3) := by decide +kernel
theorem dX9_putText_21 : decode cX9_putText 21 = .ok (.iconst (-1), 1) := by decide +kernel
theorem dX9_putText_22 : decode cX9_putText 22 = .ok (.if_icmp .ne 12, 3) := by decide +kernel
theorem dX9_putText_25 : decode cX9_putText 25 = .ok (.aload_n 0, 1) := by decide +kernel
theorem dX9_putText_26 : decode cX9_putText 26 = .ok (.iload_n 1, 1) := by decide +kernel
theorem dX9_putText_27 : decode cX9_putText 27 = .ok (.iload_n 2, 1) := by decide +kernel
theorem dX9_putText_28 : decode cX9_putText 28 = .ok (.invokevirtual 283, 3) := by decide +kernel
theorem dX9_putText_31 : decode cX9_putText 31 = .ok (.goto 4, 3) := by decide +kernel
theorem dX9_putText_34 : decode cX9_putText 34 = .ok (.iconst 0, 1) := by decide +kernel
theorem dX9_putText_35 : decode cX9_putText 35 = .ok (.ireturn, 1) := by decide +kernel
set_option maxRecDepth 20000 in
set_option maxHeartbeats 4000000 in
theorem C_X9_putText (l : Launch) (G : Gp)   {σ : St} {Q : Int32 → St → Prop} (h : wp_X9_putText σ  Q) : Cn l yX9_putText cX9_putText 3 (some .int) 8 184 G [.ref (gb G + 244)] σ (qI Q) := by
  refine Cn_of (L := [(0, .ref (gb G + 244))]) RX9 (by decide) rfl (Nat.le_of_ble_eq_true rfl) rfl ?_
  intro p e s m below meth c F
  unfold wp_X9_putText at h
  refine J_aln F 0 dX9_putText_0 rfl rfl ?_
  refine J_ic F dX9_putText_1 ki_0 ?_
  refine J_bi F dX9_putText_2 kb_99 ?_
  refine J_callVi F (As := [.int (nI 0), .int (nI 99)]) (st := []) (C_X9_number l G (nI 0) (nI 99)  h) (ci := 9) ly_244 (by decide) rfl rfl lm_X9_264 li_X9_number ls_X9_number ini_X9 lc_X9_number hd_X9_number (by decide) (Nat.le_of_ble_eq_true rfl) (by decide) rfl dX9_putText_4 (fun r_1 σ_2 h => ?_)
  refine J_isn F (L' := [(1, .int r_1), (0, .ref (gb G + 244))]) dX9_putText_7 rfl (by decide) rfl ?_
  refine J_aln F 1 dX9_putText_8 rfl rfl ?_
  refine J_ic F dX9_putText_9 ki_0 ?_
  refine J_si F dX9_putText_10 ks_999 ?_
  refine J_callVi F (As := [.int (nI 0), .int (nI 999)]) (st := []) (C_X9_number l G (nI 0) (nI 999)  h) (ci := 9) ly_244 (by decide) rfl rfl lm_X9_264 li_X9_number ls_X9_number ini_X9 lc_X9_number hd_X9_number (by decide) (Nat.le_of_ble_eq_true rfl) (by decide) rfl dX9_putText_13 (fun r_3 σ_4 h => ?_)
  refine J_isn F (L' := [(2, .int r_3), (1, .int r_1), (0, .ref (gb G + 244))]) dX9_putText_16 rfl (by decide) rfl ?_
  refine J_aln F 2 dX9_putText_17 rfl rfl ?_
  refine J_gfi F (ci := 9) 12 rfl inX9 ly_244 (by decide) (by decide) rfl lf_X9_26 rfl dX9_putText_18 ?_
  refine J_ic F dX9_putText_21 ki_m1 ?_
  refine J_cne F (tgt := 34) dX9_putText_22 (by decide) (fun c_5 => ?_) (fun c_5 => ?_)
  · have h := h.1 c_5
    refine J_ic F dX9_putText_34 ki_0 ?_
    exact J_reti F ⟨_, rfl, h⟩ dX9_putText_35
  · have h := h.2 c_5
    refine J_aln F 2 dX9_putText_25 rfl rfl ?_
    refine J_iln F 1 dX9_putText_26 rfl rfl ?_
    refine J_iln F 0 dX9_putText_27 rfl rfl ?_
    refine J_callVi F (As := [.int r_1, .int r_3]) (st := []) (C_X9_put0 l G r_1 r_3  h) (ci := 9) ly_244 (by decide) rfl rfl lm_X9_283 li_X9_put0 ls_X9_put0 ini_X9 lc_X9_put0 hd_X9_put0 (by decide) (Nat.le_of_ble_eq_true rfl) (by decide) rfl dX9_putText_28 (fun r_6 σ_7 h => ?_)
    refine J_goto F (tgt := 35) dX9_putText_31 (by decide) ?_
    exact J_reti F ⟨_, rfl, h⟩ dX9_putText_35
theorem dX9_fault_0 : decode cX9_fault 0 = .ok (.aload_n 0, 1) := by decide +kernel
theorem dX9_fault_1 : decode cX9_fault 1 = .ok (.iconst 0, 1) := by decide +kernel
theorem dX9_fault_2 : decode cX9_fault 2 = .ok (.putfield 54, 3) := by decide +kernel
theorem dX9_fault_5 : decode cX9_fault 5 = .ok (.aload_n 0, 1) := by decide +kernel
theorem dX9_fault_6 : decode cX9_fault 6 = .ok (.getfield 26, 3) := by decide +kernel
theorem dX9_fault_9 : decode cX9_fault 9 = .ok (.ireturn, 1) := by decide +kernel
set_option maxRecDepth 20000 in
set_option maxHeartbeats 4000000 in
theorem C_X9_fault (l : Launch) (G : Gp)   {σ : St} {Q : Int32 → St → Prop} (h : wp_X9_fault σ  Q) : Cn l yX9_fault cX9_fault 1 (some .int) 0 0 G [.ref (gb G + 244)] σ (qI Q) := by
  refine Cn_of (L := [(0, .ref (gb G + 244))]) RX9 (by decide) rfl (Nat.le_of_ble_eq_true rfl) rfl ?_
  intro p e s m below meth c F
  unfold wp_X9_fault at h
  refine J_aln F 0 dX9_fault_0 rfl rfl ?_
  refine J_ic F dX9_fault_1 ki_0 ?_
  refine J_pfi F (ci := 9) 0 rfl inX9 tyX9 tyX9_ok nmX9 ly_244 (by decide) (by decide) rfl lf_X9_54 rfl rfl (tyX9_ok 0 (by decide)) rfl rfl dX9_fault_2 ?_
  refine J_st (fun σ_1 eσ_1 => ?_)
  have h := h σ_1 eσ_1
  refine J_aln F 0 dX9_fault_5 rfl rfl ?_
  refine J_gfi F (ci := 9) 12 rfl inX9 ly_244 (by decide) (by decide) rfl lf_X9_26 rfl dX9_fault_6 ?_
  exact J_reti F ⟨_, rfl, h⟩ dX9_fault_9
theorem dX9_why_0 : decode cX9_why 0 = .ok (.aload_n 0, 1) := by decide +kernel
theorem dX9_why_1 : decode cX9_why 1 = .ok (.iconst 0, 1) := by decide +kernel
theorem dX9_why_2 : decode cX9_why 2 = .ok (.putfield 54, 3) := by decide +kernel
theorem dX9_why_5 : decode cX9_why 5 = .ok (.aload_n 0, 1) := by decide +kernel
theorem dX9_why_6 : decode cX9_why 6 = .ok (.getfield 234, 3) := by decide +kernel
theorem dX9_why_9 : decode cX9_why 9 = .ok (.ireturn, 1) := by decide +kernel
set_option maxRecDepth 20000 in
set_option maxHeartbeats 4000000 in
theorem C_X9_why (l : Launch) (G : Gp)   {σ : St} {Q : Int32 → St → Prop} (h : wp_X9_why σ  Q) : Cn l yX9_why cX9_why 1 (some .int) 0 0 G [.ref (gb G + 244)] σ (qI Q) := by
  refine Cn_of (L := [(0, .ref (gb G + 244))]) RX9 (by decide) rfl (Nat.le_of_ble_eq_true rfl) rfl ?_
  intro p e s m below meth c F
  unfold wp_X9_why at h
  refine J_aln F 0 dX9_why_0 rfl rfl ?_
  refine J_ic F dX9_why_1 ki_0 ?_
  refine J_pfi F (ci := 9) 0 rfl inX9 tyX9 tyX9_ok nmX9 ly_244 (by decide) (by decide) rfl lf_X9_54 rfl rfl (tyX9_ok 0 (by decide)) rfl rfl dX9_why_2 ?_
  refine J_st (fun σ_1 eσ_1 => ?_)
  have h := h σ_1 eσ_1
  refine J_aln F 0 dX9_why_5 rfl rfl ?_
  refine J_gfi F (ci := 9) 7 rfl inX9 ly_244 (by decide) (by decide) rfl lf_X9_234 rfl dX9_why_6 ?_
  exact J_reti F ⟨_, rfl, h⟩ dX9_why_9
theorem dX9_isPlace_0 : decode cX9_isPlace 0 = .ok (.iload_n 0, 1) := by decide +kernel
theorem dX9_isPlace_1 : decode cX9_isPlace 1 = .ok (.iconst 0, 1) := by decide +kernel
theorem dX9_isPlace_2 : decode cX9_isPlace 2 = .ok (.bipush 99, 2) := by decide +kernel
theorem dX9_isPlace_4 : decode cX9_isPlace 4 = .ok (.invokestatic 77, 3) := by decide +kernel
theorem dX9_isPlace_7 : decode cX9_isPlace 7 = .ok (.ifCond .eq 17, 3) := by decide +kernel
theorem dX9_isPlace_10 : decode cX9_isPlace 10 = .ok (.iload_n 1, 1) := by decide +kernel
theorem dX9_isPlace_11 : decode cX9_isPlace 11 = .ok (.iconst 0, 1) := by decide +kernel
theorem dX9_isPlace_12 : decode cX9_isPlace 12 = .ok (.bipush 99, 2) := by decide +kernel
theorem dX9_isPlace_14 : decode cX9_isPlace 14 = .ok (.invokestatic 77, 3) := by decide +kernel
theorem dX9_isPlace_17 : decode cX9_isPlace 17 = .ok (.ifCond .eq 7, 3) := by decide +kernel
theorem dX9_isPlace_20 : decode cX9_isPlace 20 = .ok (.iconst 1, 1) := by decide +kernel
theorem dX9_isPlace_21 : decode cX9_isPlace 21 = .ok (.goto 4, 3) := by decide +kernel
theorem dX9_isPlace_24 : decode cX9_isPlace 24 = .ok (.iconst 0, 1) := by decide +kernel
theorem dX9_isPlace_25 : decode cX9_isPlace 25 = .ok (.ireturn, 1) := by decide +kernel
set_option maxRecDepth 20000 in
set_option maxHeartbeats 4000000 in
theorem C_X9_isPlace (l : Launch) (G : Gp) (x0 : Int32) (x1 : Int32)  {σ : St} {Q : Int32 → Prop} (h : wp_X9_isPlace σ x0 x1 Q) : Cn l yX9_isPlace cX9_isPlace 2 (some .boolean) 1 22 G [.int x0, .int x1] σ (qI (fun r σ' => σ' = σ ∧ Q r)) := by
  refine Cn_of (L := [(0, .int x0), (1, .int x1)]) RX9 (by decide) rfl (Nat.le_of_ble_eq_true rfl) rfl ?_
  intro p e s m below meth c F
  unfold wp_X9_isPlace at h
  refine J_iln F 0 dX9_isPlace_0 rfl rfl ?_
  refine J_ic F dX9_isPlace_1 ki_0 ?_
  refine J_bi F dX9_isPlace_2 kb_99 ?_
  refine J_callSi F (As := [.int x0, .int (nI 0), .int (nI 99)]) (st := []) (C_X9_isIn l G x0 (nI 0) (nI 99)  h) lm_X9_77 li_X9_isIn ini_X9 lc_X9_isIn hd_X9_isIn (by decide) (Nat.le_of_ble_eq_true rfl) (by decide) rfl dX9_isPlace_4 (fun r_1 σ_2 hh => ?_)
  clear h
  obtain ⟨e9, h⟩ := hh
  subst σ_2
  refine J_zeq F (tgt := 24) dX9_isPlace_7 (by decide) (fun c_3 => ?_) (fun c_3 => ?_)
  · have h := h.1 c_3
    refine J_ic F dX9_isPlace_24 ki_0 ?_
    exact J_retz F (Or.inl rfl) ⟨_, rfl, rfl, h⟩ dX9_isPlace_25
  · have h := h.2 c_3
    refine J_iln F 1 dX9_isPlace_10 rfl rfl ?_
    refine J_ic F dX9_isPlace_11 ki_0 ?_
    refine J_bi F dX9_isPlace_12 kb_99 ?_
    refine J_callSi F (As := [.int x1, .int (nI 0), .int (nI 99)]) (st := []) (C_X9_isIn l G x1 (nI 0) (nI 99)  h) lm_X9_77 li_X9_isIn ini_X9 lc_X9_isIn hd_X9_isIn (by decide) (Nat.le_of_ble_eq_true rfl) (by decide) rfl dX9_isPlace_14 (fun r_4 σ_5 hh => ?_)
    clear h
    obtain ⟨e9, h⟩ := hh
    subst σ_5
    refine J_zeq F (tgt := 24) dX9_isPlace_17 (by decide) (fun c_6 => ?_) (fun c_6 => ?_)
    · have h := h.1 c_6
      refine J_ic F dX9_isPlace_24 ki_0 ?_
      exact J_retz F (Or.inl rfl) ⟨_, rfl, rfl, h⟩ dX9_isPlace_25
    · have h := h.2 c_6
      refine J_ic F dX9_isPlace_20 ki_1 ?_
      refine J_goto F (tgt := 25) dX9_isPlace_21 (by decide) ?_
      exact J_retz F (Or.inr rfl) ⟨_, rfl, rfl, h⟩ dX9_isPlace_25
theorem dX9_isCell_0 : decode cX9_isCell 0 = .ok (.iload_n 0, 1) := by decide +kernel
theorem dX9_isCell_1 : decode cX9_isCell 1 = .ok (.iconst 0, 1) := by decide +kernel
theorem dX9_isCell_2 : decode cX9_isCell 2 = .ok (.bipush 31, 2) := by decide +kernel
theorem dX9_isCell_4 : decode cX9_isCell 4 = .ok (.invokestatic 77, 3) := by decide +kernel
theorem dX9_isCell_7 : decode cX9_isCell 7 = .ok (.ifCond .eq 17, 3) := by decide +kernel
theorem dX9_isCell_10 : decode cX9_isCell 10 = .ok (.iload_n 1, 1) := by decide +kernel
theorem dX9_isCell_11 : decode cX9_isCell 11 = .ok (.iconst 0, 1) := by decide +kernel
theorem dX9_isCell_12 : decode cX9_isCell 12 = .ok (.bipush 31, 2) := by decide +kernel
theorem dX9_isCell_14 : decode cX9_isCell 14 = .ok (.invokestatic 77, 3) := by decide +kernel
theorem dX9_isCell_17 : decode cX9_isCell 17 = .ok (.ifCond .eq 7, 3) := by decide +kernel
theorem dX9_isCell_20 : decode cX9_isCell 20 = .ok (.iconst 1, 1) := by decide +kernel
theorem dX9_isCell_21 : decode cX9_isCell 21 = .ok (.goto 4, 3) := by decide +kernel
theorem dX9_isCell_24 : decode cX9_isCell 24 = .ok (.iconst 0, 1) := by decide +kernel
theorem dX9_isCell_25 : decode cX9_isCell 25 = .ok (.ireturn, 1) := by decide +kernel
set_option maxRecDepth 20000 in
set_option maxHeartbeats 4000000 in
theorem C_X9_isCell (l : Launch) (G : Gp) (x0 : Int32) (x1 : Int32)  {σ : St} {Q : Int32 → Prop} (h : wp_X9_isCell σ x0 x1 Q) : Cn l yX9_isCell cX9_isCell 2 (some .boolean) 1 22 G [.int x0, .int x1] σ (qI (fun r σ' => σ' = σ ∧ Q r)) := by
  refine Cn_of (L := [(0, .int x0), (1, .int x1)]) RX9 (by decide) rfl (Nat.le_of_ble_eq_true rfl) rfl ?_
  intro p e s m below meth c F
  unfold wp_X9_isCell at h
  refine J_iln F 0 dX9_isCell_0 rfl rfl ?_
  refine J_ic F dX9_isCell_1 ki_0 ?_
  refine J_bi F dX9_isCell_2 kb_31 ?_
  refine J_callSi F (As := [.int x0, .int (nI 0), .int (nI 31)]) (st := []) (C_X9_isIn l G x0 (nI 0) (nI 31)  h) lm_X9_77 li_X9_isIn ini_X9 lc_X9_isIn hd_X9_isIn (by decide) (Nat.le_of_ble_eq_true rfl) (by decide) rfl dX9_isCell_4 (fun r_1 σ_2 hh => ?_)
  clear h
  obtain ⟨e9, h⟩ := hh
  subst σ_2
  refine J_zeq F (tgt := 24) dX9_isCell_7 (by decide) (fun c_3 => ?_) (fun c_3 => ?_)
  · have h := h.1 c_3
    refine J_ic F dX9_isCell_24 ki_0 ?_
    exact J_retz F (Or.inl rfl) ⟨_, rfl, rfl, h⟩ dX9_isCell_25
  · have h := h.2 c_3
    refine J_iln F 1 dX9_isCell_10 rfl rfl ?_
    refine J_ic F dX9_isCell_11 ki_0 ?_
    refine J_bi F dX9_isCell_12 kb_31 ?_
    refine J_callSi F (As := [.int x1, .int (nI 0), .int (nI 31)]) (st := []) (C_X9_isIn l G x1 (nI 0) (nI 31)  h) lm_X9_77 li_X9_isIn ini_X9 lc_X9_isIn hd_X9_isIn (by decide) (Nat.le_of_ble_eq_true rfl) (by decide) rfl dX9_isCell_14 (fun r_4 σ_5 hh => ?_)
    clear h
    obtain ⟨e9, h⟩ := hh
    subst σ_5
    refine J_zeq F (tgt := 24) dX9_isCell_17 (by decide) (fun c_6 => ?_) (fun c_6 => ?_)
    · have h := h.1 c_6
      refine J_ic F dX9_isCell_24 ki_0 ?_
      exact J_retz F (Or.inl rfl) ⟨_, rfl, rfl, h⟩ dX9_isCell_25
    · have h := h.2 c_6
      refine J_ic F dX9_isCell_20 ki_1 ?_
      refine J_goto F (tgt := 25) dX9_isCell_21 (by decide) ?_
      exact J_retz F (Or.inr rfl) ⟨_, rfl, rfl, h⟩ dX9_isCell_25
theorem dX9_join_0 : decode cX9_join 0 = .ok (.aload_n 0, 1) := by decide +kernel
theorem dX9_join_1 : decode cX9_join 1 = .ok (.iload_n 1, 1) := by decide +kernel
theorem dX9_join_2 : decode cX9_join 2 = .ok (.iload_n 2, 1) := by decide +kernel
theorem dX9_join_3 : decode cX9_join 3 = .ok (.invokestatic 336, 3) := by decide +kernel
theorem dX9_join_6 : decode cX9_join 6 = .ok (.ifCond .eq 16, 3) := by decide +kernel
theorem dX9_join_9 : decode cX9_join 9 = .ok (.iload_n 3, 1) := by decide +kernel
theorem dX9_join_10 : decode cX9_join 10 = .ok (.iload 4, 2) := by decide +kernel
theorem dX9_join_12 : decode cX9_join 12 = .ok (.invokestatic 339, 3) := by decide +kernel
theorem dX9_join_15 : decode cX9_join 15 = .ok (.ifCond .eq 7, 3) := by decide +kernel
theorem dX9_join_18 : decode cX9_join 18 = .ok (.iconst 0, 1) := by decide +kernel
theorem dX9_join_19 : decode cX9_join 19 = .ok (.goto 4, 3) := by decide +kernel
theorem dX9_join_22 : decode cX9_join 22 = .ok (.iconst 1, 1) := by decide +kernel
theorem dX9_join_23 : decode cX9_join 23 = .ok (.putfield 54, 3) := by decide +kernel
theorem dX9_join_26 : decode cX9_join 26 = .ok (.aload_n 0, 1) := by decide +kernel
theorem dX9_join_27 : decode cX9_join 27 = .ok (.getfield 54, 3) := by decide +kernel
theorem dX9_join_30 : decode cX9_join 30 = .ok (.ifCond .le 5, 3) := by decide +kernel
theorem dX9_join_33 : decode cX9_join 33 = .ok (.iconst 0, 1) := by decide +kernel
theorem dX9_join_34 : decode cX9_join 34 = .ok (.ireturn, 1) := by decide +kernel
theorem dX9_join_35 : decode cX9_join 35 = .ok (.aload_n 0, 1) := by decide +kernel
theorem dX9_join_36 : decode cX9_join 36 = .ok (.invokevirtual 330, 3) := by decide +kernel
theorem dX9_join_39 : decode cX9_join 39 = .ok (.aload_n 0, 1) := by decide +kernel
theorem dX9_join_40 : decode cX9_join 40 = .ok (.aload_n 0, 1) := by decide +kernel
theorem dX9_join_41 : decode cX9_join 41 = .ok (.iload_n 1, 1) := by decide +kernel
theorem dX9_join_42 : decode cX9_join 42 = .ok (.iload_n 2, 1) := by decide +kernel
theorem dX9_join_43 : decode cX9_join 43 = .ok (.iload_n 3, 1) := by decide +kernel
theorem dX9_join_44 : decode cX9_join 44 = .ok (.iload 4, 2) := by decide +kernel
theorem dX9_join_46 : decode cX9_join 46 = .ok (.invokevirtual 196, 3) := by decide +kernel
theorem dX9_join_49 : decode cX9_join 49 = .ok (.iconst 2, 1) := by decide +kernel
theorem dX9_join_50 : decode cX9_join 50 = .ok (.invokevirtual 342, 3) := by decide +kernel
theorem dX9_join_53 : decode cX9_join 53 = .ok (.ifCond .eq 10, 3) := by decide +kernel
theorem dX9_join_56 : decode cX9_join 56 = .ok (.aload_n 0, 1) := by decide +kernel
theorem dX9_join_57 : decode cX9_join 57 = .ok (.getfield 171, 3) := by decide +kernel
theorem dX9_join_60 : decode cX9_join 60 = .ok (.goto 4, 3) := by decide +kernel
theorem dX9_join_63 : decode cX9_join 63 = .ok (.iconst 0, 1) := by decide +kernel
theorem dX9_join_64 : decode cX9_join 64 = .ok (.ireturn, 1) := by decide +kernel
set_option maxRecDepth 20000 in
set_option maxHeartbeats 4000000 in
theorem wk_X9_join_23 {p : Program} {l : Launch} {e : Env} {s : State} {m : MethodId} {args : Array Value} {below : List Frame} {meth : Method} {c : Code} {G : Gp} {σ : St} {x1 : Int32} {x2 : Int32} {x3 : Int32} {x4 : Int32} {t1 : Int32}  {Q : Int32 → St → Prop} (F : FX p s m args meth c cX9_join 5 (some .int) RX9 G)   (h : wp_X9_join_23 σ x1 x2 x3 x4 t1 Q) : J p l e (rmF 6 145) s m args below meth c 5 G (MQ below (QQ G (qI Q)) args s 0 0 (fr G)) 0 0 23 [(0, .ref (gb G + 244)), (1, .int x1), (2, .int x2), (3, .int x3), (4, .int x4)] [.int t1, .ref (gb G + 244)] σ := by
  unfold wp_X9_join_23 at h
  refine J_pfi F (ci := 9) 0 rfl inX9 tyX9 tyX9_ok nmX9 ly_244 (by decide) (by decide) rfl lf_X9_54 rfl rfl (tyX9_ok 0 (by decide)) rfl rfl dX9_join_23 ?_
  refine J_st (fun σ_1 eσ_1 => ?_)
  have h := h σ_1 eσ_1
  refine J_aln F 0 dX9_join_26 rfl rfl ?_
  refine J_gfi F (ci := 9) 0 rfl inX9 ly_244 (by decide) (by decide) rfl lf_X9_54 rfl dX9_join_27 ?_
  refine J_zle F (tgt := 35) dX9_join_30 (by decide) (fun c_2 => ?_) (fun c_2 => ?_)
  · have h := h.1 c_2
    refine J_aln F 0 dX9_join_35 rfl rfl ?_
    refine J_callVv F (As := []) (st := []) (C_X9_putsAside l G   h) (ci := 9) ly_244 (by decide) rfl rfl lm_X9_330 li_X9_putsAside ls_X9_putsAside ini_X9 lc_X9_putsAside hd_X9_putsAside (by decide) (Nat.le_of_ble_eq_true rfl) (by decide) rfl dX9_join_36 (fun σ_3 h => ?_)
    refine J_aln F 0 dX9_join_39 rfl rfl ?_
    refine J_aln F 0 dX9_join_40 rfl rfl ?_
    refine J_iln F 1 dX9_join_41 rfl rfl ?_
    refine J_iln F 2 dX9_join_42 rfl rfl ?_
    refine J_iln F 3 dX9_join_43 rfl rfl ?_
    refine J_il F 4 dX9_join_44 rfl ?_
    refine J_callVi F (As := [.int x1, .int x2, .int x3, .int x4]) (st := [.ref (gb G + 244)]) (C_X9_join0 l G x1 x2 x3 x4  h) (ci := 9) ly_244 (by decide) rfl rfl lm_X9_196 li_X9_join0 ls_X9_join0 ini_X9 lc_X9_join0 hd_X9_join0 (by decide) (Nat.le_of_ble_eq_true rfl) (by decide) rfl dX9_join_46 (fun r_4 σ_5 h => ?_)
    refine J_ic F dX9_join_49 ki_2 ?_
    refine J_callVi F (As := [.int r_4, .int (nI 2)]) (st := []) (C_X9_isDone l G r_4 (nI 2)  h) (ci := 9) ly_244 (by decide) rfl rfl lm_X9_342 li_X9_isDone ls_X9_isDone ini_X9 lc_X9_isDone hd_X9_isDone (by decide) (Nat.le_of_ble_eq_true rfl) (by decide) rfl dX9_join_50 (fun r_6 σ_7 h => ?_)
    refine J_zeq F (tgt := 63) dX9_join_53 (by decide) (fun c_8 => ?_) (fun c_8 => ?_)
    · have h := h.1 c_8
      refine J_ic F dX9_join_63 ki_0 ?_
      exact J_reti F ⟨_, rfl, h⟩ dX9_join_64
    · have h := h.2 c_8
      refine J_aln F 0 dX9_join_56 rfl rfl ?_
      refine J_gfi F (ci := 9) 28 rfl inX9 ly_244 (by decide) (by decide) rfl lf_X9_171 rfl dX9_join_57 ?_
      refine J_goto F (tgt := 64) dX9_join_60 (by decide) ?_
      exact J_reti F ⟨_, rfl, h⟩ dX9_join_64
  · have h := h.2 c_2
    refine J_ic F dX9_join_33 ki_0 ?_
    exact J_reti F ⟨_, rfl, h⟩ dX9_join_34
set_option maxRecDepth 20000 in
set_option maxHeartbeats 4000000 in
theorem wk_X9_join_22 {p : Program} {l : Launch} {e : Env} {s : State} {m : MethodId} {args : Array Value} {below : List Frame} {meth : Method} {c : Code} {G : Gp} {σ : St} {x1 : Int32} {x2 : Int32} {x3 : Int32} {x4 : Int32}  {Q : Int32 → St → Prop} (F : FX p s m args meth c cX9_join 5 (some .int) RX9 G)   (h : wp_X9_join_22 σ x1 x2 x3 x4 Q) : J p l e (rmF 6 145) s m args below meth c 5 G (MQ below (QQ G (qI Q)) args s 0 0 (fr G)) 0 0 22 [(0, .ref (gb G + 244)), (1, .int x1), (2, .int x2), (3, .int x3), (4, .int x4)] [.ref (gb G + 244)] σ := by
  unfold wp_X9_join_22 at h
  refine J_ic F dX9_join_22 ki_1 ?_
  exact wk_X9_join_23 F  h
set_option maxRecDepth 20000 in
set_option maxHeartbeats 4000000 in
theorem C_X9_join (l : Launch) (G : Gp) (x1 : Int32) (x2 : Int32) (x3 : Int32) (x4 : Int32)  {σ : St} {Q : Int32 → St → Prop} (h : wp_X9_join σ x1 x2 x3 x4 Q) : Cn l yX9_join cX9_join 5 (some .int) 6 145 G [.ref (gb G + 244), .int x1, .int x2, .int x3, .int x4] σ (qI Q) := by
  refine Cn_of (L := [(0, .ref (gb G + 244)), (1, .int x1), (2, .int x2), (3, .int x3), (4, .int x4)]) RX9 (by decide) rfl (Nat.le_of_ble_eq_true rfl) rfl ?_
  intro p e s m below meth c F
  unfold wp_X9_join at h
  refine J_aln F 0 dX9_join_0 rfl rfl ?_
  refine J_iln F 1 dX9_join_1 rfl rfl ?_
  refine J_iln F 2 dX9_join_2 rfl rfl ?_
  refine J_callSi F (As := [.int x1, .int x2]) (st := [.ref (gb G + 244)]) (C_X9_isPlace l G x1 x2  h) lm_X9_336 li_X9_isPlace ini_X9 lc_X9_isPlace hd_X9_isPlace (by decide) (Nat.le_of_ble_eq_true rfl) (by decide) rfl dX9_join_3 (fun r_9 σ_10 hh => ?_)
  clear h
  obtain ⟨e9, h⟩ := hh
  subst σ_10
  refine J_zeq F (tgt := 22) dX9_join_6 (by decide) (fun c_11 => ?_) (fun c_11 => ?_)
  · have h := h.1 c_11
    exact wk_X9_join_22 F  h
  · have h := h.2 c_11
    refine J_iln F 3 dX9_join_9 rfl rfl ?_
    refine J_il F 4 dX9_join_10 rfl ?_
    refine J_callSi F (As := [.int x3, .int x4]) (st := [.ref (gb G + 244)]) (C_X9_isCell l G x3 x4  h) lm_X9_339 li_X9_isCell ini_X9 lc_X9_isCell hd_X9_isCell (by decide) (Nat.le_of_ble_eq_true rfl) (by decide) rfl dX9_join_12 (fun r_12 σ_13 hh => ?_)
    clear h
    obtain ⟨e9, h⟩ := hh
    subst σ_13
    refine J_zeq F (tgt := 22) dX9_join_15 (by decide) (fun c_14 => ?_) (fun c_14 => ?_)
    · have h := h.1 c_14
      exact wk_X9_join_22 F  h
    · have h := h.2 c_14
      refine J_ic F dX9_join_18 ki_0 ?_
      refine J_goto F (tgt := 23) dX9_join_19 (by decide) ?_
      exact wk_X9_join_23 F  h
theorem dX9_near_0 : decode cX9_near 0 = .ok (.aload_n 0, 1) := by decide +kernel
theorem dX9_near_1 : decode cX9_near 1 = .ok (.iload_n 1, 1) := by decide +kernel
theorem dX9_near_2 : decode cX9_near 2 = .ok (.iload_n 2, 1) := by decide +kernel
theorem dX9_near_3 : decode cX9_near 3 = .ok (.invokestatic 336, 3) := by decide +kernel
theorem dX9_near_6 : decode cX9_near 6 = .ok (.ifCond .eq 7, 3) := by decide +kernel
theorem dX9_near_9 : decode cX9_near 9 = .ok (.iconst 0, 1) := by decide +kernel
theorem dX9_near_10 : decode cX9_near 10 = .ok (.goto 4, 3) := by decide +kernel
theorem dX9_near_13 : decode cX9_near 13 = .ok (.iconst 1, 1) := by decide +kernel
theorem dX9_near_14 : decode cX9_near 14 = .ok (.putfield 54, 3) := by decide +kernel
theorem dX9_near_17 : decode cX9_near 17 = .ok (.aload_n 0, 1) := by decide +kernel
theorem dX9_near_18 : decode cX9_near 18 = .ok (.getfield 54, 3) := by decide +kernel
theorem dX9_near_21 : decode cX9_near 21 = .ok (.ifCond .le 5, 3) := by decide +kernel
theorem dX9_near_24 : decode cX9_near 24 = .ok (.iconst 0, 1) := by decide +kernel
theorem dX9_near_25 : decode cX9_near 25 = .ok (.ireturn, 1) := by decide +kernel
theorem dX9_near_26 : decode cX9_near 26 = .ok (.aload_n 0, 1) := by decide +kernel
theorem dX9_near_27 : decode cX9_near 27 = .ok (.invokevirtual 330, 3) := by decide +kernel
theorem dX9_near_30 : decode cX9_near 30 = .ok (.aload_n 0, 1) := by decide +kernel
theorem dX9_near_31 : decode cX9_near 31 = .ok (.aload_n 0, 1) := by decide +kernel
theorem dX9_near_32 : decode cX9_near 32 = .ok (.iload_n 1, 1) := by decide +kernel
theorem dX9_near_33 : decode cX9_near 33 = .ok (.iload_n 2, 1) := by decide +kernel
theorem dX9_near_34 : decode cX9_near 34 = .ok (.invokevirtual 273, 3) := by decide +kernel
theorem dX9_near_37 : decode cX9_near 37 = .ok (.iconst 2, 1) := by decide +kernel
theorem dX9_near_38 : decode cX9_near 38 = .ok (.invokevirtual 342, 3) := by decide +kernel
theorem dX9_near_41 : decode cX9_near 41 = .ok (.ifCond .eq 10, 3) := by decide +kernel
theorem dX9_near_44 : decode cX9_near 44 = .ok (.aload_n 0, 1) := by decide +kernel
theorem dX9_near_45 : decode cX9_near 45 = .ok (.getfield 171, 3) := by decide +kernel
theorem dX9_near_48 : decode cX9_near 48 = .ok (.goto 4, 3) := by decide +kernel
theorem dX9_near_51 : decode cX9_near 51 = .ok (.iconst 0, 1) := by decide +kernel
theorem dX9_near_52 : decode cX9_near 52 = .ok (.ireturn, 1) := by decide +kernel
set_option maxRecDepth 20000 in
set_option maxHeartbeats 4000000 in
theorem wk_X9_near_14 {p : Program} {l : Launch} {e : Env} {s : State} {m : MethodId} {args : Array Value} {below : List Frame} {meth : Method} {c : Code} {G : Gp} {σ : St} {x1 : Int32} {x2 : Int32} {t1 : Int32}  {Q : Int32 → St → Prop} (F : FX p s m args meth c cX9_near 3 (some .int) RX9 G)   (h : wp_X9_near_14 σ x1 x2 t1 Q) : J p l e (rmF 7 167) s m args below meth c 3 G (MQ below (QQ G (qI Q)) args s 0 0 (fr G)) 0 0 14 [(0, .ref (gb G + 244)), (1, .int x1), (2, .int x2)] [.int t1, .ref (gb G + 244)] σ := by
  unfold wp_X9_near_14 at h
  refine J_pfi F (ci := 9) 0 rfl inX9 tyX9 tyX9_ok nmX9 ly_244 (by decide) (by decide) rfl lf_X9_54 rfl rfl (tyX9_ok 0 (by decide)) rfl rfl dX9_near_14 ?_
  refine J_st (fun σ_1 eσ_1 => ?_)
  have h := h σ_1 eσ_1
  refine J_aln F 0 dX9_near_17 rfl rfl ?_
  refine J_gfi F (ci := 9) 0 rfl inX9 ly_244 (by decide) (by decide) rfl lf_X9_54 rfl dX9_near_18 ?_
  refine J_zle F (tgt := 26) dX9_near_21 (by decide) (fun c_2 => ?_) (fun c_2 => ?_)
  · have h := h.1 c_2
    refine J_aln F 0 dX9_near_26 rfl rfl ?_
    refine J_callVv F (As := []) (st := []) (C_X9_putsAside l G   h) (ci := 9) ly_244 (by decide) rfl rfl lm_X9_330 li_X9_putsAside ls_X9_putsAside ini_X9 lc_X9_putsAside hd_X9_putsAside (by decide) (Nat.le_of_ble_eq_true rfl) (by decide) rfl dX9_near_27 (fun σ_3 h => ?_)
    refine J_aln F 0 dX9_near_30 rfl rfl ?_
    refine J_aln F 0 dX9_near_31 rfl rfl ?_
    refine J_iln F 1 dX9_near_32 rfl rfl ?_
    refine J_iln F 2 dX9_near_33 rfl rfl ?_
    refine J_callVi F (As := [.int x1, .int x2]) (st := [.ref (gb G + 244)]) (C_X9_near0 l G x1 x2  h) (ci := 9) ly_244 (by decide) rfl rfl lm_X9_273 li_X9_near0 ls_X9_near0 ini_X9 lc_X9_near0 hd_X9_near0 (by decide) (Nat.le_of_ble_eq_true rfl) (by decide) rfl dX9_near_34 (fun r_4 σ_5 h => ?_)
    refine J_ic F dX9_near_37 ki_2 ?_
    refine J_callVi F (As := [.int r_4, .int (nI 2)]) (st := []) (C_X9_isDone l G r_4 (nI 2)  h) (ci := 9) ly_244 (by decide) rfl rfl lm_X9_342 li_X9_isDone ls_X9_isDone ini_X9 lc_X9_isDone hd_X9_isDone (by decide) (Nat.le_of_ble_eq_true rfl) (by decide) rfl dX9_near_38 (fun r_6 σ_7 h => ?_)
    refine J_zeq F (tgt := 51) dX9_near_41 (by decide) (fun c_8 => ?_) (fun c_8 => ?_)
    · have h := h.1 c_8
      refine J_ic F dX9_near_51 ki_0 ?_
      exact J_reti F ⟨_, rfl, h⟩ dX9_near_52
    · have h := h.2 c_8
      refine J_aln F 0 dX9_near_44 rfl rfl ?_
      refine J_gfi F (ci := 9) 28 rfl inX9 ly_244 (by decide) (by decide) rfl lf_X9_171 rfl dX9_near_45 ?_
      refine J_goto F (tgt := 52) dX9_near_48 (by decide) ?_
      exact J_reti F ⟨_, rfl, h⟩ dX9_near_52
  · have h := h.2 c_2
    refine J_ic F dX9_near_24 ki_0 ?_
    exact J_reti F ⟨_, rfl, h⟩ dX9_near_25
set_option maxRecDepth 20000 in
set_option maxHeartbeats 4000000 in
theorem C_X9_near (l : Launch) (G : Gp) (x1 : Int32) (x2 : Int32)  {σ : St} {Q : Int32 → St → Prop} (h : wp_X9_near σ x1 x2 Q) : Cn l yX9_near cX9_near 3 (some .int) 7 167 G [.ref (gb G + 244), .int x1, .int x2] σ (qI Q) := by
  refine Cn_of (L := [(0, .ref (gb G + 244)), (1, .int x1), (2, .int x2)]) RX9 (by decide) rfl (Nat.le_of_ble_eq_true rfl) rfl ?_
  intro p e s m below meth c F
  unfold wp_X9_near at h
  refine J_aln F 0 dX9_near_0 rfl rfl ?_
  refine J_iln F 1 dX9_near_1 rfl rfl ?_
  refine J_iln F 2 dX9_near_2 rfl rfl ?_
  refine J_callSi F (As := [.int x1, .int x2]) (st := [.ref (gb G + 244)]) (C_X9_isPlace l G x1 x2  h) lm_X9_336 li_X9_isPlace ini_X9 lc_X9_isPlace hd_X9_isPlace (by decide) (Nat.le_of_ble_eq_true rfl) (by decide) rfl dX9_near_3 (fun r_9 σ_10 hh => ?_)
  clear h
  obtain ⟨e9, h⟩ := hh
  subst σ_10
  refine J_zeq F (tgt := 13) dX9_near_6 (by decide) (fun c_11 => ?_) (fun c_11 => ?_)
  · have h := h.1 c_11
    refine J_ic F dX9_near_13 ki_1 ?_
    exact wk_X9_near_14 F  h
  · have h := h.2 c_11
    refine J_ic F dX9_near_9 ki_0 ?_
    refine J_goto F (tgt := 14) dX9_near_10 (by decide) ?_
    exact wk_X9_near_14 F  h
