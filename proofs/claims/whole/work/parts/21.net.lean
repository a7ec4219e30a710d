theorem dX0_tell_0 : decode cX0_tell 0 = .ok (.aload_n 0, 1) := by decide +kernel
theorem dX0_tell_1 : decode cX0_tell 1 = .ok (.iload_n 1, 1) := by decide +kernel
theorem dX0_tell_2 : decode cX0_tell 2 = .ok (.putfield 15, 3) := by decide +kernel
theorem dX0_tell_5 : decode cX0_tell 5 = .ok (.aload_n 0, 1) := by decide +kernel
theorem dX0_tell_6 : decode cX0_tell 6 = .ok (.getfield 9, 3) := by decide +kernel
theorem dX0_tell_9 : decode cX0_tell 9 = .ok (.iconst 0, 1) := by decide +kernel
theorem dX0_tell_10 : decode cX0_tell 10 = .ok (.iload_n 2, 1) := by decide +kernel
theorem dX0_tell_11 : decode cX0_tell 11 = .ok (.iastore, 1) := by decide +kernel
theorem dX0_tell_12 : decode cX0_tell 12 = .ok (.aload_n 0, 1) := by decide +kernel
theorem dX0_tell_13 : decode cX0_tell 13 = .ok (.getfield 9, 3) := by decide +kernel
theorem dX0_tell_16 : decode cX0_tell 16 = .ok (.iconst 1, 1) := by decide +kernel
theorem dX0_tell_17 : decode cX0_tell 17 = .ok (.iload_n 3, 1) := by decide +kernel
theorem dX0_tell_18 : decode cX0_tell 18 = .ok (.iastore, 1) := by decide +kernel
theorem dX0_tell_19 : decode cX0_tell 19 = .ok (.aload_n 0, 1) := by decide +kernel
theorem dX0_tell_20 : decode cX0_tell 20 = .ok (.getfield 9, 3) := by decide +kernel
theorem dX0_tell_23 : decode cX0_tell 23 = .ok (.iconst 2, 1) := by decide +kernel
theorem dX0_tell_24 : decode cX0_tell 24 = .ok (.iload 4, 2) := by decide +kernel
theorem dX0_tell_26 : decode cX0_tell 26 = .ok (.iastore, 1) := by decide +kernel
theorem dX0_tell_27 : decode cX0_tell 27 = .ok (.aload_n 0, 1) := by decide +kernel
theorem dX0_tell_28 : decode cX0_tell 28 = .ok (.getfield 9, 3) := by decide +kernel
theorem dX0_tell_31 : decode cX0_tell 31 = .ok (.iconst 3, 1) := by decide +kernel
theorem dX0_tell_32 : decode cX0_tell 32 = .ok (.iload 5, 2) := by decide +kernel
theorem dX0_tell_34 : decode cX0_tell 34 = .ok (.iastore, 1) := by decide +kernel
theorem dX0_tell_35 : decode cX0_tell 35 = .ok (.return_, 1) := by decide +kernel
set_option maxRecDepth 20000 in
set_option maxHeartbeats 4000000 in
theorem C_X0_tell (l : Launch) (G : Gp) (x1 : Int32) (x2 : Int32) (x3 : Int32) (x4 : Int32) (x5 : Int32)  {σ : St} {Q : St → Prop} (h : wp_X0_tell σ x1 x2 x3 x4 x5 Q) : Cn l yX0_tell cX0_tell 6 none 0 0 G [.ref (gb G + 4), .int x1, .int x2, .int x3, .int x4, .int x5] σ (qV Q) := by
  refine Cn_of (L := [(0, .ref (gb G + 4)), (1, .int x1), (2, .int x2), (3, .int x3), (4, .int x4), (5, .int x5)]) RX0 (by decide) rfl (Nat.le_of_ble_eq_true rfl) rfl ?_
  intro p e s m below meth c F
  unfold wp_X0_tell at h
  refine J_aln F 0 dX0_tell_0 rfl rfl ?_
  refine J_iln F 1 dX0_tell_1 rfl rfl ?_
  refine J_pfi F (ci := 0) 1 rfl inX0 tyX0 tyX0_ok nmX0 ly_4 (by decide) (by decide) rfl lf_X0_15 rfl rfl (tyX0_ok 1 (by decide)) rfl rfl dX0_tell_2 ?_
  refine J_st (fun σ_1 eσ_1 => ?_)
  have h := h σ_1 eσ_1
  refine J_aln F 0 dX0_tell_5 rfl rfl ?_
  refine J_gfa F (ci := 0) 0 rfl inX0 ly_4 (by decide) (by decide) rfl lf_X0_9 rfl dX0_tell_6 ?_
  refine J_ic F dX0_tell_9 ki_0 ?_
  refine J_iln F 2 dX0_tell_10 rfl rfl ?_
  refine J_iastc F ly_5 (by decide) (by decide) dX0_tell_11 ?_
  refine J_st (fun σ_2 eσ_2 => ?_)
  have h := h σ_2 eσ_2
  refine J_aln F 0 dX0_tell_12 rfl rfl ?_
  refine J_gfa F (ci := 0) 0 rfl inX0 ly_4 (by decide) (by decide) rfl lf_X0_9 rfl dX0_tell_13 ?_
  refine J_ic F dX0_tell_16 ki_1 ?_
  refine J_iln F 3 dX0_tell_17 rfl rfl ?_
  refine J_iastc F ly_5 (by decide) (by decide) dX0_tell_18 ?_
  refine J_st (fun σ_3 eσ_3 => ?_)
  have h := h σ_3 eσ_3
  refine J_aln F 0 dX0_tell_19 rfl rfl ?_
  refine J_gfa F (ci := 0) 0 rfl inX0 ly_4 (by decide) (by decide) rfl lf_X0_9 rfl dX0_tell_20 ?_
  refine J_ic F dX0_tell_23 ki_2 ?_
  refine J_il F 4 dX0_tell_24 rfl ?_
  refine J_iastc F ly_5 (by decide) (by decide) dX0_tell_26 ?_
  refine J_st (fun σ_4 eσ_4 => ?_)
  have h := h σ_4 eσ_4
  refine J_aln F 0 dX0_tell_27 rfl rfl ?_
  refine J_gfa F (ci := 0) 0 rfl inX0 ly_4 (by decide) (by decide) rfl lf_X0_9 rfl dX0_tell_28 ?_
  refine J_ic F dX0_tell_31 ki_3 ?_
  refine J_il F 5 dX0_tell_32 rfl ?_
  refine J_iastc F ly_5 (by decide) (by decide) dX0_tell_34 ?_
  refine J_st (fun σ_5 eσ_5 => ?_)
  have h := h σ_5 eσ_5
  exact J_retv F ⟨rfl, h⟩ dX0_tell_35
theorem dX1_copyFrom_0 : decode cX1_copyFrom 0 = .ok (.aload_n 0, 1) := by decide +kernel
theorem dX1_copyFrom_1 : decode cX1_copyFrom 1 = .ok (.aload_n 1, 1) := by decide +kernel
theorem dX1_copyFrom_2 : decode cX1_copyFrom 2 = .ok (.getfield 43, 3) := by decide +kernel
theorem dX1_copyFrom_5 : decode cX1_copyFrom 5 = .ok (.putfield 43, 3) := by decide +kernel
theorem dX1_copyFrom_8 : decode cX1_copyFrom 8 = .ok (.aload_n 0, 1) := by decide +kernel
theorem dX1_copyFrom_9 : decode cX1_copyFrom 9 = .ok (.aload_n 1, 1) := by decide +kernel
theorem dX1_copyFrom_10 : decode cX1_copyFrom 10 = .ok (.getfield 39, 3) := by decide +kernel
theorem dX1_copyFrom_13 : decode cX1_copyFrom 13 = .ok (.putfield 39, 3) := by decide +kernel
theorem dX1_copyFrom_16 : decode cX1_copyFrom 16 = .ok (.iconst 0, 1) := by decide +kernel
theorem dX1_copyFrom_17 : decode cX1_copyFrom 17 = .ok (.istore_n 2, 1) := by decide +kernel
theorem dX1_copyFrom_18 : decode cX1_copyFrom 18 = .ok (.iload_n 2, 1) := by decide +kernel
theorem dX1_copyFrom_19 : decode cX1_copyFrom 19 = .ok (.aload_n 0, 1) := by decide +kernel
theorem dX1_copyFrom_20 : decode cX1_copyFrom 20 = .ok (.getfield 43, 3) := by decide +kernel
theorem dX1_copyFrom_23 : decode cX1_copyFrom 23 = .ok (.if_icmp .ge 24, 3) := by decide +kernel
theorem dX1_copyFrom_26 : decode cX1_copyFrom 26 = .ok (.aload_n 0, 1) := by decide +kernel
theorem dX1_copyFrom_27 : decode cX1_copyFrom 27 = .ok (.getfield 11, 3) := by decide +kernel
theorem dX1_copyFrom_30 : decode cX1_copyFrom 30 = .ok (.iload_n 2, 1) := by decide +kernel
theorem dX1_copyFrom_31 : decode cX1_copyFrom 31 = .ok (.aaload, 1) := by decide +kernel
theorem dX1_copyFrom_32 : decode cX1_copyFrom 32 = .ok (.aload_n 1, 1) := by decide +kernel
theorem dX1_copyFrom_33 : decode cX1_copyFrom 33 = .ok (.getfield 11, 3) := by decide +kernel
theorem dX1_copyFrom_36 : decode cX1_copyFrom 36 = .ok (.iload_n 2, 1) := by decide +kernel
theorem dX1_copyFrom_37 : decode cX1_copyFrom 37 = .ok (.aaload, 1) := by decide +kernel
theorem dX1_copyFrom_38 : decode cX1_copyFrom 38 = .ok (.invokevirtual 53, 3) := by decide +kernel
theorem dX1_copyFrom_41 : decode cX1_copyFrom 41 = .ok (.iinc 2 1, 3) := by decide +kernel
theorem dX1_copyFrom_44 : decode cX1_copyFrom 44 = .ok (.goto (-26), 3) := by decide +kernel
theorem dX1_copyFrom_47 : decode cX1_copyFrom 47 = .ok (.aload_n 1, 1) := by decide +kernel
theorem dX1_copyFrom_48 : decode cX1_copyFrom 48 = .ok (.getfield 17, 3) := by decide +kernel
theorem dX1_copyFrom_51 : decode cX1_copyFrom 51 = .ok (.iconst 0, 1) := by decide +kernel
theorem dX1_copyFrom_52 : decode cX1_copyFrom 52 = .ok (.aload_n 0, 1) := by decide +kernel
theorem dX1_copyFrom_53 : decode cX1_copyFrom 53 = .ok (.getfield 17, 3) := by decide +kernel
theorem dX1_copyFrom_56 : decode cX1_copyFrom 56 = .ok (.iconst 0, 1) := by decide +kernel
theorem dX1_copyFrom_57 : decode cX1_copyFrom 57 = .ok (.bipush 10, 2) := by decide +kernel
theorem dX1_copyFrom_59 : decode cX1_copyFrom 59 = .ok (.invokestatic 57, 3) := by decide +kernel
theorem dX1_copyFrom_62 : decode cX1_copyFrom 62 = .ok (.aload_n 1, 1) := by decide +kernel
theorem dX1_copyFrom_63 : decode cX1_copyFrom 63 = .ok (.getfield 21, 3) := by decide +kernel
theorem dX1_copyFrom_66 : decode cX1_copyFrom 66 = .ok (.iconst 0, 1) := by decide +kernel
theorem dX1_copyFrom_67 : decode cX1_copyFrom 67 = .ok (.aload_n 0, 1) := by decide +kernel
theorem dX1_copyFrom_68 : decode cX1_copyFrom 68 = .ok (.getfield 21, 3) := by decide +kernel
theorem dX1_copyFrom_71 : decode cX1_copyFrom 71 = .ok (.iconst 0, 1) := by decide +kernel
theorem dX1_copyFrom_72 : decode cX1_copyFrom 72 = .ok (.bipush 10, 2) := by decide +kernel
theorem dX1_copyFrom_74 : decode cX1_copyFrom 74 = .ok (.invokestatic 57, 3) := by decide +kernel
theorem dX1_copyFrom_77 : decode cX1_copyFrom 77 = .ok (.aload_n 1, 1) := by decide +kernel
theorem dX1_copyFrom_78 : decode cX1_copyFrom 78 = .ok (.getfield 24, 3) := by decide +kernel
theorem dX1_copyFrom_81 : decode cX1_copyFrom 81 = .ok (.iconst 0, 1) := by decide +kernel
theorem dX1_copyFrom_82 : decode cX1_copyFrom 82 = .ok (.aload_n 0, 1) := by decide +kernel
theorem dX1_copyFrom_83 : decode cX1_copyFrom 83 = .ok (.getfield 24, 3) := by decide +kernel
theorem dX1_copyFrom_86 : decode cX1_copyFrom 86 = .ok (.iconst 0, 1) := by decide +kernel
theorem dX1_copyFrom_87 : decode cX1_copyFrom 87 = .ok (.bipush 10, 2) := by decide +kernel
theorem dX1_copyFrom_89 : decode cX1_copyFrom 89 = .ok (.invokestatic 57, 3) := by decide +kernel
theorem dX1_copyFrom_92 : decode cX1_copyFrom 92 = .ok (.aload_n 1, 1) := by decide +kernel
theorem dX1_copyFrom_93 : decode cX1_copyFrom 93 = .ok (.getfield 27, 3) := by decide +kernel
theorem dX1_copyFrom_96 : decode cX1_copyFrom 96 = .ok (.iconst 0, 1) := by decide +kernel
theorem dX1_copyFrom_97 : decode cX1_copyFrom 97 = .ok (.aload_n 0, 1) := by decide +kernel
theorem dX1_copyFrom_98 : decode cX1_copyFrom 98 = .ok (.getfield 27, 3) := by decide +kernel
theorem dX1_copyFrom_101 : decode cX1_copyFrom 101 = .ok (.iconst 0, 1) := by decide +kernel
theorem dX1_copyFrom_102 : decode cX1_copyFrom 102 = .ok (.iconst 3, 1) := by decide +kernel
theorem dX1_copyFrom_103 : decode cX1_copyFrom 103 = .ok (.invokestatic 57, 3) := by decide +kernel
theorem dX1_copyFrom_106 : decode cX1_copyFrom 106 = .ok (.aload_n 1, 1) := by decide +kernel
theorem dX1_copyFrom_107 : decode cX1_copyFrom 107 = .ok (.getfield 30, 3) := by decide +kernel
theorem dX1_copyFrom_110 : decode cX1_copyFrom 110 = .ok (.iconst 0, 1) := by decide +kernel
theorem dX1_copyFrom_111 : decode cX1_copyFrom 111 = .ok (.aload_n 0, 1) := by decide +kernel
theorem dX1_copyFrom_112 : decode cX1_copyFrom 112 = .ok (.getfield 30, 3) := by decide +kernel
theorem dX1_copyFrom_115 : decode cX1_copyFrom 115 = .ok (.iconst 0, 1) := by decide +kernel
theorem dX1_copyFrom_116 : decode cX1_copyFrom 116 = .ok (.iconst 3, 1) := by decide +kernel
theorem dX1_copyFrom_117 : decode cX1_copyFrom 117 = .ok (.invokestatic 57, 3) := by decide +kernel
theorem dX1_copyFrom_120 : decode cX1_copyFrom 120 = .ok (.aload_n 1, 1) := by decide +kernel
theorem dX1_copyFrom_121 : decode cX1_copyFrom 121 = .ok (.getfield 33, 3) := by decide +kernel
theorem dX1_copyFrom_124 : decode cX1_copyFrom 124 = .ok (.iconst 0, 1) := by decide +kernel
theorem dX1_copyFrom_125 : decode cX1_copyFrom 125 = .ok (.aload_n 0, 1) := by decide +kernel
theorem dX1_copyFrom_126 : decode cX1_copyFrom 126 = .ok (.getfield 33, 3) := by decide +kernel
theorem dX1_copyFrom_129 : decode cX1_copyFrom 129 = .ok (.iconst 0, 1) := by decide +kernel
theorem dX1_copyFrom_130 : decode cX1_copyFrom 130 = .ok (.bipush 100, 2) := by decide +kernel
theorem dX1_copyFrom_132 : decode cX1_copyFrom 132 = .ok (.invokestatic 57, 3) := by decide +kernel
theorem dX1_copyFrom_135 : decode cX1_copyFrom 135 = .ok (.aload_n 1, 1) := by decide +kernel
theorem dX1_copyFrom_136 : decode cX1_copyFrom 136 = .ok (.getfield 36, 3) := by decide +kernel
theorem dX1_copyFrom_139 : decode cX1_copyFrom 139 = .ok (.iconst 0, 1) := by decide +kernel
theorem dX1_copyFrom_140 : decode cX1_copyFrom 140 = .ok (.aload_n 0, 1) := by decide +kernel
theorem dX1_copyFrom_141 : decode cX1_copyFrom 141 = .ok (.getfield 36, 3) := by decide +kernel
theorem dX1_copyFrom_144 : decode cX1_copyFrom 144 = .ok (.iconst 0, 1) := by decide +kernel
theorem dX1_copyFrom_145 : decode cX1_copyFrom 145 = .ok (.bipush 100, 2) := by decide +kernel
theorem dX1_copyFrom_147 : decode cX1_copyFrom 147 = .ok (.invokestatic 57, 3) := by decide +kernel
theorem dX1_copyFrom_150 : decode cX1_copyFrom 150 = .ok (.return_, 1) := by decide +kernel
set_option maxRecDepth 20000 in
set_option maxHeartbeats 4000000 in
theorem wk_X1_copyFrom_47 {p : Program} {l : Launch} {e : Env} {s : State} {m : MethodId} {args : Array Value} {below : List Frame} {meth : Method} {c : Code} {G : Gp} {σ : St} {a0 : Nat} {a1 : Nat}  {Q : St → Prop} (F : FX p s m args meth c cX1_copyFrom 3 none RX1 G) (y0 : lay a0 = (1, 0)) (y1 : lay a1 = (1, 0))  (h : wp_X1_copyFrom_47 σ a0 a1 Q) : J p l e (rmF 2 85) s m args below meth c 3 G (MQ below (QQ G (qV Q)) args s 0 0 (fr G)) 0 0 47 [(0, .ref (gb G + a0)), (1, .ref (gb G + a1))] [] σ := by
  unfold wp_X1_copyFrom_47 at h
  refine J_aln F 1 dX1_copyFrom_47 rfl rfl ?_
  refine J_gfr F (ci := 1) 1 rfl inX1 y1 (by decide) (by decide) rfl lf_X1_17 rfl dX1_copyFrom_48 ?_
  refine J_ic F dX1_copyFrom_51 ki_0 ?_
  refine J_aln F 0 dX1_copyFrom_52 rfl rfl ?_
  refine J_gfr F (ci := 1) 1 rfl inX1 y0 (by decide) (by decide) rfl lf_X1_17 rfl dX1_copyFrom_53 ?_
  refine J_ic F dX1_copyFrom_56 ki_0 ?_
  refine J_bi F dX1_copyFrom_57 kb_10 ?_
  refine J_copy F (lay_net y1).2.1 (lay_net y0).2.1 nI_0 rfl (by decide) lm_X1_57 na_copy st_copy ini_Sys (by decide) (Nat.le_of_ble_eq_true rfl) dX1_copyFrom_59 ?_
  refine J_st (fun σ_1 eσ_1 => ?_)
  have h := h σ_1 eσ_1
  refine J_aln F 1 dX1_copyFrom_62 rfl rfl ?_
  refine J_gfr F (ci := 1) 2 rfl inX1 y1 (by decide) (by decide) rfl lf_X1_21 rfl dX1_copyFrom_63 ?_
  refine J_ic F dX1_copyFrom_66 ki_0 ?_
  refine J_aln F 0 dX1_copyFrom_67 rfl rfl ?_
  refine J_gfr F (ci := 1) 2 rfl inX1 y0 (by decide) (by decide) rfl lf_X1_21 rfl dX1_copyFrom_68 ?_
  refine J_ic F dX1_copyFrom_71 ki_0 ?_
  refine J_bi F dX1_copyFrom_72 kb_10 ?_
  refine J_copy F (lay_net y1).2.2.1 (lay_net y0).2.2.1 nI_0 rfl (by decide) lm_X1_57 na_copy st_copy ini_Sys (by decide) (Nat.le_of_ble_eq_true rfl) dX1_copyFrom_74 ?_
  refine J_st (fun σ_2 eσ_2 => ?_)
  have h := h σ_2 eσ_2
  refine J_aln F 1 dX1_copyFrom_77 rfl rfl ?_
  refine J_gfr F (ci := 1) 3 rfl inX1 y1 (by decide) (by decide) rfl lf_X1_24 rfl dX1_copyFrom_78 ?_
  refine J_ic F dX1_copyFrom_81 ki_0 ?_
  refine J_aln F 0 dX1_copyFrom_82 rfl rfl ?_
  refine J_gfr F (ci := 1) 3 rfl inX1 y0 (by decide) (by decide) rfl lf_X1_24 rfl dX1_copyFrom_83 ?_
  refine J_ic F dX1_copyFrom_86 ki_0 ?_
  refine J_bi F dX1_copyFrom_87 kb_10 ?_
  refine J_copy F (lay_net y1).2.2.2.1 (lay_net y0).2.2.2.1 nI_0 rfl (by decide) lm_X1_57 na_copy st_copy ini_Sys (by decide) (Nat.le_of_ble_eq_true rfl) dX1_copyFrom_89 ?_
  refine J_st (fun σ_3 eσ_3 => ?_)
  have h := h σ_3 eσ_3
  refine J_aln F 1 dX1_copyFrom_92 rfl rfl ?_
  refine J_gfr F (ci := 1) 4 rfl inX1 y1 (by decide) (by decide) rfl lf_X1_27 rfl dX1_copyFrom_93 ?_
  refine J_ic F dX1_copyFrom_96 ki_0 ?_
  refine J_aln F 0 dX1_copyFrom_97 rfl rfl ?_
  refine J_gfr F (ci := 1) 4 rfl inX1 y0 (by decide) (by decide) rfl lf_X1_27 rfl dX1_copyFrom_98 ?_
  refine J_ic F dX1_copyFrom_101 ki_0 ?_
  refine J_ic F dX1_copyFrom_102 ki_3 ?_
  refine J_copy F (lay_net y1).2.2.2.2.1 (lay_net y0).2.2.2.2.1 nI_0 rfl (by decide) lm_X1_57 na_copy st_copy ini_Sys (by decide) (Nat.le_of_ble_eq_true rfl) dX1_copyFrom_103 ?_
  refine J_st (fun σ_4 eσ_4 => ?_)
  have h := h σ_4 eσ_4
  refine J_aln F 1 dX1_copyFrom_106 rfl rfl ?_
  refine J_gfr F (ci := 1) 5 rfl inX1 y1 (by decide) (by decide) rfl lf_X1_30 rfl dX1_copyFrom_107 ?_
  refine J_ic F dX1_copyFrom_110 ki_0 ?_
  refine J_aln F 0 dX1_copyFrom_111 rfl rfl ?_
  refine J_gfr F (ci := 1) 5 rfl inX1 y0 (by decide) (by decide) rfl lf_X1_30 rfl dX1_copyFrom_112 ?_
  refine J_ic F dX1_copyFrom_115 ki_0 ?_
  refine J_ic F dX1_copyFrom_116 ki_3 ?_
  refine J_copy F (lay_net y1).2.2.2.2.2.1 (lay_net y0).2.2.2.2.2.1 nI_0 rfl (by decide) lm_X1_57 na_copy st_copy ini_Sys (by decide) (Nat.le_of_ble_eq_true rfl) dX1_copyFrom_117 ?_
  refine J_st (fun σ_5 eσ_5 => ?_)
  have h := h σ_5 eσ_5
  refine J_aln F 1 dX1_copyFrom_120 rfl rfl ?_
  refine J_gfr F (ci := 1) 6 rfl inX1 y1 (by decide) (by decide) rfl lf_X1_33 rfl dX1_copyFrom_121 ?_
  refine J_ic F dX1_copyFrom_124 ki_0 ?_
  refine J_aln F 0 dX1_copyFrom_125 rfl rfl ?_
  refine J_gfr F (ci := 1) 6 rfl inX1 y0 (by decide) (by decide) rfl lf_X1_33 rfl dX1_copyFrom_126 ?_
  refine J_ic F dX1_copyFrom_129 ki_0 ?_
  refine J_bi F dX1_copyFrom_130 kb_100 ?_
  refine J_copy F (lay_net y1).2.2.2.2.2.2.1 (lay_net y0).2.2.2.2.2.2.1 nI_0 rfl (by decide) lm_X1_57 na_copy st_copy ini_Sys (by decide) (Nat.le_of_ble_eq_true rfl) dX1_copyFrom_132 ?_
  refine J_st (fun σ_6 eσ_6 => ?_)
  have h := h σ_6 eσ_6
  refine J_aln F 1 dX1_copyFrom_135 rfl rfl ?_
  refine J_gfr F (ci := 1) 7 rfl inX1 y1 (by decide) (by decide) rfl lf_X1_36 rfl dX1_copyFrom_136 ?_
  refine J_ic F dX1_copyFrom_139 ki_0 ?_
  refine J_aln F 0 dX1_copyFrom_140 rfl rfl ?_
  refine J_gfr F (ci := 1) 7 rfl inX1 y0 (by decide) (by decide) rfl lf_X1_36 rfl dX1_copyFrom_141 ?_
  refine J_ic F dX1_copyFrom_144 ki_0 ?_
  refine J_bi F dX1_copyFrom_145 kb_100 ?_
  refine J_copy F (lay_net y1).2.2.2.2.2.2.2.1 (lay_net y0).2.2.2.2.2.2.2.1 nI_0 rfl (by decide) lm_X1_57 na_copy st_copy ini_Sys (by decide) (Nat.le_of_ble_eq_true rfl) dX1_copyFrom_147 ?_
  refine J_st (fun σ_7 eσ_7 => ?_)
  have h := h σ_7 eσ_7
  exact J_retv F ⟨rfl, h⟩ dX1_copyFrom_150
set_option maxRecDepth 20000 in
set_option maxHeartbeats 4000000 in
theorem wk_X1_copyFrom_18 {p : Program} {l : Launch} {e : Env} {s : State} {m : MethodId} {args : Array Value} {below : List Frame} {meth : Method} {c : Code} {G : Gp} {a0 : Nat} {a1 : Nat}  {Q : St → Prop} (F : FX p s m args meth c cX1_copyFrom 3 none RX1 G) (y0 : lay a0 = (1, 0)) (y1 : lay a1 = (1, 0))  : ∀ (n9 : Nat) (σ : St) (x2 : Int32), LP2 (wp_X1_copyFrom_18 a0 a1 Q) n9 σ x2 → J p l e (rmF 2 85) s m args below meth c 3 G (MQ below (QQ G (qV Q)) args s 0 0 (fr G)) 0 0 18 [(0, .ref (gb G + a0)), (1, .ref (gb G + a1)), (2, .int x2)] [] σ := by
  intro n9
  induction n9 with
  | zero => intro σ x2 h; exact h.elim
  | succ n9 i18 =>
    intro σ x2 h
    have h : wp_X1_copyFrom_18 a0 a1 Q (LP2 (wp_X1_copyFrom_18 a0 a1 Q) n9) σ x2 := h
    unfold wp_X1_copyFrom_18 at h
    refine J_iln F 2 dX1_copyFrom_18 rfl rfl ?_
    refine J_aln F 0 dX1_copyFrom_19 rfl rfl ?_
    refine J_gfi F (ci := 1) 9 rfl inX1 y0 (by decide) (by decide) rfl lf_X1_43 rfl dX1_copyFrom_20 ?_
    refine J_cge F (tgt := 47) dX1_copyFrom_23 (by decide) (fun c_8 => ?_) (fun c_8 => ?_)
    · have h := h.1 c_8
      refine J_sub [0, 1] rfl ?_
      exact wk_X1_copyFrom_47 F y0 y1 h
    · have h := h.2 c_8
      refine J_aln F 0 dX1_copyFrom_26 rfl rfl ?_
      refine J_gfr F (ci := 1) 0 rfl inX1 y0 (by decide) (by decide) rfl lf_X1_11 rfl dX1_copyFrom_27 ?_
      refine J_iln F 2 dX1_copyFrom_30 rfl rfl ?_
      obtain ⟨h_9, h⟩ := h
      refine J_aldS F (lay_net y0).1 h_9 dX1_copyFrom_31 ?_
      refine J_aln F 1 dX1_copyFrom_32 rfl rfl ?_
      refine J_gfr F (ci := 1) 0 rfl inX1 y1 (by decide) (by decide) rfl lf_X1_11 rfl dX1_copyFrom_33 ?_
      refine J_iln F 2 dX1_copyFrom_36 rfl rfl ?_
      obtain ⟨h_10, h⟩ := h
      refine J_aldS F (lay_net y1).1 h_10 dX1_copyFrom_37 ?_
      refine J_callVv F (As := [.ref (gb G + (a1 + 1 + 8 + 4 * Int32.toNatClampNeg x2))]) (st := []) (C_X4_copyFrom l G (a0 + 1 + 8 + 4 * Int32.toNatClampNeg x2) (a1 + 1 + 8 + 4 * Int32.toNatClampNeg x2) (lay_sp y0 h_9) (lay_sp y1 h_10) h) (ci := 4) (lay_sp y0 h_9) (by decide) rfl rfl lm_X1_53 li_X4_copyFrom ls_X4_copyFrom ini_X4 lc_X4_copyFrom hd_X4_copyFrom (by decide) (Nat.le_of_ble_eq_true rfl) (by decide) rfl dX1_copyFrom_38 (fun σ_11 h => ?_)
      obtain ⟨x2_12, ex2_12⟩ : ∃ z : Int32, z = x2 + (nI 1) := ⟨_, rfl⟩
      have h := h x2_12 ex2_12
      refine J_iinc F (v := x2_12) (L' := [(2, .int x2_12), (0, .ref (gb G + a0)), (1, .ref (gb G + a1))]) 2 dX1_copyFrom_41 rfl (by rw [ki_1, ex2_12]) (by decide) rfl ?_
      refine J_goto F (tgt := 18) dX1_copyFrom_44 (by decide) ?_
      refine J_sub [1, 2, 0] rfl ?_
      exact i18 _ _ h
set_option maxRecDepth 20000 in
set_option maxHeartbeats 4000000 in
theorem C_X1_copyFrom (l : Launch) (G : Gp) (a0 : Nat) (a1 : Nat) (y0 : lay a0 = (1, 0)) (y1 : lay a1 = (1, 0)) {σ : St} {Q : St → Prop} (h : wp_X1_copyFrom σ a0 a1 Q) : Cn l yX1_copyFrom cX1_copyFrom 3 none 2 85 G [.ref (gb G + a0), .ref (gb G + a1)] σ (qV Q) := by
  refine Cn_of (L := [(0, .ref (gb G + a0)), (1, .ref (gb G + a1))]) RX1 (by decide) rfl (Nat.le_of_ble_eq_true rfl) rfl ?_
  intro p e s m below meth c F
  unfold wp_X1_copyFrom at h
  refine J_aln F 0 dX1_copyFrom_0 rfl rfl ?_
  refine J_aln F 1 dX1_copyFrom_1 rfl rfl ?_
  refine J_gfi F (ci := 1) 9 rfl inX1 y1 (by decide) (by decide) rfl lf_X1_43 rfl dX1_copyFrom_2 ?_
  refine J_pfi F (ci := 1) 9 rfl inX1 tyX1 tyX1_ok nmX1 y0 (by decide) (by decide) rfl lf_X1_43 rfl rfl (tyX1_ok 9 (by decide)) rfl rfl dX1_copyFrom_5 ?_
  refine J_st (fun σ_13 eσ_13 => ?_)
  have h := h σ_13 eσ_13
  refine J_aln F 0 dX1_copyFrom_8 rfl rfl ?_
  refine J_aln F 1 dX1_copyFrom_9 rfl rfl ?_
  refine J_gfi F (ci := 1) 8 rfl inX1 y1 (by decide) (by decide) rfl lf_X1_39 rfl dX1_copyFrom_10 ?_
  refine J_pfi F (ci := 1) 8 rfl inX1 tyX1 tyX1_ok nmX1 y0 (by decide) (by decide) rfl lf_X1_39 rfl rfl (tyX1_ok 8 (by decide)) rfl rfl dX1_copyFrom_13 ?_
  refine J_st (fun σ_14 eσ_14 => ?_)
  have h := h σ_14 eσ_14
  refine J_ic F dX1_copyFrom_16 ki_0 ?_
  refine J_isn F (L' := [(2, .int (nI 0)), (0, .ref (gb G + a0)), (1, .ref (gb G + a1))]) dX1_copyFrom_17 rfl (by decide) rfl ?_
  refine J_sub [1, 2, 0] rfl ?_
  obtain ⟨n9, h⟩ := h
  exact wk_X1_copyFrom_18 F y0 y1 n9 _ _ h
theorem dX1_leastNodeAway_0 : decode cX1_leastNodeAway 0 = .ok (.iconst 0, 1) := by decide +kernel
theorem dX1_leastNodeAway_1 : decode cX1_leastNodeAway 1 = .ok (.istore_n 1, 1) := by decide +kernel
theorem dX1_leastNodeAway_2 : decode cX1_leastNodeAway 2 = .ok (.iload_n 1, 1) := by decide +kernel
theorem dX1_leastNodeAway_3 : decode cX1_leastNodeAway 3 = .ok (.bipush 10, 2) := by decide +kernel
theorem dX1_leastNodeAway_5 : decode cX1_leastNodeAway 5 = .ok (.if_icmp .ge 20, 3) := by decide +kernel
theorem dX1_leastNodeAway_8 : decode cX1_leastNodeAway 8 = .ok (.aload_n 0, 1) := by decide +kernel
theorem dX1_leastNodeAway_9 : decode cX1_leastNodeAway 9 = .ok (.getfield 17, 3) := by decide +kernel
theorem dX1_leastNodeAway_12 : decode cX1_leastNodeAway 12 = .ok (.iload_n 1, 1) := by decide +kernel
theorem dX1_leastNodeAway_13 : decode cX1_leastNodeAway 13 = .ok (.iaload, 1) := by decide +kernel
theorem dX1_leastNodeAway_14 : decode cX1_leastNodeAway 14 = .ok (.ifCond .ne 5, 3) := by decide +kernel
theorem dX1_leastNodeAway_17 : decode cX1_leastNodeAway 17 = .ok (.iload_n 1, 1) := by decide +kernel
theorem dX1_leastNodeAway_18 : decode cX1_leastNodeAway 18 = .ok (.ireturn, 1) := by decide +kernel
theorem dX1_leastNodeAway_19 : decode cX1_leastNodeAway 19 = .ok (.iinc 1 1, 3) := by decide +kernel
theorem dX1_leastNodeAway_22 : decode cX1_leastNodeAway 22 = .ok (.goto (-20), 3) := by decide +kernel
theorem dX1_leastNodeAway_25 : decode cX1_leastNodeAway 25 = .ok (.iconst (-1), 1) := by decide +kernel
theorem dX1_leastNodeAway_26 : decode cX1_leastNodeAway 26 = .ok (.ireturn, 1) := by decide +kernel
set_option maxRecDepth 20000 in
set_option maxHeartbeats 4000000 in
theorem wk_X1_leastNodeAway_2 {p : Program} {l : Launch} {e : Env} {s : State} {m : MethodId} {args : Array Value} {below : List Frame} {meth : Method} {c : Code} {G : Gp} {σ : St} {a0 : Nat}  {Q : Int32 → Prop} (F : FX p s m args meth c cX1_leastNodeAway 2 (some .int) RX1 G) (y0 : lay a0 = (1, 0))  : ∀ (n9 : Nat) (x1 : Int32), LP1 (wp_X1_leastNodeAway_2 σ a0 Q) n9 x1 → J p l e (rmF 0 0) s m args below meth c 2 G (MQ below (QQ G (qI (fun r σ' => σ' = σ ∧ Q r))) args s 0 0 (fr G)) 0 0 2 [(0, .ref (gb G + a0)), (1, .int x1)] [] σ := by
  intro n9
  induction n9 with
  | zero => intro x1 h; exact h.elim
  | succ n9 i2 =>
    intro x1 h
    have h : wp_X1_leastNodeAway_2 σ a0 Q (LP1 (wp_X1_leastNodeAway_2 σ a0 Q) n9) x1 := h
    unfold wp_X1_leastNodeAway_2 at h
    refine J_iln F 1 dX1_leastNodeAway_2 rfl rfl ?_
    refine J_bi F dX1_leastNodeAway_3 kb_10 ?_
    refine J_cge F (tgt := 25) dX1_leastNodeAway_5 (by decide) (fun c_1 => ?_) (fun c_1 => ?_)
    · have h := h.1 c_1
      refine J_ic F dX1_leastNodeAway_25 ki_m1 ?_
      exact J_reti F ⟨_, rfl, rfl, h⟩ dX1_leastNodeAway_26
    · have h := h.2 c_1
      refine J_aln F 0 dX1_leastNodeAway_8 rfl rfl ?_
      refine J_gfr F (ci := 1) 1 rfl inX1 y0 (by decide) (by decide) rfl lf_X1_17 rfl dX1_leastNodeAway_9 ?_
      refine J_iln F 1 dX1_leastNodeAway_12 rfl rfl ?_
      obtain ⟨h_2, h⟩ := h
      refine J_iald F (lay_net y0).2.1 h_2 dX1_leastNodeAway_13 ?_
      refine J_zne F (tgt := 19) dX1_leastNodeAway_14 (by decide) (fun c_3 => ?_) (fun c_3 => ?_)
      · have h := h.1 c_3
        obtain ⟨x1_4, ex1_4⟩ : ∃ z : Int32, z = x1 + (nI 1) := ⟨_, rfl⟩
        have h := h x1_4 ex1_4
        refine J_iinc F (v := x1_4) (L' := [(1, .int x1_4), (0, .ref (gb G + a0))]) 1 dX1_leastNodeAway_19 rfl (by rw [ki_1, ex1_4]) (by decide) rfl ?_
        refine J_goto F (tgt := 2) dX1_leastNodeAway_22 (by decide) ?_
        refine J_sub [1, 0] rfl ?_
        exact i2 _ h
      · have h := h.2 c_3
        refine J_iln F 1 dX1_leastNodeAway_17 rfl rfl ?_
        exact J_reti F ⟨_, rfl, rfl, h⟩ dX1_leastNodeAway_18
set_option maxRecDepth 20000 in
set_option maxHeartbeats 4000000 in
theorem C_X1_leastNodeAway (l : Launch) (G : Gp) (a0 : Nat) (y0 : lay a0 = (1, 0)) {σ : St} {Q : Int32 → Prop} (h : wp_X1_leastNodeAway σ a0 Q) : Cn l yX1_leastNodeAway cX1_leastNodeAway 2 (some .int) 0 0 G [.ref (gb G + a0)] σ (qI (fun r σ' => σ' = σ ∧ Q r)) := by
  refine Cn_of (L := [(0, .ref (gb G + a0))]) RX1 (by decide) rfl (Nat.le_of_ble_eq_true rfl) rfl ?_
  intro p e s m below meth c F
  unfold wp_X1_leastNodeAway at h
  refine J_ic F dX1_leastNodeAway_0 ki_0 ?_
  refine J_isn F (L' := [(1, .int (nI 0)), (0, .ref (gb G + a0))]) dX1_leastNodeAway_1 rfl (by decide) rfl ?_
  refine J_sub [1, 0] rfl ?_
  obtain ⟨n9, h⟩ := h
  exact wk_X1_leastNodeAway_2 F y0 n9 _ h
theorem dX1_refusalOfJoin_0 : decode cX1_refusalOfJoin 0 = .ok (.aload_n 0, 1) := by decide +kernel
theorem dX1_refusalOfJoin_1 : decode cX1_refusalOfJoin 1 = .ok (.invokevirtual 91, 3) := by decide +kernel
theorem dX1_refusalOfJoin_4 : decode cX1_refusalOfJoin 4 = .ok (.iconst (-1), 1) := by decide +kernel
theorem dX1_refusalOfJoin_5 : decode cX1_refusalOfJoin 5 = .ok (.if_icmp .ne 5, 3) := by decide +kernel
theorem dX1_refusalOfJoin_8 : decode cX1_refusalOfJoin 8 = .ok (.iconst 1, 1) := by decide +kernel
theorem dX1_refusalOfJoin_9 : decode cX1_refusalOfJoin 9 = .ok (.ireturn, 1) := by decide +kernel
theorem dX1_refusalOfJoin_10 : decode cX1_refusalOfJoin 10 = .ok (.iconst 0, 1) := by decide +kernel
theorem dX1_refusalOfJoin_11 : decode cX1_refusalOfJoin 11 = .ok (.istore_n 3, 1) := by decide +kernel
theorem dX1_refusalOfJoin_12 : decode cX1_refusalOfJoin 12 = .ok (.iload_n 3, 1) := by decide +kernel
theorem dX1_refusalOfJoin_13 : decode cX1_refusalOfJoin 13 = .ok (.aload_n 0, 1) := by decide +kernel
theorem dX1_refusalOfJoin_14 : decode cX1_refusalOfJoin 14 = .ok (.getfield 43, 3) := by decide +kernel
theorem dX1_refusalOfJoin_17 : decode cX1_refusalOfJoin 17 = .ok (.if_icmp .ge 38, 3) := by decide +kernel
theorem dX1_refusalOfJoin_20 : decode cX1_refusalOfJoin 20 = .ok (.aload_n 0, 1) := by decide +kernel
theorem dX1_refusalOfJoin_21 : decode cX1_refusalOfJoin 21 = .ok (.getfield 11, 3) := by decide +kernel
theorem dX1_refusalOfJoin_24 : decode cX1_refusalOfJoin 24 = .ok (.iload_n 3, 1) := by decide +kernel
theorem dX1_refusalOfJoin_25 : decode cX1_refusalOfJoin 25 = .ok (.aaload, 1) := by decide +kernel
theorem dX1_refusalOfJoin_26 : decode cX1_refusalOfJoin 26 = .ok (.iload_n 1, 1) := by decide +kernel
theorem dX1_refusalOfJoin_27 : decode cX1_refusalOfJoin 27 = .ok (.bipush 11, 2) := by decide +kernel
theorem dX1_refusalOfJoin_29 : decode cX1_refusalOfJoin 29 = .ok (.iload_n 3, 1) := by decide +kernel
theorem dX1_refusalOfJoin_30 : decode cX1_refusalOfJoin 30 = .ok (.imul, 1) := by decide +kernel
theorem dX1_refusalOfJoin_31 : decode cX1_refusalOfJoin 31 = .ok (.iadd, 1) := by decide +kernel
theorem dX1_refusalOfJoin_32 : decode cX1_refusalOfJoin 32 = .ok (.iload_n 2, 1) := by decide +kernel
theorem dX1_refusalOfJoin_33 : decode cX1_refusalOfJoin 33 = .ok (.bipush 7, 2) := by decide +kernel
theorem dX1_refusalOfJoin_35 : decode cX1_refusalOfJoin 35 = .ok (.iload_n 3, 1) := by decide +kernel
theorem dX1_refusalOfJoin_36 : decode cX1_refusalOfJoin 36 = .ok (.imul, 1) := by decide +kernel
theorem dX1_refusalOfJoin_37 : decode cX1_refusalOfJoin 37 = .ok (.iadd, 1) := by decide +kernel
theorem dX1_refusalOfJoin_38 : decode cX1_refusalOfJoin 38 = .ok (.invokevirtual 95, 3) := by decide +kernel
theorem dX1_refusalOfJoin_41 : decode cX1_refusalOfJoin 41 = .ok (.sipush 1024, 3) := by decide +kernel
theorem dX1_refusalOfJoin_44 : decode cX1_refusalOfJoin 44 = .ok (.if_icmp .lt 5, 3) := by decide +kernel
theorem dX1_refusalOfJoin_47 : decode cX1_refusalOfJoin 47 = .ok (.iconst 2, 1) := by decide +kernel
theorem dX1_refusalOfJoin_48 : decode cX1_refusalOfJoin 48 = .ok (.ireturn, 1) := by decide +kernel
theorem dX1_refusalOfJoin_49 : decode cX1_refusalOfJoin 49 = .ok (.iinc 3 1, 3) := by decide +kernel
theorem dX1_refusalOfJoin_52 : decode cX1_refusalOfJoin 52 = .ok (.goto (-40), 3) := by decide +kernel
theorem dX1_refusalOfJoin_55 : decode cX1_refusalOfJoin 55 = .ok (.iconst 0, 1) := by decide +kernel
theorem dX1_refusalOfJoin_56 : decode cX1_refusalOfJoin 56 = .ok (.istore_n 3, 1) := by decide +kernel
theorem dX1_refusalOfJoin_57 : decode cX1_refusalOfJoin 57 = .ok (.iload_n 3, 1) := by decide +kernel
theorem dX1_refusalOfJoin_58 : decode cX1_refusalOfJoin 58 = .ok (.aload_n 0, 1) := by decide +kernel
theorem dX1_refusalOfJoin_59 : decode cX1_refusalOfJoin 59 = .ok (.getfield 43, 3) := by decide +kernel
theorem dX1_refusalOfJoin_62 : decode cX1_refusalOfJoin 62 = .ok (.if_icmp .ge 51, 3) := by decide +kernel
theorem dX1_refusalOfJoin_65 : decode cX1_refusalOfJoin 65 = .ok (.aload_n 0, 1) := by decide +kernel
theorem dX1_refusalOfJoin_66 : decode cX1_refusalOfJoin 66 = .ok (.getfield 11, 3) := by decide +kernel
theorem dX1_refusalOfJoin_69 : decode cX1_refusalOfJoin 69 = .ok (.iload_n 3, 1) := by decide +kernel
theorem dX1_refusalOfJoin_70 : decode cX1_refusalOfJoin 70 = .ok (.aaload, 1) := by decide +kernel
theorem dX1_refusalOfJoin_71 : decode cX1_refusalOfJoin 71 = .ok (.iload_n 1, 1) := by decide +kernel
theorem dX1_refusalOfJoin_72 : decode cX1_refusalOfJoin 72 = .ok (.bipush 11, 2) := by decide +kernel
theorem dX1_refusalOfJoin_74 : decode cX1_refusalOfJoin 74 = .ok (.iload_n 3, 1) := by decide +kernel
theorem dX1_refusalOfJoin_75 : decode cX1_refusalOfJoin 75 = .ok (.imul, 1) := by decide +kernel
theorem dX1_refusalOfJoin_76 : decode cX1_refusalOfJoin 76 = .ok (.iadd, 1) := by decide +kernel
theorem dX1_refusalOfJoin_77 : decode cX1_refusalOfJoin 77 = .ok (.iload_n 2, 1) := by decide +kernel
theorem dX1_refusalOfJoin_78 : decode cX1_refusalOfJoin 78 = .ok (.bipush 7, 2) := by decide +kernel
theorem dX1_refusalOfJoin_80 : decode cX1_refusalOfJoin 80 = .ok (.iload_n 3, 1) := by decide +kernel
theorem dX1_refusalOfJoin_81 : decode cX1_refusalOfJoin 81 = .ok (.imul, 1) := by decide +kernel
theorem dX1_refusalOfJoin_82 : decode cX1_refusalOfJoin 82 = .ok (.iadd, 1) := by decide +kernel
theorem dX1_refusalOfJoin_83 : decode cX1_refusalOfJoin 83 = .ok (.invokevirtual 98, 3) := by decide +kernel
theorem dX1_refusalOfJoin_86 : decode cX1_refusalOfJoin 86 = .ok (.istore 4, 2) := by decide +kernel
theorem dX1_refusalOfJoin_88 : decode cX1_refusalOfJoin 88 = .ok (.iload 4, 2) := by decide +kernel
theorem dX1_refusalOfJoin_90 : decode cX1_refusalOfJoin 90 = .ok (.iconst (-1), 1) := by decide +kernel
theorem dX1_refusalOfJoin_91 : decode cX1_refusalOfJoin 91 = .ok (.if_icmp .eq 16, 3) := by decide +kernel
theorem dX1_refusalOfJoin_94 : decode cX1_refusalOfJoin 94 = .ok (.aload_n 0, 1) := by decide +kernel
theorem dX1_refusalOfJoin_95 : decode cX1_refusalOfJoin 95 = .ok (.getfield 17, 3) := by decide +kernel
theorem dX1_refusalOfJoin_98 : decode cX1_refusalOfJoin 98 = .ok (.iload 4, 2) := by decide +kernel
theorem dX1_refusalOfJoin_100 : decode cX1_refusalOfJoin 100 = .ok (.iaload, 1) := by decide +kernel
theorem dX1_refusalOfJoin_101 : decode cX1_refusalOfJoin 101 = .ok (.iconst 2, 1) := by decide +kernel
theorem dX1_refusalOfJoin_102 : decode cX1_refusalOfJoin 102 = .ok (.if_icmp .ne 5, 3) := by decide +kernel
theorem dX1_refusalOfJoin_105 : decode cX1_refusalOfJoin 105 = .ok (.iconst 3, 1) := by decide +kernel
theorem dX1_refusalOfJoin_106 : decode cX1_refusalOfJoin 106 = .ok (.ireturn, 1) := by decide +kernel
theorem dX1_refusalOfJoin_107 : decode cX1_refusalOfJoin 107 = .ok (.iinc 3 1, 3) := by decide +kernel
theorem dX1_refusalOfJoin_110 : decode cX1_refusalOfJoin 110 = .ok (.goto (-53), 3) := by decide +kernel
theorem dX1_refusalOfJoin_113 : decode cX1_refusalOfJoin 113 = .ok (.iconst 0, 1) := by decide +kernel
theorem dX1_refusalOfJoin_114 : decode cX1_refusalOfJoin 114 = .ok (.ireturn, 1) := by decide +kernel
set_option maxRecDepth 20000 in
set_option maxHeartbeats 4000000 in
theorem wk_X1_refusalOfJoin_57 {p : Program} {l : Launch} {e : Env} {s : State} {m : MethodId} {args : Array Value} {below : List Frame} {meth : Method} {c : Code} {G : Gp} {σ : St} {a0 : Nat} {x1 : Int32} {x2 : Int32}  {Q : Int32 → Prop} (F : FX p s m args meth c cX1_refusalOfJoin 5 (some .int) RX1 G) (y0 : lay a0 = (1, 0))  : ∀ (n9 : Nat) (x3 : Int32), LP1 (wp_X1_refusalOfJoin_57 σ a0 x1 x2 Q) n9 x3 → J p l e (rmF 2 46) s m args below meth c 5 G (MQ below (QQ G (qI (fun r σ' => σ' = σ ∧ Q r))) args s 0 0 (fr G)) 0 0 57 [(0, .ref (gb G + a0)), (1, .int x1), (2, .int x2), (3, .int x3)] [] σ := by
  intro n9
  induction n9 with
  | zero => intro x3 h; exact h.elim
  | succ n9 i57 =>
    intro x3 h
    have h : wp_X1_refusalOfJoin_57 σ a0 x1 x2 Q (LP1 (wp_X1_refusalOfJoin_57 σ a0 x1 x2 Q) n9) x3 := h
    unfold wp_X1_refusalOfJoin_57 at h
    refine J_iln F 3 dX1_refusalOfJoin_57 rfl rfl ?_
    refine J_aln F 0 dX1_refusalOfJoin_58 rfl rfl ?_
    refine J_gfi F (ci := 1) 9 rfl inX1 y0 (by decide) (by decide) rfl lf_X1_43 rfl dX1_refusalOfJoin_59 ?_
    refine J_cge F (tgt := 113) dX1_refusalOfJoin_62 (by decide) (fun c_1 => ?_) (fun c_1 => ?_)
    · have h := h.1 c_1
      refine J_ic F dX1_refusalOfJoin_113 ki_0 ?_
      exact J_reti F ⟨_, rfl, rfl, h⟩ dX1_refusalOfJoin_114
    · have h := h.2 c_1
      refine J_aln F 0 dX1_refusalOfJoin_65 rfl rfl ?_
      refine J_gfr F (ci := 1) 0 rfl inX1 y0 (by decide) (by decide) rfl lf_X1_11 rfl dX1_refusalOfJoin_66 ?_
      refine J_iln F 3 dX1_refusalOfJoin_69 rfl rfl ?_
      obtain ⟨h_2, h⟩ := h
      refine J_aldS F (lay_net y0).1 h_2 dX1_refusalOfJoin_70 ?_
      refine J_iln F 1 dX1_refusalOfJoin_71 rfl rfl ?_
      refine J_bi F dX1_refusalOfJoin_72 kb_11 ?_
      refine J_iln F 3 dX1_refusalOfJoin_74 rfl rfl ?_
      refine J_imul F dX1_refusalOfJoin_75 ?_
      refine J_iadd F dX1_refusalOfJoin_76 ?_
      refine J_iln F 2 dX1_refusalOfJoin_77 rfl rfl ?_
      refine J_bi F dX1_refusalOfJoin_78 kb_7 ?_
      refine J_iln F 3 dX1_refusalOfJoin_80 rfl rfl ?_
      refine J_imul F dX1_refusalOfJoin_81 ?_
      refine J_iadd F dX1_refusalOfJoin_82 ?_
      refine J_callVi F (As := [.int (x1 + ((nI 11) * x3)), .int (x2 + ((nI 7) * x3))]) (st := []) (C_X4_nodeAt l G (a0 + 1 + 8 + 4 * Int32.toNatClampNeg x3) (x1 + ((nI 11) * x3)) (x2 + ((nI 7) * x3)) (lay_sp y0 h_2) h) (ci := 4) (lay_sp y0 h_2) (by decide) rfl rfl lm_X1_98 li_X4_nodeAt ls_X4_nodeAt ini_X4 lc_X4_nodeAt hd_X4_nodeAt (by decide) (Nat.le_of_ble_eq_true rfl) (by decide) rfl dX1_refusalOfJoin_83 (fun r_3 σ_4 hh => ?_)
      clear h
      obtain ⟨e9, h⟩ := hh
      subst σ_4
      refine J_is F (L' := [(4, .int r_3), (0, .ref (gb G + a0)), (1, .int x1), (2, .int x2), (3, .int x3)]) dX1_refusalOfJoin_86 (by decide) rfl ?_
      refine J_il F 0 dX1_refusalOfJoin_88 rfl ?_
      refine J_ic F dX1_refusalOfJoin_90 ki_m1 ?_
      refine J_ceq F (tgt := 107) dX1_refusalOfJoin_91 (by decide) (fun c_5 => ?_) (fun c_5 => ?_)
      · have h := h.1 c_5
        obtain ⟨x3_6, ex3_6⟩ : ∃ z : Int32, z = x3 + (nI 1) := ⟨_, rfl⟩
        have h := h x3_6 ex3_6
        refine J_iinc F (v := x3_6) (L' := [(3, .int x3_6), (4, .int r_3), (0, .ref (gb G + a0)), (1, .int x1), (2, .int x2)]) 4 dX1_refusalOfJoin_107 rfl (by rw [ki_1, ex3_6]) (by decide) rfl ?_
        refine J_goto F (tgt := 57) dX1_refusalOfJoin_110 (by decide) ?_
        refine J_sub [2, 3, 4, 0] rfl ?_
        exact i57 _ h
      · have h := h.2 c_5
        refine J_aln F 1 dX1_refusalOfJoin_94 rfl rfl ?_
        refine J_gfr F (ci := 1) 1 rfl inX1 y0 (by decide) (by decide) rfl lf_X1_17 rfl dX1_refusalOfJoin_95 ?_
        refine J_il F 0 dX1_refusalOfJoin_98 rfl ?_
        obtain ⟨h_7, h⟩ := h
        refine J_iald F (lay_net y0).2.1 h_7 dX1_refusalOfJoin_100 ?_
        refine J_ic F dX1_refusalOfJoin_101 ki_2 ?_
        refine J_cne F (tgt := 107) dX1_refusalOfJoin_102 (by decide) (fun c_8 => ?_) (fun c_8 => ?_)
        · have h := h.1 c_8
          obtain ⟨x3_9, ex3_9⟩ : ∃ z : Int32, z = x3 + (nI 1) := ⟨_, rfl⟩
          have h := h x3_9 ex3_9
          refine J_iinc F (v := x3_9) (L' := [(3, .int x3_9), (4, .int r_3), (0, .ref (gb G + a0)), (1, .int x1), (2, .int x2)]) 4 dX1_refusalOfJoin_107 rfl (by rw [ki_1, ex3_9]) (by decide) rfl ?_
          refine J_goto F (tgt := 57) dX1_refusalOfJoin_110 (by decide) ?_
          refine J_sub [2, 3, 4, 0] rfl ?_
          exact i57 _ h
        · have h := h.2 c_8
          refine J_ic F dX1_refusalOfJoin_105 ki_3 ?_
          exact J_reti F ⟨_, rfl, rfl, h⟩ dX1_refusalOfJoin_106
set_option maxRecDepth 20000 in
set_option maxHeartbeats 4000000 in
theorem wk_X1_refusalOfJoin_12 {p : Program} {l : Launch} {e : Env} {s : State} {m : MethodId} {args : Array Value} {below : List Frame} {meth : Method} {c : Code} {G : Gp} {σ : St} {a0 : Nat} {x1 : Int32} {x2 : Int32}  {Q : Int32 → Prop} (F : FX p s m args meth c cX1_refusalOfJoin 5 (some .int) RX1 G) (y0 : lay a0 = (1, 0))  : ∀ (n9 : Nat) (x3 : Int32), LP1 (wp_X1_refusalOfJoin_12 σ a0 x1 x2 Q) n9 x3 → J p l e (rmF 2 46) s m args below meth c 5 G (MQ below (QQ G (qI (fun r σ' => σ' = σ ∧ Q r))) args s 0 0 (fr G)) 0 0 12 [(0, .ref (gb G + a0)), (1, .int x1), (2, .int x2), (3, .int x3)] [] σ := by
  intro n9
  induction n9 with
  | zero => intro x3 h; exact h.elim
  | succ n9 i12 =>
    intro x3 h
    have h : wp_X1_refusalOfJoin_12 σ a0 x1 x2 Q (LP1 (wp_X1_refusalOfJoin_12 σ a0 x1 x2 Q) n9) x3 := h
    unfold wp_X1_refusalOfJoin_12 at h
    refine J_iln F 3 dX1_refusalOfJoin_12 rfl rfl ?_
    refine J_aln F 0 dX1_refusalOfJoin_13 rfl rfl ?_
    refine J_gfi F (ci := 1) 9 rfl inX1 y0 (by decide) (by decide) rfl lf_X1_43 rfl dX1_refusalOfJoin_14 ?_
    refine J_cge F (tgt := 55) dX1_refusalOfJoin_17 (by decide) (fun c_10 => ?_) (fun c_10 => ?_)
    · have h := h.1 c_10
      refine J_ic F dX1_refusalOfJoin_55 ki_0 ?_
      refine J_isn F (L' := [(3, .int (nI 0)), (0, .ref (gb G + a0)), (1, .int x1), (2, .int x2)]) dX1_refusalOfJoin_56 rfl (by decide) rfl ?_
      refine J_sub [1, 2, 3, 0] rfl ?_
      obtain ⟨n9, h⟩ := h
      exact wk_X1_refusalOfJoin_57 F y0 n9 _ h
    · have h := h.2 c_10
      refine J_aln F 0 dX1_refusalOfJoin_20 rfl rfl ?_
      refine J_gfr F (ci := 1) 0 rfl inX1 y0 (by decide) (by decide) rfl lf_X1_11 rfl dX1_refusalOfJoin_21 ?_
      refine J_iln F 3 dX1_refusalOfJoin_24 rfl rfl ?_
      obtain ⟨h_11, h⟩ := h
      refine J_aldS F (lay_net y0).1 h_11 dX1_refusalOfJoin_25 ?_
      refine J_iln F 1 dX1_refusalOfJoin_26 rfl rfl ?_
      refine J_bi F dX1_refusalOfJoin_27 kb_11 ?_
      refine J_iln F 3 dX1_refusalOfJoin_29 rfl rfl ?_
      refine J_imul F dX1_refusalOfJoin_30 ?_
      refine J_iadd F dX1_refusalOfJoin_31 ?_
      refine J_iln F 2 dX1_refusalOfJoin_32 rfl rfl ?_
      refine J_bi F dX1_refusalOfJoin_33 kb_7 ?_
      refine J_iln F 3 dX1_refusalOfJoin_35 rfl rfl ?_
      refine J_imul F dX1_refusalOfJoin_36 ?_
      refine J_iadd F dX1_refusalOfJoin_37 ?_
      refine J_callVi F (As := [.int (x1 + ((nI 11) * x3)), .int (x2 + ((nI 7) * x3))]) (st := []) (C_X4_zoneAt l G (a0 + 1 + 8 + 4 * Int32.toNatClampNeg x3) (x1 + ((nI 11) * x3)) (x2 + ((nI 7) * x3)) (lay_sp y0 h_11) h) (ci := 4) (lay_sp y0 h_11) (by decide) rfl rfl lm_X1_95 li_X4_zoneAt ls_X4_zoneAt ini_X4 lc_X4_zoneAt hd_X4_zoneAt (by decide) (Nat.le_of_ble_eq_true rfl) (by decide) rfl dX1_refusalOfJoin_38 (fun r_12 σ_13 hh => ?_)
      clear h
      obtain ⟨e9, h⟩ := hh
      subst σ_13
      refine J_si F dX1_refusalOfJoin_41 ks_1024 ?_
      refine J_clt F (tgt := 49) dX1_refusalOfJoin_44 (by decide) (fun c_14 => ?_) (fun c_14 => ?_)
      · have h := h.1 c_14
        obtain ⟨x3_15, ex3_15⟩ : ∃ z : Int32, z = x3 + (nI 1) := ⟨_, rfl⟩
        have h := h x3_15 ex3_15
        refine J_iinc F (v := x3_15) (L' := [(3, .int x3_15), (0, .ref (gb G + a0)), (1, .int x1), (2, .int x2)]) 3 dX1_refusalOfJoin_49 rfl (by rw [ki_1, ex3_15]) (by decide) rfl ?_
        refine J_goto F (tgt := 12) dX1_refusalOfJoin_52 (by decide) ?_
        refine J_sub [1, 2, 3, 0] rfl ?_
        exact i12 _ h
      · have h := h.2 c_14
        refine J_ic F dX1_refusalOfJoin_47 ki_2 ?_
        exact J_reti F ⟨_, rfl, rfl, h⟩ dX1_refusalOfJoin_48
set_option maxRecDepth 20000 in
set_option maxHeartbeats 4000000 in
theorem C_X1_refusalOfJoin (l : Launch) (G : Gp) (a0 : Nat) (x1 : Int32) (x2 : Int32) (y0 : lay a0 = (1, 0)) {σ : St} {Q : Int32 → Prop} (h : wp_X1_refusalOfJoin σ a0 x1 x2 Q) : Cn l yX1_refusalOfJoin cX1_refusalOfJoin 5 (some .int) 2 46 G [.ref (gb G + a0), .int x1, .int x2] σ (qI (fun r σ' => σ' = σ ∧ Q r)) := by
  refine Cn_of (L := [(0, .ref (gb G + a0)), (1, .int x1), (2, .int x2)]) RX1 (by decide) rfl (Nat.le_of_ble_eq_true rfl) rfl ?_
  intro p e s m below meth c F
  unfold wp_X1_refusalOfJoin at h
  refine J_aln F 0 dX1_refusalOfJoin_0 rfl rfl ?_
  refine J_callVi F (As := []) (st := []) (C_X1_leastNodeAway l G a0 y0 h) (ci := 1) y0 (by decide) rfl rfl lm_X1_91 li_X1_leastNodeAway ls_X1_leastNodeAway ini_X1 lc_X1_leastNodeAway hd_X1_leastNodeAway (by decide) (Nat.le_of_ble_eq_true rfl) (by decide) rfl dX1_refusalOfJoin_1 (fun r_16 σ_17 hh => ?_)
  clear h
  obtain ⟨e9, h⟩ := hh
  subst σ_17
  refine J_ic F dX1_refusalOfJoin_4 ki_m1 ?_
  refine J_cne F (tgt := 10) dX1_refusalOfJoin_5 (by decide) (fun c_18 => ?_) (fun c_18 => ?_)
  · have h := h.1 c_18
    refine J_ic F dX1_refusalOfJoin_10 ki_0 ?_
    refine J_isn F (L' := [(3, .int (nI 0)), (0, .ref (gb G + a0)), (1, .int x1), (2, .int x2)]) dX1_refusalOfJoin_11 rfl (by decide) rfl ?_
    refine J_sub [1, 2, 3, 0] rfl ?_
    obtain ⟨n9, h⟩ := h
    exact wk_X1_refusalOfJoin_12 F y0 n9 _ h
  · have h := h.2 c_18
    refine J_ic F dX1_refusalOfJoin_8 ki_1 ?_
    exact J_reti F ⟨_, rfl, rfl, h⟩ dX1_refusalOfJoin_9
theorem dX1_awayFrom_0 : decode cX1_awayFrom 0 = .ok (.aload_n 0, 1) := by decide +kernel
theorem dX1_awayFrom_1 : decode cX1_awayFrom 1 = .ok (.getfield 27, 3) := by decide +kernel
theorem dX1_awayFrom_4 : decode cX1_awayFrom 4 = .ok (.iload_n 1, 1) := by decide +kernel
theorem dX1_awayFrom_5 : decode cX1_awayFrom 5 = .ok (.iaload, 1) := by decide +kernel
theorem dX1_awayFrom_6 : decode cX1_awayFrom 6 = .ok (.iload_n 2, 1) := by decide +kernel
theorem dX1_awayFrom_7 : decode cX1_awayFrom 7 = .ok (.isub, 1) := by decide +kernel
theorem dX1_awayFrom_8 : decode cX1_awayFrom 8 = .ok (.invokestatic 152, 3) := by decide +kernel
theorem dX1_awayFrom_11 : decode cX1_awayFrom 11 = .ok (.aload_n 0, 1) := by decide +kernel
theorem dX1_awayFrom_12 : decode cX1_awayFrom 12 = .ok (.getfield 30, 3) := by decide +kernel
theorem dX1_awayFrom_15 : decode cX1_awayFrom 15 = .ok (.iload_n 1, 1) := by decide +kernel
theorem dX1_awayFrom_16 : decode cX1_awayFrom 16 = .ok (.iaload, 1) := by decide +kernel
theorem dX1_awayFrom_17 : decode cX1_awayFrom 17 = .ok (.iload_n 3, 1) := by decide +kernel
theorem dX1_awayFrom_18 : decode cX1_awayFrom 18 = .ok (.isub, 1) := by decide +kernel
theorem dX1_awayFrom_19 : decode cX1_awayFrom 19 = .ok (.invokestatic 152, 3) := by decide +kernel
theorem dX1_awayFrom_22 : decode cX1_awayFrom 22 = .ok (.iadd, 1) := by decide +kernel
theorem dX1_awayFrom_23 : decode cX1_awayFrom 23 = .ok (.ireturn, 1) := by decide +kernel
set_option maxRecDepth 20000 in
set_option maxHeartbeats 4000000 in
theorem C_X1_awayFrom (l : Launch) (G : Gp) (a0 : Nat) (x1 : Int32) (x2 : Int32) (x3 : Int32) (y0 : lay a0 = (1, 0)) {σ : St} {Q : Int32 → Prop} (h : wp_X1_awayFrom σ a0 x1 x2 x3 Q) : Cn l yX1_awayFrom cX1_awayFrom 4 (some .int) 1 21 G [.ref (gb G + a0), .int x1, .int x2, .int x3] σ (qI (fun r σ' => σ' = σ ∧ Q r)) := by
  refine Cn_of (L := [(0, .ref (gb G + a0)), (1, .int x1), (2, .int x2), (3, .int x3)]) RX1 (by decide) rfl (Nat.le_of_ble_eq_true rfl) rfl ?_
  intro p e s m below meth c F
  unfold wp_X1_awayFrom at h
  refine J_aln F 0 dX1_awayFrom_0 rfl rfl ?_
  refine J_gfr F (ci := 1) 4 rfl inX1 y0 (by decide) (by decide) rfl lf_X1_27 rfl dX1_awayFrom_1 ?_
  refine J_iln F 1 dX1_awayFrom_4 rfl rfl ?_
  obtain ⟨h_1, h⟩ := h
  refine J_iald F (lay_net y0).2.2.2.2.1 h_1 dX1_awayFrom_5 ?_
  refine J_iln F 2 dX1_awayFrom_6 rfl rfl ?_
  refine J_isub F dX1_awayFrom_7 ?_
  refine J_mabs F lm_X1_152 st_abs ini_Math co_abs (by decide) (Nat.le_of_ble_eq_true rfl) (by decide) dX1_awayFrom_8 ?_
  refine J_aln F 0 dX1_awayFrom_11 rfl rfl ?_
  refine J_gfr F (ci := 1) 5 rfl inX1 y0 (by decide) (by decide) rfl lf_X1_30 rfl dX1_awayFrom_12 ?_
  refine J_iln F 1 dX1_awayFrom_15 rfl rfl ?_
  obtain ⟨h_2, h⟩ := h
  refine J_iald F (lay_net y0).2.2.2.2.2.1 h_2 dX1_awayFrom_16 ?_
  refine J_iln F 3 dX1_awayFrom_17 rfl rfl ?_
  refine J_isub F dX1_awayFrom_18 ?_
  refine J_mabs F lm_X1_152 st_abs ini_Math co_abs (by decide) (Nat.le_of_ble_eq_true rfl) (by decide) dX1_awayFrom_19 ?_
  refine J_iadd F dX1_awayFrom_22 ?_
  exact J_reti F ⟨_, rfl, rfl, h⟩ dX1_awayFrom_23
theorem dX1_landmarkInOrder_0 : decode cX1_landmarkInOrder 0 = .ok (.iconst 0, 1) := by decide +kernel
theorem dX1_landmarkInOrder_1 : decode cX1_landmarkInOrder 1 = .ok (.istore 4, 2) := by decide +kernel
theorem dX1_landmarkInOrder_3 : decode cX1_landmarkInOrder 3 = .ok (.iload 4, 2) := by decide +kernel
theorem dX1_landmarkInOrder_5 : decode cX1_landmarkInOrder 5 = .ok (.aload_n 0, 1) := by decide +kernel
theorem dX1_landmarkInOrder_6 : decode cX1_landmarkInOrder 6 = .ok (.getfield 39, 3) := by decide +kernel
theorem dX1_landmarkInOrder_9 : decode cX1_landmarkInOrder 9 = .ok (.if_icmp .ge 78, 3) := by decide +kernel
theorem dX1_landmarkInOrder_12 : decode cX1_landmarkInOrder 12 = .ok (.iconst 0, 1) := by decide +kernel
theorem dX1_landmarkInOrder_13 : decode cX1_landmarkInOrder 13 = .ok (.istore 5, 2) := by decide +kernel
theorem dX1_landmarkInOrder_15 : decode cX1_landmarkInOrder 15 = .ok (.iconst 0, 1) := by decide +kernel
theorem dX1_landmarkInOrder_16 : decode cX1_landmarkInOrder 16 = .ok (.istore 6, 2) := by decide +kernel
theorem dX1_landmarkInOrder_18 : decode cX1_landmarkInOrder 18 = .ok (.iload 6, 2) := by decide +kernel
theorem dX1_landmarkInOrder_20 : decode cX1_landmarkInOrder 20 = .ok (.aload_n 0, 1) := by decide +kernel
theorem dX1_landmarkInOrder_21 : decode cX1_landmarkInOrder 21 = .ok (.getfield 39, 3) := by decide +kernel
theorem dX1_landmarkInOrder_24 : decode cX1_landmarkInOrder 24 = .ok (.if_icmp .ge 48, 3) := by decide +kernel
theorem dX1_landmarkInOrder_27 : decode cX1_landmarkInOrder 27 = .ok (.aload_n 0, 1) := by decide +kernel
theorem dX1_landmarkInOrder_28 : decode cX1_landmarkInOrder 28 = .ok (.iload 6, 2) := by decide +kernel
theorem dX1_landmarkInOrder_30 : decode cX1_landmarkInOrder 30 = .ok (.iload_n 2, 1) := by decide +kernel
theorem dX1_landmarkInOrder_31 : decode cX1_landmarkInOrder 31 = .ok (.iload_n 3, 1) := by decide +kernel
theorem dX1_landmarkInOrder_32 : decode cX1_landmarkInOrder 32 = .ok (.invokevirtual 164, 3) := by decide +kernel
theorem dX1_landmarkInOrder_35 : decode cX1_landmarkInOrder 35 = .ok (.aload_n 0, 1) := by decide +kernel
theorem dX1_landmarkInOrder_36 : decode cX1_landmarkInOrder 36 = .ok (.iload 4, 2) := by decide +kernel
theorem dX1_landmarkInOrder_38 : decode cX1_landmarkInOrder 38 = .ok (.iload_n 2, 1) := by decide +kernel
theorem dX1_landmarkInOrder_39 : decode cX1_landmarkInOrder 39 = .ok (.iload_n 3, 1) := by decide +kernel
theorem dX1_landmarkInOrder_40 : decode cX1_landmarkInOrder 40 = .ok (.invokevirtual 164, 3) := by decide +kernel
theorem dX1_landmarkInOrder_43 : decode cX1_landmarkInOrder 43 = .ok (.isub, 1) := by decide +kernel
theorem dX1_landmarkInOrder_44 : decode cX1_landmarkInOrder 44 = .ok (.istore 7, 2) := by decide +kernel
theorem dX1_landmarkInOrder_46 : decode cX1_landmarkInOrder 46 = .ok (.iload 7, 2) := by decide +kernel
theorem dX1_landmarkInOrder_48 : decode cX1_landmarkInOrder 48 = .ok (.ifCond .lt 15, 3) := by decide +kernel
theorem dX1_landmarkInOrder_51 : decode cX1_landmarkInOrder 51 = .ok (.iload 7, 2) := by decide +kernel
theorem dX1_landmarkInOrder_53 : decode cX1_landmarkInOrder 53 = .ok (.ifCond .ne 13, 3) := by decide +kernel
theorem dX1_landmarkInOrder_56 : decode cX1_landmarkInOrder 56 = .ok (.iload 6, 2) := by decide +kernel
theorem dX1_landmarkInOrder_58 : decode cX1_landmarkInOrder 58 = .ok (.iload 4, 2) := by decide +kernel
theorem dX1_landmarkInOrder_60 : decode cX1_landmarkInOrder 60 = .ok (.if_icmp .ge 6, 3) := by decide +kernel
theorem dX1_landmarkInOrder_63 : decode cX1_landmarkInOrder 63 = .ok (.iinc 5 1, 3) := by decide +kernel
theorem dX1_landmarkInOrder_66 : decode cX1_landmarkInOrder 66 = .ok (.iinc 6 1, 3) := by decide +kernel
theorem dX1_landmarkInOrder_69 : decode cX1_landmarkInOrder 69 = .ok (.goto (-51), 3) := by decide +kernel
theorem dX1_landmarkInOrder_72 : decode cX1_landmarkInOrder 72 = .ok (.iload 5, 2) := by decide +kernel
theorem dX1_landmarkInOrder_74 : decode cX1_landmarkInOrder 74 = .ok (.iload_n 1, 1) := by decide +kernel
theorem dX1_landmarkInOrder_75 : decode cX1_landmarkInOrder 75 = .ok (.if_icmp .ne 6, 3) := by decide +kernel
theorem dX1_landmarkInOrder_78 : decode cX1_landmarkInOrder 78 = .ok (.iload 4, 2) := by decide +kernel
theorem dX1_landmarkInOrder_80 : decode cX1_landmarkInOrder 80 = .ok (.ireturn, 1) := by decide +kernel
theorem dX1_landmarkInOrder_81 : decode cX1_landmarkInOrder 81 = .ok (.iinc 4 1, 3) := by decide +kernel
theorem dX1_landmarkInOrder_84 : decode cX1_landmarkInOrder 84 = .ok (.goto (-81), 3) := by decide +kernel
theorem dX1_landmarkInOrder_87 : decode cX1_landmarkInOrder 87 = .ok (.iconst 0, 1) := by decide +kernel
theorem dX1_landmarkInOrder_88 : decode cX1_landmarkInOrder 88 = .ok (.ireturn, 1) := by decide +kernel
set_option maxRecDepth 20000 in
set_option maxHeartbeats 4000000 in
theorem wk_X1_landmarkInOrder_72 {p : Program} {l : Launch} {e : Env} {s : State} {m : MethodId} {args : Array Value} {below : List Frame} {meth : Method} {c : Code} {G : Gp} {σ : St} {a0 : Nat} {x1 : Int32} {x2 : Int32} {x3 : Int32} {x4 : Int32} {x5 : Int32} {ih3 : Int32 → Prop} {Q : Int32 → Prop} (F : FX p s m args meth c cX1_landmarkInOrder 8 (some .int) RX1 G) (y0 : lay a0 = (1, 0)) (i3 : ∀ (x4 : Int32), ih3 x4 → J p l e (rmF 2 44) s m args below meth c 8 G (MQ below (QQ G (qI (fun r σ' => σ' = σ ∧ Q r))) args s 0 0 (fr G)) 0 0 3 [(0, .ref (gb G + a0)), (1, .int x1), (2, .int x2), (3, .int x3), (4, .int x4)] [] σ) (h : wp_X1_landmarkInOrder_72 σ a0 x1 x2 x3 x4 x5 ih3 Q) : J p l e (rmF 2 44) s m args below meth c 8 G (MQ below (QQ G (qI (fun r σ' => σ' = σ ∧ Q r))) args s 0 0 (fr G)) 0 0 72 [(0, .ref (gb G + a0)), (1, .int x1), (2, .int x2), (3, .int x3), (4, .int x4), (5, .int x5)] [] σ := by
  unfold wp_X1_landmarkInOrder_72 at h
  refine J_il F 5 dX1_landmarkInOrder_72 rfl ?_
  refine J_iln F 1 dX1_landmarkInOrder_74 rfl rfl ?_
  refine J_cne F (tgt := 81) dX1_landmarkInOrder_75 (by decide) (fun c_1 => ?_) (fun c_1 => ?_)
  · have h := h.1 c_1
    obtain ⟨x4_2, ex4_2⟩ : ∃ z : Int32, z = x4 + (nI 1) := ⟨_, rfl⟩
    have h := h x4_2 ex4_2
    refine J_iinc F (v := x4_2) (L' := [(4, .int x4_2), (0, .ref (gb G + a0)), (1, .int x1), (2, .int x2), (3, .int x3), (5, .int x5)]) 4 dX1_landmarkInOrder_81 rfl (by rw [ki_1, ex4_2]) (by decide) rfl ?_
    refine J_goto F (tgt := 3) dX1_landmarkInOrder_84 (by decide) ?_
    refine J_sub [1, 2, 3, 4, 0] rfl ?_
    exact i3 _ h
  · have h := h.2 c_1
    refine J_il F 4 dX1_landmarkInOrder_78 rfl ?_
    exact J_reti F ⟨_, rfl, rfl, h⟩ dX1_landmarkInOrder_80
set_option maxRecDepth 20000 in
set_option maxHeartbeats 4000000 in
theorem wk_X1_landmarkInOrder_18 {p : Program} {l : Launch} {e : Env} {s : State} {m : MethodId} {args : Array Value} {below : List Frame} {meth : Method} {c : Code} {G : Gp} {σ : St} {a0 : Nat} {x1 : Int32} {x2 : Int32} {x3 : Int32} {x4 : Int32} {ih3 : Int32 → Prop} {Q : Int32 → Prop} (F : FX p s m args meth c cX1_landmarkInOrder 8 (some .int) RX1 G) (y0 : lay a0 = (1, 0)) (i3 : ∀ (x4 : Int32), ih3 x4 → J p l e (rmF 2 44) s m args below meth c 8 G (MQ below (QQ G (qI (fun r σ' => σ' = σ ∧ Q r))) args s 0 0 (fr G)) 0 0 3 [(0, .ref (gb G + a0)), (1, .int x1), (2, .int x2), (3, .int x3), (4, .int x4)] [] σ) : ∀ (n9 : Nat) (x5 : Int32) (x6 : Int32), LP2 (wp_X1_landmarkInOrder_18 σ a0 x1 x2 x3 x4 ih3 Q) n9 x5 x6 → J p l e (rmF 2 44) s m args below meth c 8 G (MQ below (QQ G (qI (fun r σ' => σ' = σ ∧ Q r))) args s 0 0 (fr G)) 0 0 18 [(0, .ref (gb G + a0)), (1, .int x1), (2, .int x2), (3, .int x3), (4, .int x4), (5, .int x5), (6, .int x6)] [] σ := by
  intro n9
  induction n9 with
  | zero => intro x5 x6 h; exact h.elim
  | succ n9 i18 =>
    intro x5 x6 h
    have h : wp_X1_landmarkInOrder_18 σ a0 x1 x2 x3 x4 ih3 Q (LP2 (wp_X1_landmarkInOrder_18 σ a0 x1 x2 x3 x4 ih3 Q) n9) x5 x6 := h
    unfold wp_X1_landmarkInOrder_18 at h
    refine J_il F 6 dX1_landmarkInOrder_18 rfl ?_
    refine J_aln F 0 dX1_landmarkInOrder_20 rfl rfl ?_
    refine J_gfi F (ci := 1) 8 rfl inX1 y0 (by decide) (by decide) rfl lf_X1_39 rfl dX1_landmarkInOrder_21 ?_
    refine J_cge F (tgt := 72) dX1_landmarkInOrder_24 (by decide) (fun c_3 => ?_) (fun c_3 => ?_)
    · have h := h.1 c_3
      refine J_sub [0, 1, 2, 3, 4, 5] rfl ?_
      exact wk_X1_landmarkInOrder_72 F y0 i3 h
    · have h := h.2 c_3
      refine J_aln F 0 dX1_landmarkInOrder_27 rfl rfl ?_
      refine J_il F 6 dX1_landmarkInOrder_28 rfl ?_
      refine J_iln F 2 dX1_landmarkInOrder_30 rfl rfl ?_
      refine J_iln F 3 dX1_landmarkInOrder_31 rfl rfl ?_
      refine J_callVi F (As := [.int x6, .int x2, .int x3]) (st := []) (C_X1_awayFrom l G a0 x6 x2 x3 y0 h) (ci := 1) y0 (by decide) rfl rfl lm_X1_164 li_X1_awayFrom ls_X1_awayFrom ini_X1 lc_X1_awayFrom hd_X1_awayFrom (by decide) (Nat.le_of_ble_eq_true rfl) (by decide) rfl dX1_landmarkInOrder_32 (fun r_4 σ_5 hh => ?_)
      clear h
      obtain ⟨e9, h⟩ := hh
      subst σ_5
      refine J_aln F 0 dX1_landmarkInOrder_35 rfl rfl ?_
      refine J_il F 4 dX1_landmarkInOrder_36 rfl ?_
      refine J_iln F 2 dX1_landmarkInOrder_38 rfl rfl ?_
      refine J_iln F 3 dX1_landmarkInOrder_39 rfl rfl ?_
      refine J_callVi F (As := [.int x4, .int x2, .int x3]) (st := [.int r_4]) (C_X1_awayFrom l G a0 x4 x2 x3 y0 h) (ci := 1) y0 (by decide) rfl rfl lm_X1_164 li_X1_awayFrom ls_X1_awayFrom ini_X1 lc_X1_awayFrom hd_X1_awayFrom (by decide) (Nat.le_of_ble_eq_true rfl) (by decide) rfl dX1_landmarkInOrder_40 (fun r_6 σ_7 hh => ?_)
      clear h
      obtain ⟨e9, h⟩ := hh
      subst σ_7
      refine J_isub F dX1_landmarkInOrder_43 ?_
      refine J_top (fun x7_8 ex7_8 => ?_)
      have h := h x7_8 ex7_8
      refine J_is F (L' := [(7, .int x7_8), (0, .ref (gb G + a0)), (1, .int x1), (2, .int x2), (3, .int x3), (4, .int x4), (5, .int x5), (6, .int x6)]) dX1_landmarkInOrder_44 (by decide) rfl ?_
      refine J_il F 0 dX1_landmarkInOrder_46 rfl ?_
      refine J_zlt F (tgt := 63) dX1_landmarkInOrder_48 (by decide) (fun c_9 => ?_) (fun c_9 => ?_)
      · have h := h.1 c_9
        obtain ⟨x5_10, ex5_10⟩ : ∃ z : Int32, z = x5 + (nI 1) := ⟨_, rfl⟩
        have h := h x5_10 ex5_10
        refine J_iinc F (v := x5_10) (L' := [(5, .int x5_10), (7, .int x7_8), (0, .ref (gb G + a0)), (1, .int x1), (2, .int x2), (3, .int x3), (4, .int x4), (6, .int x6)]) 6 dX1_landmarkInOrder_63 rfl (by rw [ki_1, ex5_10]) (by decide) rfl ?_
        obtain ⟨x6_11, ex6_11⟩ : ∃ z : Int32, z = x6 + (nI 1) := ⟨_, rfl⟩
        have h := h x6_11 ex6_11
        refine J_iinc F (v := x6_11) (L' := [(6, .int x6_11), (5, .int x5_10), (7, .int x7_8), (0, .ref (gb G + a0)), (1, .int x1), (2, .int x2), (3, .int x3), (4, .int x4)]) 7 dX1_landmarkInOrder_66 rfl (by rw [ki_1, ex6_11]) (by decide) rfl ?_
        refine J_goto F (tgt := 18) dX1_landmarkInOrder_69 (by decide) ?_
        refine J_sub [3, 4, 5, 6, 7, 1, 0] rfl ?_
        exact i18 _ _ h
      · have h := h.2 c_9
        refine J_il F 0 dX1_landmarkInOrder_51 rfl ?_
        refine J_zne F (tgt := 66) dX1_landmarkInOrder_53 (by decide) (fun c_12 => ?_) (fun c_12 => ?_)
        · have h := h.1 c_12
          obtain ⟨x6_13, ex6_13⟩ : ∃ z : Int32, z = x6 + (nI 1) := ⟨_, rfl⟩
          have h := h x6_13 ex6_13
          refine J_iinc F (v := x6_13) (L' := [(6, .int x6_13), (7, .int x7_8), (0, .ref (gb G + a0)), (1, .int x1), (2, .int x2), (3, .int x3), (4, .int x4), (5, .int x5)]) 7 dX1_landmarkInOrder_66 rfl (by rw [ki_1, ex6_13]) (by decide) rfl ?_
          refine J_goto F (tgt := 18) dX1_landmarkInOrder_69 (by decide) ?_
          refine J_sub [2, 3, 4, 5, 6, 7, 0] rfl ?_
          exact i18 _ _ h
        · have h := h.2 c_12
          refine J_il F 7 dX1_landmarkInOrder_56 rfl ?_
          refine J_il F 5 dX1_landmarkInOrder_58 rfl ?_
          refine J_cge F (tgt := 66) dX1_landmarkInOrder_60 (by decide) (fun c_14 => ?_) (fun c_14 => ?_)
          · have h := h.1 c_14
            obtain ⟨x6_15, ex6_15⟩ : ∃ z : Int32, z = x6 + (nI 1) := ⟨_, rfl⟩
            have h := h x6_15 ex6_15
            refine J_iinc F (v := x6_15) (L' := [(6, .int x6_15), (7, .int x7_8), (0, .ref (gb G + a0)), (1, .int x1), (2, .int x2), (3, .int x3), (4, .int x4), (5, .int x5)]) 7 dX1_landmarkInOrder_66 rfl (by rw [ki_1, ex6_15]) (by decide) rfl ?_
            refine J_goto F (tgt := 18) dX1_landmarkInOrder_69 (by decide) ?_
            refine J_sub [2, 3, 4, 5, 6, 7, 0] rfl ?_
            exact i18 _ _ h
          · have h := h.2 c_14
            obtain ⟨x5_16, ex5_16⟩ : ∃ z : Int32, z = x5 + (nI 1) := ⟨_, rfl⟩
            have h := h x5_16 ex5_16
            refine J_iinc F (v := x5_16) (L' := [(5, .int x5_16), (7, .int x7_8), (0, .ref (gb G + a0)), (1, .int x1), (2, .int x2), (3, .int x3), (4, .int x4), (6, .int x6)]) 6 dX1_landmarkInOrder_63 rfl (by rw [ki_1, ex5_16]) (by decide) rfl ?_
            obtain ⟨x6_17, ex6_17⟩ : ∃ z : Int32, z = x6 + (nI 1) := ⟨_, rfl⟩
            have h := h x6_17 ex6_17
            refine J_iinc F (v := x6_17) (L' := [(6, .int x6_17), (5, .int x5_16), (7, .int x7_8), (0, .ref (gb G + a0)), (1, .int x1), (2, .int x2), (3, .int x3), (4, .int x4)]) 7 dX1_landmarkInOrder_66 rfl (by rw [ki_1, ex6_17]) (by decide) rfl ?_
            refine J_goto F (tgt := 18) dX1_landmarkInOrder_69 (by decide) ?_
            refine J_sub [3, 4, 5, 6, 7, 1, 0] rfl ?_
            exact i18 _ _ h
set_option maxRecDepth 20000 in
set_option maxHeartbeats 4000000 in
theorem wk_X1_landmarkInOrder_3 {p : Program} {l : Launch} {e : Env} {s : State} {m : MethodId} {args : Array Value} {below : List Frame} {meth : Method} {c : Code} {G : Gp} {σ : St} {a0 : Nat} {x1 : Int32} {x2 : Int32} {x3 : Int32}  {Q : Int32 → Prop} (F : FX p s m args meth c cX1_landmarkInOrder 8 (some .int) RX1 G) (y0 : lay a0 = (1, 0))  : ∀ (n9 : Nat) (x4 : Int32), LP1 (wp_X1_landmarkInOrder_3 σ a0 x1 x2 x3 Q) n9 x4 → J p l e (rmF 2 44) s m args below meth c 8 G (MQ below (QQ G (qI (fun r σ' => σ' = σ ∧ Q r))) args s 0 0 (fr G)) 0 0 3 [(0, .ref (gb G + a0)), (1, .int x1), (2, .int x2), (3, .int x3), (4, .int x4)] [] σ := by
  intro n9
  induction n9 with
  | zero => intro x4 h; exact h.elim
  | succ n9 i3 =>
    intro x4 h
    have h : wp_X1_landmarkInOrder_3 σ a0 x1 x2 x3 Q (LP1 (wp_X1_landmarkInOrder_3 σ a0 x1 x2 x3 Q) n9) x4 := h
    unfold wp_X1_landmarkInOrder_3 at h
    refine J_il F 4 dX1_landmarkInOrder_3 rfl ?_
    refine J_aln F 0 dX1_landmarkInOrder_5 rfl rfl ?_
    refine J_gfi F (ci := 1) 8 rfl inX1 y0 (by decide) (by decide) rfl lf_X1_39 rfl dX1_landmarkInOrder_6 ?_
    refine J_cge F (tgt := 87) dX1_landmarkInOrder_9 (by decide) (fun c_18 => ?_) (fun c_18 => ?_)
    · have h := h.1 c_18
      refine J_ic F dX1_landmarkInOrder_87 ki_0 ?_
      exact J_reti F ⟨_, rfl, rfl, h⟩ dX1_landmarkInOrder_88
    · have h := h.2 c_18
      refine J_ic F dX1_landmarkInOrder_12 ki_0 ?_
      refine J_is F (L' := [(5, .int (nI 0)), (0, .ref (gb G + a0)), (1, .int x1), (2, .int x2), (3, .int x3), (4, .int x4)]) dX1_landmarkInOrder_13 (by decide) rfl ?_
      refine J_ic F dX1_landmarkInOrder_15 ki_0 ?_
      refine J_is F (L' := [(6, .int (nI 0)), (5, .int (nI 0)), (0, .ref (gb G + a0)), (1, .int x1), (2, .int x2), (3, .int x3), (4, .int x4)]) dX1_landmarkInOrder_16 (by decide) rfl ?_
      refine J_sub [2, 3, 4, 5, 6, 1, 0] rfl ?_
      obtain ⟨n9, h⟩ := h
      exact wk_X1_landmarkInOrder_18 F y0 i3 n9 _ _ h
set_option maxRecDepth 20000 in
set_option maxHeartbeats 4000000 in
theorem C_X1_landmarkInOrder (l : Launch) (G : Gp) (a0 : Nat) (x1 : Int32) (x2 : Int32) (x3 : Int32) (y0 : lay a0 = (1, 0)) {σ : St} {Q : Int32 → Prop} (h : wp_X1_landmarkInOrder σ a0 x1 x2 x3 Q) : Cn l yX1_landmarkInOrder cX1_landmarkInOrder 8 (some .int) 2 44 G [.ref (gb G + a0), .int x1, .int x2, .int x3] σ (qI (fun r σ' => σ' = σ ∧ Q r)) := by
  refine Cn_of (L := [(0, .ref (gb G + a0)), (1, .int x1), (2, .int x2), (3, .int x3)]) RX1 (by decide) rfl (Nat.le_of_ble_eq_true rfl) rfl ?_
  intro p e s m below meth c F
  unfold wp_X1_landmarkInOrder at h
  refine J_ic F dX1_landmarkInOrder_0 ki_0 ?_
  refine J_is F (L' := [(4, .int (nI 0)), (0, .ref (gb G + a0)), (1, .int x1), (2, .int x2), (3, .int x3)]) dX1_landmarkInOrder_1 (by decide) rfl ?_
  refine J_sub [1, 2, 3, 4, 0] rfl ?_
  obtain ⟨n9, h⟩ := h
  exact wk_X1_landmarkInOrder_3 F y0 n9 _ h
theorem dX1_orderOf_0 : decode cX1_orderOf 0 = .ok (.aload_n 0, 1) := by decide +kernel
theorem dX1_orderOf_1 : decode cX1_orderOf 1 = .ok (.getfield 39, 3) := by decide +kernel
theorem dX1_orderOf_4 : decode cX1_orderOf 4 = .ok (.iconst 2, 1) := by decide +kernel
theorem dX1_orderOf_5 : decode cX1_orderOf 5 = .ok (.if_icmp .ge 5, 3) := by decide +kernel
theorem dX1_orderOf_8 : decode cX1_orderOf 8 = .ok (.iconst 0, 1) := by decide +kernel
theorem dX1_orderOf_9 : decode cX1_orderOf 9 = .ok (.ireturn, 1) := by decide +kernel
theorem dX1_orderOf_10 : decode cX1_orderOf 10 = .ok (.aload_n 0, 1) := by decide +kernel
theorem dX1_orderOf_11 : decode cX1_orderOf 11 = .ok (.iconst 0, 1) := by decide +kernel
theorem dX1_orderOf_12 : decode cX1_orderOf 12 = .ok (.iload_n 1, 1) := by decide +kernel
theorem dX1_orderOf_13 : decode cX1_orderOf 13 = .ok (.iload_n 2, 1) := by decide +kernel
theorem dX1_orderOf_14 : decode cX1_orderOf 14 = .ok (.invokevirtual 160, 3) := by decide +kernel
theorem dX1_orderOf_17 : decode cX1_orderOf 17 = .ok (.istore_n 3, 1) := by decide +kernel
theorem dX1_orderOf_18 : decode cX1_orderOf 18 = .ok (.aload_n 0, 1) := by decide +kernel
theorem dX1_orderOf_19 : decode cX1_orderOf 19 = .ok (.getfield 39, 3) := by decide +kernel
theorem dX1_orderOf_22 : decode cX1_orderOf 22 = .ok (.iconst 2, 1) := by decide +kernel
theorem dX1_orderOf_23 : decode cX1_orderOf 23 = .ok (.if_icmp .ne 5, 3) := by decide +kernel
theorem dX1_orderOf_26 : decode cX1_orderOf 26 = .ok (.iload_n 3, 1) := by decide +kernel
theorem dX1_orderOf_27 : decode cX1_orderOf 27 = .ok (.ireturn, 1) := by decide +kernel
theorem dX1_orderOf_28 : decode cX1_orderOf 28 = .ok (.iconst 2, 1) := by decide +kernel
theorem dX1_orderOf_29 : decode cX1_orderOf 29 = .ok (.iload_n 3, 1) := by decide +kernel
theorem dX1_orderOf_30 : decode cX1_orderOf 30 = .ok (.imul, 1) := by decide +kernel
theorem dX1_orderOf_31 : decode cX1_orderOf 31 = .ok (.aload_n 0, 1) := by decide +kernel
theorem dX1_orderOf_32 : decode cX1_orderOf 32 = .ok (.iconst 1, 1) := by decide +kernel
theorem dX1_orderOf_33 : decode cX1_orderOf 33 = .ok (.iload_n 1, 1) := by decide +kernel
theorem dX1_orderOf_34 : decode cX1_orderOf 34 = .ok (.iload_n 2, 1) := by decide +kernel
theorem dX1_orderOf_35 : decode cX1_orderOf 35 = .ok (.invokevirtual 160, 3) := by decide +kernel
theorem dX1_orderOf_38 : decode cX1_orderOf 38 = .ok (.aload_n 0, 1) := by decide +kernel
theorem dX1_orderOf_39 : decode cX1_orderOf 39 = .ok (.iconst 2, 1) := by decide +kernel
theorem dX1_orderOf_40 : decode cX1_orderOf 40 = .ok (.iload_n 1, 1) := by decide +kernel
theorem dX1_orderOf_41 : decode cX1_orderOf 41 = .ok (.iload_n 2, 1) := by decide +kernel
theorem dX1_orderOf_42 : decode cX1_orderOf 42 = .ok (.invokevirtual 160, 3) := by decide +kernel
theorem dX1_orderOf_45 : decode cX1_orderOf 45 = .ok (.if_icmp .le 7, 3) := by decide +kernel
theorem dX1_orderOf_48 : decode cX1_orderOf 48 = .ok (.iconst 1, 1) := by decide +kernel
theorem dX1_orderOf_49 : decode cX1_orderOf 49 = .ok (.goto 4, 3) := by decide +kernel
theorem dX1_orderOf_52 : decode cX1_orderOf 52 = .ok (.iconst 0, 1) := by decide +kernel
theorem dX1_orderOf_53 : decode cX1_orderOf 53 = .ok (.iadd, 1) := by decide +kernel
theorem dX1_orderOf_54 : decode cX1_orderOf 54 = .ok (.ireturn, 1) := by decide +kernel
set_option maxRecDepth 20000 in
set_option maxHeartbeats 4000000 in
theorem C_X1_orderOf (l : Launch) (G : Gp) (a0 : Nat) (x1 : Int32) (x2 : Int32) (y0 : lay a0 = (1, 0)) {σ : St} {Q : Int32 → Prop} (h : wp_X1_orderOf σ a0 x1 x2 Q) : Cn l yX1_orderOf cX1_orderOf 4 (some .int) 3 71 G [.ref (gb G + a0), .int x1, .int x2] σ (qI (fun r σ' => σ' = σ ∧ Q r)) := by
  refine Cn_of (L := [(0, .ref (gb G + a0)), (1, .int x1), (2, .int x2)]) RX1 (by decide) rfl (Nat.le_of_ble_eq_true rfl) rfl ?_
  intro p e s m below meth c F
  unfold wp_X1_orderOf at h
  refine J_aln F 0 dX1_orderOf_0 rfl rfl ?_
  refine J_gfi F (ci := 1) 8 rfl inX1 y0 (by decide) (by decide) rfl lf_X1_39 rfl dX1_orderOf_1 ?_
  refine J_ic F dX1_orderOf_4 ki_2 ?_
  refine J_cge F (tgt := 10) dX1_orderOf_5 (by decide) (fun c_1 => ?_) (fun c_1 => ?_)
  · have h := h.1 c_1
    refine J_aln F 0 dX1_orderOf_10 rfl rfl ?_
    refine J_ic F dX1_orderOf_11 ki_0 ?_
    refine J_iln F 1 dX1_orderOf_12 rfl rfl ?_
    refine J_iln F 2 dX1_orderOf_13 rfl rfl ?_
    refine J_callVi F (As := [.int (nI 0), .int x1, .int x2]) (st := []) (C_X1_landmarkInOrder l G a0 (nI 0) x1 x2 y0 h) (ci := 1) y0 (by decide) rfl rfl lm_X1_160 li_X1_landmarkInOrder ls_X1_landmarkInOrder ini_X1 lc_X1_landmarkInOrder hd_X1_landmarkInOrder (by decide) (Nat.le_of_ble_eq_true rfl) (by decide) rfl dX1_orderOf_14 (fun r_2 σ_3 hh => ?_)
    clear h
    obtain ⟨e9, h⟩ := hh
    subst σ_3
    refine J_isn F (L' := [(3, .int r_2), (0, .ref (gb G + a0)), (1, .int x1), (2, .int x2)]) dX1_orderOf_17 rfl (by decide) rfl ?_
    refine J_aln F 1 dX1_orderOf_18 rfl rfl ?_
    refine J_gfi F (ci := 1) 8 rfl inX1 y0 (by decide) (by decide) rfl lf_X1_39 rfl dX1_orderOf_19 ?_
    refine J_ic F dX1_orderOf_22 ki_2 ?_
    refine J_cne F (tgt := 28) dX1_orderOf_23 (by decide) (fun c_4 => ?_) (fun c_4 => ?_)
    · have h := h.1 c_4
      refine J_ic F dX1_orderOf_28 ki_2 ?_
      refine J_iln F 0 dX1_orderOf_29 rfl rfl ?_
      refine J_imul F dX1_orderOf_30 ?_
      refine J_aln F 1 dX1_orderOf_31 rfl rfl ?_
      refine J_ic F dX1_orderOf_32 ki_1 ?_
      refine J_iln F 2 dX1_orderOf_33 rfl rfl ?_
      refine J_iln F 3 dX1_orderOf_34 rfl rfl ?_
      refine J_callVi F (As := [.int (nI 1), .int x1, .int x2]) (st := [.int ((nI 2) * r_2)]) (C_X1_landmarkInOrder l G a0 (nI 1) x1 x2 y0 h) (ci := 1) y0 (by decide) rfl rfl lm_X1_160 li_X1_landmarkInOrder ls_X1_landmarkInOrder ini_X1 lc_X1_landmarkInOrder hd_X1_landmarkInOrder (by decide) (Nat.le_of_ble_eq_true rfl) (by decide) rfl dX1_orderOf_35 (fun r_5 σ_6 hh => ?_)
      clear h
      obtain ⟨e9, h⟩ := hh
      subst σ_6
      refine J_aln F 1 dX1_orderOf_38 rfl rfl ?_
      refine J_ic F dX1_orderOf_39 ki_2 ?_
      refine J_iln F 2 dX1_orderOf_40 rfl rfl ?_
      refine J_iln F 3 dX1_orderOf_41 rfl rfl ?_
      refine J_callVi F (As := [.int (nI 2), .int x1, .int x2]) (st := [.int r_5, .int ((nI 2) * r_2)]) (C_X1_landmarkInOrder l G a0 (nI 2) x1 x2 y0 h) (ci := 1) y0 (by decide) rfl rfl lm_X1_160 li_X1_landmarkInOrder ls_X1_landmarkInOrder ini_X1 lc_X1_landmarkInOrder hd_X1_landmarkInOrder (by decide) (Nat.le_of_ble_eq_true rfl) (by decide) rfl dX1_orderOf_42 (fun r_7 σ_8 hh => ?_)
      clear h
      obtain ⟨e9, h⟩ := hh
      subst σ_8
      refine J_cle F (tgt := 52) dX1_orderOf_45 (by decide) (fun c_9 => ?_) (fun c_9 => ?_)
      · have h := h.1 c_9
        refine J_ic F dX1_orderOf_52 ki_0 ?_
        refine J_iadd F dX1_orderOf_53 ?_
        exact J_reti F ⟨_, rfl, rfl, h⟩ dX1_orderOf_54
      · have h := h.2 c_9
        refine J_ic F dX1_orderOf_48 ki_1 ?_
        refine J_goto F (tgt := 53) dX1_orderOf_49 (by decide) ?_
        refine J_iadd F dX1_orderOf_53 ?_
        exact J_reti F ⟨_, rfl, rfl, h⟩ dX1_orderOf_54
    · have h := h.2 c_4
      refine J_iln F 0 dX1_orderOf_26 rfl rfl ?_
      exact J_reti F ⟨_, rfl, rfl, h⟩ dX1_orderOf_27
  · have h := h.2 c_1
    refine J_ic F dX1_orderOf_8 ki_0 ?_
    exact J_reti F ⟨_, rfl, rfl, h⟩ dX1_orderOf_9
theorem dX1_nearX_0 : decode cX1_nearX 0 = .ok (.aload_n 0, 1) := by decide +kernel
theorem dX1_nearX_1 : decode cX1_nearX 1 = .ok (.getfield 39, 3) := by decide +kernel
theorem dX1_nearX_4 : decode cX1_nearX 4 = .ok (.iconst 3, 1) := by decide +kernel
theorem dX1_nearX_5 : decode cX1_nearX 5 = .ok (.if_icmp .ne 8, 3) := by decide +kernel
theorem dX1_nearX_8 : decode cX1_nearX 8 = .ok (.bipush 6, 2) := by decide +kernel
theorem dX1_nearX_10 : decode cX1_nearX 10 = .ok (.goto 16, 3) := by decide +kernel
theorem dX1_nearX_13 : decode cX1_nearX 13 = .ok (.aload_n 0, 1) := by decide +kernel
theorem dX1_nearX_14 : decode cX1_nearX 14 = .ok (.getfield 39, 3) := by decide +kernel
theorem dX1_nearX_17 : decode cX1_nearX 17 = .ok (.iconst 2, 1) := by decide +kernel
theorem dX1_nearX_18 : decode cX1_nearX 18 = .ok (.if_icmp .ne 7, 3) := by decide +kernel
theorem dX1_nearX_21 : decode cX1_nearX 21 = .ok (.iconst 2, 1) := by decide +kernel
theorem dX1_nearX_22 : decode cX1_nearX 22 = .ok (.goto 4, 3) := by decide +kernel
theorem dX1_nearX_25 : decode cX1_nearX 25 = .ok (.iconst 1, 1) := by decide +kernel
theorem dX1_nearX_26 : decode cX1_nearX 26 = .ok (.istore_n 3, 1) := by decide +kernel
theorem dX1_nearX_27 : decode cX1_nearX 27 = .ok (.bipush 32, 2) := by decide +kernel
theorem dX1_nearX_29 : decode cX1_nearX 29 = .ok (.iload_n 3, 1) := by decide +kernel
theorem dX1_nearX_30 : decode cX1_nearX 30 = .ok (.idiv, 1) := by decide +kernel
theorem dX1_nearX_31 : decode cX1_nearX 31 = .ok (.aload_n 0, 1) := by decide +kernel
theorem dX1_nearX_32 : decode cX1_nearX 32 = .ok (.iload_n 1, 1) := by decide +kernel
theorem dX1_nearX_33 : decode cX1_nearX 33 = .ok (.iload_n 2, 1) := by decide +kernel
theorem dX1_nearX_34 : decode cX1_nearX 34 = .ok (.invokevirtual 157, 3) := by decide +kernel
theorem dX1_nearX_37 : decode cX1_nearX 37 = .ok (.imul, 1) := by decide +kernel
theorem dX1_nearX_38 : decode cX1_nearX 38 = .ok (.ireturn, 1) := by decide +kernel
set_option maxRecDepth 20000 in
set_option maxHeartbeats 4000000 in
theorem wk_X1_nearX_26 {p : Program} {l : Launch} {e : Env} {s : State} {m : MethodId} {args : Array Value} {below : List Frame} {meth : Method} {c : Code} {G : Gp} {σ : St} {a0 : Nat} {x1 : Int32} {x2 : Int32} {t0 : Int32}  {Q : Int32 → Prop} (F : FX p s m args meth c cX1_nearX 4 (some .int) RX1 G) (y0 : lay a0 = (1, 0))  (h : wp_X1_nearX_26 σ a0 x1 x2 t0 Q) : J p l e (rmF 4 94) s m args below meth c 4 G (MQ below (QQ G (qI (fun r σ' => σ' = σ ∧ Q r))) args s 0 0 (fr G)) 0 0 26 [(0, .ref (gb G + a0)), (1, .int x1), (2, .int x2)] [.int t0] σ := by
  unfold wp_X1_nearX_26 at h
  refine J_isn F (L' := [(3, .int t0), (0, .ref (gb G + a0)), (1, .int x1), (2, .int x2)]) dX1_nearX_26 rfl (by decide) rfl ?_
  refine J_bi F dX1_nearX_27 kb_32 ?_
  refine J_iln F 0 dX1_nearX_29 rfl rfl ?_
  obtain ⟨h_1, h⟩ := h
  refine J_idiv F dX1_nearX_30 h_1 ?_
  refine J_aln F 1 dX1_nearX_31 rfl rfl ?_
  refine J_iln F 2 dX1_nearX_32 rfl rfl ?_
  refine J_iln F 3 dX1_nearX_33 rfl rfl ?_
  refine J_callVi F (As := [.int x1, .int x2]) (st := [.int ((nI 32) / t0)]) (C_X1_orderOf l G a0 x1 x2 y0 h) (ci := 1) y0 (by decide) rfl rfl lm_X1_157 li_X1_orderOf ls_X1_orderOf ini_X1 lc_X1_orderOf hd_X1_orderOf (by decide) (Nat.le_of_ble_eq_true rfl) (by decide) rfl dX1_nearX_34 (fun r_2 σ_3 hh => ?_)
  clear h
  obtain ⟨e9, h⟩ := hh
  subst σ_3
  refine J_imul F dX1_nearX_37 ?_
  exact J_reti F ⟨_, rfl, rfl, h⟩ dX1_nearX_38
set_option maxRecDepth 20000 in
set_option maxHeartbeats 4000000 in
theorem C_X1_nearX (l : Launch) (G : Gp) (a0 : Nat) (x1 : Int32) (x2 : Int32) (y0 : lay a0 = (1, 0)) {σ : St} {Q : Int32 → Prop} (h : wp_X1_nearX σ a0 x1 x2 Q) : Cn l yX1_nearX cX1_nearX 4 (some .int) 4 94 G [.ref (gb G + a0), .int x1, .int x2] σ (qI (fun r σ' => σ' = σ ∧ Q r)) := by
  refine Cn_of (L := [(0, .ref (gb G + a0)), (1, .int x1), (2, .int x2)]) RX1 (by decide) rfl (Nat.le_of_ble_eq_true rfl) rfl ?_
  intro p e s m below meth c F
  unfold wp_X1_nearX at h
  refine J_aln F 0 dX1_nearX_0 rfl rfl ?_
  refine J_gfi F (ci := 1) 8 rfl inX1 y0 (by decide) (by decide) rfl lf_X1_39 rfl dX1_nearX_1 ?_
  refine J_ic F dX1_nearX_4 ki_3 ?_
  refine J_cne F (tgt := 13) dX1_nearX_5 (by decide) (fun c_4 => ?_) (fun c_4 => ?_)
  · have h := h.1 c_4
    refine J_aln F 0 dX1_nearX_13 rfl rfl ?_
    refine J_gfi F (ci := 1) 8 rfl inX1 y0 (by decide) (by decide) rfl lf_X1_39 rfl dX1_nearX_14 ?_
    refine J_ic F dX1_nearX_17 ki_2 ?_
    refine J_cne F (tgt := 25) dX1_nearX_18 (by decide) (fun c_5 => ?_) (fun c_5 => ?_)
    · have h := h.1 c_5
      refine J_ic F dX1_nearX_25 ki_1 ?_
      exact wk_X1_nearX_26 F y0 h
    · have h := h.2 c_5
      refine J_ic F dX1_nearX_21 ki_2 ?_
      refine J_goto F (tgt := 26) dX1_nearX_22 (by decide) ?_
      exact wk_X1_nearX_26 F y0 h
  · have h := h.2 c_4
    refine J_bi F dX1_nearX_8 kb_6 ?_
    refine J_goto F (tgt := 26) dX1_nearX_10 (by decide) ?_
    exact wk_X1_nearX_26 F y0 h
theorem dX1_nearY_0 : decode cX1_nearY 0 = .ok (.iload_n 1, 1) := by decide +kernel
theorem dX1_nearY_1 : decode cX1_nearY 1 = .ok (.iload_n 2, 1) := by decide +kernel
theorem dX1_nearY_2 : decode cX1_nearY 2 = .ok (.iadd, 1) := by decide +kernel
theorem dX1_nearY_3 : decode cX1_nearY 3 = .ok (.bipush 31, 2) := by decide +kernel
theorem dX1_nearY_5 : decode cX1_nearY 5 = .ok (.iand, 1) := by decide +kernel
theorem dX1_nearY_6 : decode cX1_nearY 6 = .ok (.ireturn, 1) := by decide +kernel
set_option maxRecDepth 20000 in
set_option maxHeartbeats 4000000 in
theorem C_X1_nearY (l : Launch) (G : Gp) (a0 : Nat) (x1 : Int32) (x2 : Int32) (y0 : lay a0 = (1, 0)) {σ : St} {Q : Int32 → Prop} (h : wp_X1_nearY σ a0 x1 x2 Q) : Cn l yX1_nearY cX1_nearY 3 (some .int) 0 0 G [.ref (gb G + a0), .int x1, .int x2] σ (qI (fun r σ' => σ' = σ ∧ Q r)) := by
  refine Cn_of (L := [(0, .ref (gb G + a0)), (1, .int x1), (2, .int x2)]) RX1 (by decide) rfl (Nat.le_of_ble_eq_true rfl) rfl ?_
  intro p e s m below meth c F
  unfold wp_X1_nearY at h
  refine J_iln F 1 dX1_nearY_0 rfl rfl ?_
  refine J_iln F 2 dX1_nearY_1 rfl rfl ?_
  refine J_iadd F dX1_nearY_2 ?_
  refine J_bi F dX1_nearY_3 kb_31 ?_
  refine J_iand F dX1_nearY_5 ?_
  exact J_reti F ⟨_, rfl, rfl, h⟩ dX1_nearY_6
theorem dX1_nodesThatAre_0 : decode cX1_nodesThatAre 0 = .ok (.iconst 0, 1) := by decide +kernel
theorem dX1_nodesThatAre_1 : decode cX1_nodesThatAre 1 = .ok (.istore_n 2, 1) := by decide +kernel
theorem dX1_nodesThatAre_2 : decode cX1_nodesThatAre 2 = .ok (.iconst 0, 1) := by decide +kernel
theorem dX1_nodesThatAre_3 : decode cX1_nodesThatAre 3 = .ok (.istore_n 3, 1) := by decide +kernel
theorem dX1_nodesThatAre_4 : decode cX1_nodesThatAre 4 = .ok (.iload_n 3, 1) := by decide +kernel
theorem dX1_nodesThatAre_5 : decode cX1_nodesThatAre 5 = .ok (.bipush 10, 2) := by decide +kernel
theorem dX1_nodesThatAre_7 : decode cX1_nodesThatAre 7 = .ok (.if_icmp .ge 25, 3) := by decide +kernel
theorem dX1_nodesThatAre_10 : decode cX1_nodesThatAre 10 = .ok (.aload_n 0, 1) := by decide +kernel
theorem dX1_nodesThatAre_11 : decode cX1_nodesThatAre 11 = .ok (.getfield 17, 3) := by decide +kernel
theorem dX1_nodesThatAre_14 : decode cX1_nodesThatAre 14 = .ok (.iload_n 3, 1) := by decide +kernel
theorem dX1_nodesThatAre_15 : decode cX1_nodesThatAre 15 = .ok (.iaload, 1) := by decide +kernel
theorem dX1_nodesThatAre_16 : decode cX1_nodesThatAre 16 = .ok (.iload_n 1, 1) := by decide +kernel
theorem dX1_nodesThatAre_17 : decode cX1_nodesThatAre 17 = .ok (.if_icmp .ne 9, 3) := by decide +kernel
theorem dX1_nodesThatAre_20 : decode cX1_nodesThatAre 20 = .ok (.iload_n 2, 1) := by decide +kernel
theorem dX1_nodesThatAre_21 : decode cX1_nodesThatAre 21 = .ok (.iconst 1, 1) := by decide +kernel
theorem dX1_nodesThatAre_22 : decode cX1_nodesThatAre 22 = .ok (.iload_n 3, 1) := by decide +kernel
theorem dX1_nodesThatAre_23 : decode cX1_nodesThatAre 23 = .ok (.ishl, 1) := by decide +kernel
theorem dX1_nodesThatAre_24 : decode cX1_nodesThatAre 24 = .ok (.ior, 1) := by decide +kernel
theorem dX1_nodesThatAre_25 : decode cX1_nodesThatAre 25 = .ok (.istore_n 2, 1) := by decide +kernel
theorem dX1_nodesThatAre_26 : decode cX1_nodesThatAre 26 = .ok (.iinc 3 1, 3) := by decide +kernel
theorem dX1_nodesThatAre_29 : decode cX1_nodesThatAre 29 = .ok (.goto (-25), 3) := by decide +kernel
theorem dX1_nodesThatAre_32 : decode cX1_nodesThatAre 32 = .ok (.iload_n 2, 1) := by decide +kernel
theorem dX1_nodesThatAre_33 : decode cX1_nodesThatAre 33 = .ok (.ireturn, 1) := by decide +kernel
set_option maxRecDepth 20000 in
set_option maxHeartbeats 4000000 in
theorem wk_X1_nodesThatAre_4 {p : Program} {l : Launch} {e : Env} {s : State} {m : MethodId} {args : Array Value} {below : List Frame} {meth : Method} {c : Code} {G : Gp} {σ : St} {a0 : Nat} {x1 : Int32}  {Q : Int32 → Prop} (F : FX p s m args meth c cX1_nodesThatAre 4 (some .int) RX1 G) (y0 : lay a0 = (1, 0))  : ∀ (n9 : Nat) (x2 : Int32) (x3 : Int32), LP2 (wp_X1_nodesThatAre_4 σ a0 x1 Q) n9 x2 x3 → J p l e (rmF 0 0) s m args below meth c 4 G (MQ below (QQ G (qI (fun r σ' => σ' = σ ∧ Q r))) args s 0 0 (fr G)) 0 0 4 [(0, .ref (gb G + a0)), (1, .int x1), (2, .int x2), (3, .int x3)] [] σ := by
  intro n9
  induction n9 with
  | zero => intro x2 x3 h; exact h.elim
  | succ n9 i4 =>
    intro x2 x3 h
    have h : wp_X1_nodesThatAre_4 σ a0 x1 Q (LP2 (wp_X1_nodesThatAre_4 σ a0 x1 Q) n9) x2 x3 := h
    unfold wp_X1_nodesThatAre_4 at h
    refine J_iln F 3 dX1_nodesThatAre_4 rfl rfl ?_
    refine J_bi F dX1_nodesThatAre_5 kb_10 ?_
    refine J_cge F (tgt := 32) dX1_nodesThatAre_7 (by decide) (fun c_1 => ?_) (fun c_1 => ?_)
    · have h := h.1 c_1
      refine J_iln F 2 dX1_nodesThatAre_32 rfl rfl ?_
      exact J_reti F ⟨_, rfl, rfl, h⟩ dX1_nodesThatAre_33
    · have h := h.2 c_1
      refine J_aln F 0 dX1_nodesThatAre_10 rfl rfl ?_
      refine J_gfr F (ci := 1) 1 rfl inX1 y0 (by decide) (by decide) rfl lf_X1_17 rfl dX1_nodesThatAre_11 ?_
      refine J_iln F 3 dX1_nodesThatAre_14 rfl rfl ?_
      obtain ⟨h_2, h⟩ := h
      refine J_iald F (lay_net y0).2.1 h_2 dX1_nodesThatAre_15 ?_
      refine J_iln F 1 dX1_nodesThatAre_16 rfl rfl ?_
      refine J_cne F (tgt := 26) dX1_nodesThatAre_17 (by decide) (fun c_3 => ?_) (fun c_3 => ?_)
      · have h := h.1 c_3
        obtain ⟨x3_4, ex3_4⟩ : ∃ z : Int32, z = x3 + (nI 1) := ⟨_, rfl⟩
        have h := h x3_4 ex3_4
        refine J_iinc F (v := x3_4) (L' := [(3, .int x3_4), (0, .ref (gb G + a0)), (1, .int x1), (2, .int x2)]) 3 dX1_nodesThatAre_26 rfl (by rw [ki_1, ex3_4]) (by decide) rfl ?_
        refine J_goto F (tgt := 4) dX1_nodesThatAre_29 (by decide) ?_
        refine J_sub [1, 2, 3, 0] rfl ?_
        exact i4 _ _ h
      · have h := h.2 c_3
        refine J_iln F 2 dX1_nodesThatAre_20 rfl rfl ?_
        refine J_ic F dX1_nodesThatAre_21 ki_1 ?_
        refine J_iln F 3 dX1_nodesThatAre_22 rfl rfl ?_
        refine J_ishl F dX1_nodesThatAre_23 ?_
        refine J_ior F dX1_nodesThatAre_24 ?_
        refine J_top (fun x2_5 ex2_5 => ?_)
        have h := h x2_5 ex2_5
        refine J_isn F (L' := [(2, .int x2_5), (0, .ref (gb G + a0)), (1, .int x1), (3, .int x3)]) dX1_nodesThatAre_25 rfl (by decide) rfl ?_
        obtain ⟨x3_6, ex3_6⟩ : ∃ z : Int32, z = x3 + (nI 1) := ⟨_, rfl⟩
        have h := h x3_6 ex3_6
        refine J_iinc F (v := x3_6) (L' := [(3, .int x3_6), (2, .int x2_5), (0, .ref (gb G + a0)), (1, .int x1)]) 3 dX1_nodesThatAre_26 rfl (by rw [ki_1, ex3_6]) (by decide) rfl ?_
        refine J_goto F (tgt := 4) dX1_nodesThatAre_29 (by decide) ?_
        refine J_sub [2, 3, 1, 0] rfl ?_
        exact i4 _ _ h
set_option maxRecDepth 20000 in
set_option maxHeartbeats 4000000 in
theorem C_X1_nodesThatAre (l : Launch) (G : Gp) (a0 : Nat) (x1 : Int32) (y0 : lay a0 = (1, 0)) {σ : St} {Q : Int32 → Prop} (h : wp_X1_nodesThatAre σ a0 x1 Q) : Cn l yX1_nodesThatAre cX1_nodesThatAre 4 (some .int) 0 0 G [.ref (gb G + a0), .int x1] σ (qI (fun r σ' => σ' = σ ∧ Q r)) := by
  refine Cn_of (L := [(0, .ref (gb G + a0)), (1, .int x1)]) RX1 (by decide) rfl (Nat.le_of_ble_eq_true rfl) rfl ?_
  intro p e s m below meth c F
  unfold wp_X1_nodesThatAre at h
  refine J_ic F dX1_nodesThatAre_0 ki_0 ?_
  refine J_isn F (L' := [(2, .int (nI 0)), (0, .ref (gb G + a0)), (1, .int x1)]) dX1_nodesThatAre_1 rfl (by decide) rfl ?_
  refine J_ic F dX1_nodesThatAre_2 ki_0 ?_
  refine J_isn F (L' := [(3, .int (nI 0)), (2, .int (nI 0)), (0, .ref (gb G + a0)), (1, .int x1)]) dX1_nodesThatAre_3 rfl (by decide) rfl ?_
  refine J_sub [2, 3, 1, 0] rfl ?_
  obtain ⟨n9, h⟩ := h
  exact wk_X1_nodesThatAre_4 F y0 n9 _ _ h
theorem dX1_refusalOfHanding_0 : decode cX1_refusalOfHanding 0 = .ok (.aload_n 0, 1) := by decide +kernel
theorem dX1_refusalOfHanding_1 : decode cX1_refusalOfHanding 1 = .ok (.iconst 1, 1) := by decide +kernel
theorem dX1_refusalOfHanding_2 : decode cX1_refusalOfHanding 2 = .ok (.invokevirtual 85, 3) := by decide +kernel
theorem dX1_refusalOfHanding_5 : decode cX1_refusalOfHanding 5 = .ok (.aload_n 0, 1) := by decide +kernel
theorem dX1_refusalOfHanding_6 : decode cX1_refusalOfHanding 6 = .ok (.iconst 2, 1) := by decide +kernel
theorem dX1_refusalOfHanding_7 : decode cX1_refusalOfHanding 7 = .ok (.invokevirtual 85, 3) := by decide +kernel
theorem dX1_refusalOfHanding_10 : decode cX1_refusalOfHanding 10 = .ok (.ior, 1) := by decide +kernel
theorem dX1_refusalOfHanding_11 : decode cX1_refusalOfHanding 11 = .ok (.iconst 1, 1) := by decide +kernel
theorem dX1_refusalOfHanding_12 : decode cX1_refusalOfHanding 12 = .ok (.iload_n 1, 1) := by decide +kernel
theorem dX1_refusalOfHanding_13 : decode cX1_refusalOfHanding 13 = .ok (.ishl, 1) := by decide +kernel
theorem dX1_refusalOfHanding_14 : decode cX1_refusalOfHanding 14 = .ok (.iconst (-1), 1) := by decide +kernel
theorem dX1_refusalOfHanding_15 : decode cX1_refusalOfHanding 15 = .ok (.ixor, 1) := by decide +kernel
theorem dX1_refusalOfHanding_16 : decode cX1_refusalOfHanding 16 = .ok (.iand, 1) := by decide +kernel
theorem dX1_refusalOfHanding_17 : decode cX1_refusalOfHanding 17 = .ok (.istore_n 2, 1) := by decide +kernel
theorem dX1_refusalOfHanding_18 : decode cX1_refusalOfHanding 18 = .ok (.iload_n 2, 1) := by decide +kernel
theorem dX1_refusalOfHanding_19 : decode cX1_refusalOfHanding 19 = .ok (.ifCond .eq 18, 3) := by decide +kernel
theorem dX1_refusalOfHanding_22 : decode cX1_refusalOfHanding 22 = .ok (.iload_n 2, 1) := by decide +kernel
theorem dX1_refusalOfHanding_23 : decode cX1_refusalOfHanding 23 = .ok (.aload_n 0, 1) := by decide +kernel
theorem dX1_refusalOfHanding_24 : decode cX1_refusalOfHanding 24 = .ok (.iconst 1, 1) := by decide +kernel
theorem dX1_refusalOfHanding_25 : decode cX1_refusalOfHanding 25 = .ok (.invokevirtual 85, 3) := by decide +kernel
theorem dX1_refusalOfHanding_28 : decode cX1_refusalOfHanding 28 = .ok (.iand, 1) := by decide +kernel
theorem dX1_refusalOfHanding_29 : decode cX1_refusalOfHanding 29 = .ok (.ifCond .ne 8, 3) := by decide +kernel
theorem dX1_refusalOfHanding_32 : decode cX1_refusalOfHanding 32 = .ok (.bipush 6, 2) := by decide +kernel
theorem dX1_refusalOfHanding_34 : decode cX1_refusalOfHanding 34 = .ok (.goto 4, 3) := by decide +kernel
theorem dX1_refusalOfHanding_37 : decode cX1_refusalOfHanding 37 = .ok (.iconst 0, 1) := by decide +kernel
theorem dX1_refusalOfHanding_38 : decode cX1_refusalOfHanding 38 = .ok (.ireturn, 1) := by decide +kernel
set_option maxRecDepth 20000 in
set_option maxHeartbeats 4000000 in
theorem C_X1_refusalOfHanding (l : Launch) (G : Gp) (a0 : Nat) (x1 : Int32) (y0 : lay a0 = (1, 0)) {σ : St} {Q : Int32 → Prop} (h : wp_X1_refusalOfHanding σ a0 x1 Q) : Cn l yX1_refusalOfHanding cX1_refusalOfHanding 3 (some .int) 1 23 G [.ref (gb G + a0), .int x1] σ (qI (fun r σ' => σ' = σ ∧ Q r)) := by
  refine Cn_of (L := [(0, .ref (gb G + a0)), (1, .int x1)]) RX1 (by decide) rfl (Nat.le_of_ble_eq_true rfl) rfl ?_
  intro p e s m below meth c F
  unfold wp_X1_refusalOfHanding at h
  refine J_aln F 0 dX1_refusalOfHanding_0 rfl rfl ?_
  refine J_ic F dX1_refusalOfHanding_1 ki_1 ?_
  refine J_callVi F (As := [.int (nI 1)]) (st := []) (C_X1_nodesThatAre l G a0 (nI 1) y0 h) (ci := 1) y0 (by decide) rfl rfl lm_X1_85 li_X1_nodesThatAre ls_X1_nodesThatAre ini_X1 lc_X1_nodesThatAre hd_X1_nodesThatAre (by decide) (Nat.le_of_ble_eq_true rfl) (by decide) rfl dX1_refusalOfHanding_2 (fun r_1 σ_2 hh => ?_)
  clear h
  obtain ⟨e9, h⟩ := hh
  subst σ_2
  refine J_aln F 0 dX1_refusalOfHanding_5 rfl rfl ?_
  refine J_ic F dX1_refusalOfHanding_6 ki_2 ?_
  refine J_callVi F (As := [.int (nI 2)]) (st := [.int r_1]) (C_X1_nodesThatAre l G a0 (nI 2) y0 h) (ci := 1) y0 (by decide) rfl rfl lm_X1_85 li_X1_nodesThatAre ls_X1_nodesThatAre ini_X1 lc_X1_nodesThatAre hd_X1_nodesThatAre (by decide) (Nat.le_of_ble_eq_true rfl) (by decide) rfl dX1_refusalOfHanding_7 (fun r_3 σ_4 hh => ?_)
  clear h
  obtain ⟨e9, h⟩ := hh
  subst σ_4
  refine J_ior F dX1_refusalOfHanding_10 ?_
  refine J_ic F dX1_refusalOfHanding_11 ki_1 ?_
  refine J_iln F 1 dX1_refusalOfHanding_12 rfl rfl ?_
  refine J_ishl F dX1_refusalOfHanding_13 ?_
  refine J_ic F dX1_refusalOfHanding_14 ki_m1 ?_
  refine J_ixor F dX1_refusalOfHanding_15 ?_
  refine J_iand F dX1_refusalOfHanding_16 ?_
  refine J_top (fun x2_5 ex2_5 => ?_)
  have h := h x2_5 ex2_5
  refine J_isn F (L' := [(2, .int x2_5), (0, .ref (gb G + a0)), (1, .int x1)]) dX1_refusalOfHanding_17 rfl (by decide) rfl ?_
  refine J_iln F 0 dX1_refusalOfHanding_18 rfl rfl ?_
  refine J_zeq F (tgt := 37) dX1_refusalOfHanding_19 (by decide) (fun c_6 => ?_) (fun c_6 => ?_)
  · have h := h.1 c_6
    refine J_ic F dX1_refusalOfHanding_37 ki_0 ?_
    exact J_reti F ⟨_, rfl, rfl, h⟩ dX1_refusalOfHanding_38
  · have h := h.2 c_6
    refine J_iln F 0 dX1_refusalOfHanding_22 rfl rfl ?_
    refine J_aln F 1 dX1_refusalOfHanding_23 rfl rfl ?_
    refine J_ic F dX1_refusalOfHanding_24 ki_1 ?_
    refine J_callVi F (As := [.int (nI 1)]) (st := [.int x2_5]) (C_X1_nodesThatAre l G a0 (nI 1) y0 h) (ci := 1) y0 (by decide) rfl rfl lm_X1_85 li_X1_nodesThatAre ls_X1_nodesThatAre ini_X1 lc_X1_nodesThatAre hd_X1_nodesThatAre (by decide) (Nat.le_of_ble_eq_true rfl) (by decide) rfl dX1_refusalOfHanding_25 (fun r_7 σ_8 hh => ?_)
    clear h
    obtain ⟨e9, h⟩ := hh
    subst σ_8
    refine J_iand F dX1_refusalOfHanding_28 ?_
    refine J_zne F (tgt := 37) dX1_refusalOfHanding_29 (by decide) (fun c_9 => ?_) (fun c_9 => ?_)
    · have h := h.1 c_9
      refine J_ic F dX1_refusalOfHanding_37 ki_0 ?_
      exact J_reti F ⟨_, rfl, rfl, h⟩ dX1_refusalOfHanding_38
    · have h := h.2 c_9
      refine J_bi F dX1_refusalOfHanding_32 kb_6 ?_
      refine J_goto F (tgt := 38) dX1_refusalOfHanding_34 (by decide) ?_
      exact J_reti F ⟨_, rfl, rfl, h⟩ dX1_refusalOfHanding_38
theorem dX1_pointOf_0 : decode cX1_pointOf 0 = .ok (.iload_n 0, 1) := by decide +kernel
theorem dX1_pointOf_1 : decode cX1_pointOf 1 = .ok (.iconst 1, 1) := by decide +kernel
theorem dX1_pointOf_2 : decode cX1_pointOf 2 = .ok (.iadd, 1) := by decide +kernel
theorem dX1_pointOf_3 : decode cX1_pointOf 3 = .ok (.sipush 397, 3) := by decide +kernel
theorem dX1_pointOf_6 : decode cX1_pointOf 6 = .ok (.sipush 214, 3) := by decide +kernel
theorem dX1_pointOf_9 : decode cX1_pointOf 9 = .ok (.iload_n 1, 1) := by decide +kernel
theorem dX1_pointOf_10 : decode cX1_pointOf 10 = .ok (.imul, 1) := by decide +kernel
theorem dX1_pointOf_11 : decode cX1_pointOf 11 = .ok (.iadd, 1) := by decide +kernel
theorem dX1_pointOf_12 : decode cX1_pointOf 12 = .ok (.imul, 1) := by decide +kernel
theorem dX1_pointOf_13 : decode cX1_pointOf 13 = .ok (.sipush 1023, 3) := by decide +kernel
theorem dX1_pointOf_16 : decode cX1_pointOf 16 = .ok (.iand, 1) := by decide +kernel
theorem dX1_pointOf_17 : decode cX1_pointOf 17 = .ok (.ireturn, 1) := by decide +kernel
set_option maxRecDepth 20000 in
set_option maxHeartbeats 4000000 in
theorem C_X1_pointOf (l : Launch) (G : Gp) (x0 : Int32) (x1 : Int32)  {σ : St} {Q : Int32 → Prop} (h : wp_X1_pointOf σ x0 x1 Q) : Cn l yX1_pointOf cX1_pointOf 2 (some .int) 0 0 G [.int x0, .int x1] σ (qI (fun r σ' => σ' = σ ∧ Q r)) := by
  refine Cn_of (L := [(0, .int x0), (1, .int x1)]) RX1 (by decide) rfl (Nat.le_of_ble_eq_true rfl) rfl ?_
  intro p e s m below meth c F
  unfold wp_X1_pointOf at h
  refine J_iln F 0 dX1_pointOf_0 rfl rfl ?_
  refine J_ic F dX1_pointOf_1 ki_1 ?_
  refine J_iadd F dX1_pointOf_2 ?_
  refine J_si F dX1_pointOf_3 ks_397 ?_
  refine J_si F dX1_pointOf_6 ks_214 ?_
  refine J_iln F 1 dX1_pointOf_9 rfl rfl ?_
  refine J_imul F dX1_pointOf_10 ?_
  refine J_iadd F dX1_pointOf_11 ?_
  refine J_imul F dX1_pointOf_12 ?_
  refine J_si F dX1_pointOf_13 ks_1023 ?_
  refine J_iand F dX1_pointOf_16 ?_
  exact J_reti F ⟨_, rfl, rfl, h⟩ dX1_pointOf_17
theorem dX1_pointX_0 : decode cX1_pointX 0 = .ok (.iload_n 0, 1) := by decide +kernel
theorem dX1_pointX_1 : decode cX1_pointX 1 = .ok (.iload_n 1, 1) := by decide +kernel
theorem dX1_pointX_2 : decode cX1_pointX 2 = .ok (.invokestatic 167, 3) := by decide +kernel
theorem dX1_pointX_5 : decode cX1_pointX 5 = .ok (.bipush 31, 2) := by decide +kernel
theorem dX1_pointX_7 : decode cX1_pointX 7 = .ok (.iand, 1) := by decide +kernel
theorem dX1_pointX_8 : decode cX1_pointX 8 = .ok (.ireturn, 1) := by decide +kernel
set_option maxRecDepth 20000 in
set_option maxHeartbeats 4000000 in
theorem C_X1_pointX (l : Launch) (G : Gp) (x0 : Int32) (x1 : Int32)  {σ : St} {Q : Int32 → Prop} (h : wp_X1_pointX σ x0 x1 Q) : Cn l yX1_pointX cX1_pointX 2 (some .int) 1 21 G [.int x0, .int x1] σ (qI (fun r σ' => σ' = σ ∧ Q r)) := by
  refine Cn_of (L := [(0, .int x0), (1, .int x1)]) RX1 (by decide) rfl (Nat.le_of_ble_eq_true rfl) rfl ?_
  intro p e s m below meth c F
  unfold wp_X1_pointX at h
  refine J_iln F 0 dX1_pointX_0 rfl rfl ?_
  refine J_iln F 1 dX1_pointX_1 rfl rfl ?_
  refine J_callSi F (As := [.int x0, .int x1]) (st := []) (C_X1_pointOf l G x0 x1  h) lm_X1_167 li_X1_pointOf ini_X1 lc_X1_pointOf hd_X1_pointOf (by decide) (Nat.le_of_ble_eq_true rfl) (by decide) rfl dX1_pointX_2 (fun r_1 σ_2 hh => ?_)
  clear h
  obtain ⟨e9, h⟩ := hh
  subst σ_2
  refine J_bi F dX1_pointX_5 kb_31 ?_
  refine J_iand F dX1_pointX_7 ?_
  exact J_reti F ⟨_, rfl, rfl, h⟩ dX1_pointX_8
theorem dX1_pointY_0 : decode cX1_pointY 0 = .ok (.iload_n 0, 1) := by decide +kernel
theorem dX1_pointY_1 : decode cX1_pointY 1 = .ok (.iload_n 1, 1) := by decide +kernel
theorem dX1_pointY_2 : decode cX1_pointY 2 = .ok (.invokestatic 167, 3) := by decide +kernel
theorem dX1_pointY_5 : decode cX1_pointY 5 = .ok (.bipush 32, 2) := by decide +kernel
theorem dX1_pointY_7 : decode cX1_pointY 7 = .ok (.idiv, 1) := by decide +kernel
theorem dX1_pointY_8 : decode cX1_pointY 8 = .ok (.ireturn, 1) := by decide +kernel
set_option maxRecDepth 20000 in
set_option maxHeartbeats 4000000 in
theorem C_X1_pointY (l : Launch) (G : Gp) (x0 : Int32) (x1 : Int32)  {σ : St} {Q : Int32 → Prop} (h : wp_X1_pointY σ x0 x1 Q) : Cn l yX1_pointY cX1_pointY 2 (some .int) 1 21 G [.int x0, .int x1] σ (qI (fun r σ' => σ' = σ ∧ Q r)) := by
  refine Cn_of (L := [(0, .int x0), (1, .int x1)]) RX1 (by decide) rfl (Nat.le_of_ble_eq_true rfl) rfl ?_
  intro p e s m below meth c F
  unfold wp_X1_pointY at h
  refine J_iln F 0 dX1_pointY_0 rfl rfl ?_
  refine J_iln F 1 dX1_pointY_1 rfl rfl ?_
  refine J_callSi F (As := [.int x0, .int x1]) (st := []) (C_X1_pointOf l G x0 x1  h) lm_X1_167 li_X1_pointOf ini_X1 lc_X1_pointOf hd_X1_pointOf (by decide) (Nat.le_of_ble_eq_true rfl) (by decide) rfl dX1_pointY_2 (fun r_1 σ_2 hh => ?_)
  clear h
  obtain ⟨e9, h⟩ := hh
  subst σ_2
  refine J_bi F dX1_pointY_5 kb_32 ?_
  refine J_idiv F dX1_pointY_7 nz_32 ?_
  exact J_reti F ⟨_, rfl, rfl, h⟩ dX1_pointY_8
theorem dX1_realitiesWithin_0 : decode cX1_realitiesWithin 0 = .ok (.iconst 0, 1) := by decide +kernel
theorem dX1_realitiesWithin_1 : decode cX1_realitiesWithin 1 = .ok (.istore_n 2, 1) := by decide +kernel
theorem dX1_realitiesWithin_2 : decode cX1_realitiesWithin 2 = .ok (.iconst 0, 1) := by decide +kernel
theorem dX1_realitiesWithin_3 : decode cX1_realitiesWithin 3 = .ok (.istore_n 3, 1) := by decide +kernel
theorem dX1_realitiesWithin_4 : decode cX1_realitiesWithin 4 = .ok (.iload_n 3, 1) := by decide +kernel
theorem dX1_realitiesWithin_5 : decode cX1_realitiesWithin 5 = .ok (.aload_n 0, 1) := by decide +kernel
theorem dX1_realitiesWithin_6 : decode cX1_realitiesWithin 6 = .ok (.getfield 43, 3) := by decide +kernel
theorem dX1_realitiesWithin_9 : decode cX1_realitiesWithin 9 = .ok (.if_icmp .ge 53, 3) := by decide +kernel
theorem dX1_realitiesWithin_12 : decode cX1_realitiesWithin 12 = .ok (.aload_n 0, 1) := by decide +kernel
theorem dX1_realitiesWithin_13 : decode cX1_realitiesWithin 13 = .ok (.getfield 11, 3) := by decide +kernel
theorem dX1_realitiesWithin_16 : decode cX1_realitiesWithin 16 = .ok (.iload_n 3, 1) := by decide +kernel
theorem dX1_realitiesWithin_17 : decode cX1_realitiesWithin 17 = .ok (.aaload, 1) := by decide +kernel
theorem dX1_realitiesWithin_18 : decode cX1_realitiesWithin 18 = .ok (.iload_n 1, 1) := by decide +kernel
theorem dX1_realitiesWithin_19 : decode cX1_realitiesWithin 19 = .ok (.iload_n 3, 1) := by decide +kernel
theorem dX1_realitiesWithin_20 : decode cX1_realitiesWithin 20 = .ok (.invokestatic 170, 3) := by decide +kernel
theorem dX1_realitiesWithin_23 : decode cX1_realitiesWithin 23 = .ok (.iload_n 1, 1) := by decide +kernel
theorem dX1_realitiesWithin_24 : decode cX1_realitiesWithin 24 = .ok (.iload_n 3, 1) := by decide +kernel
theorem dX1_realitiesWithin_25 : decode cX1_realitiesWithin 25 = .ok (.invokestatic 173, 3) := by decide +kernel
theorem dX1_realitiesWithin_28 : decode cX1_realitiesWithin 28 = .ok (.invokevirtual 98, 3) := by decide +kernel
theorem dX1_realitiesWithin_31 : decode cX1_realitiesWithin 31 = .ok (.istore 4, 2) := by decide +kernel
theorem dX1_realitiesWithin_33 : decode cX1_realitiesWithin 33 = .ok (.iload 4, 2) := by decide +kernel
theorem dX1_realitiesWithin_35 : decode cX1_realitiesWithin 35 = .ok (.iconst (-1), 1) := by decide +kernel
theorem dX1_realitiesWithin_36 : decode cX1_realitiesWithin 36 = .ok (.if_icmp .eq 20, 3) := by decide +kernel
theorem dX1_realitiesWithin_39 : decode cX1_realitiesWithin 39 = .ok (.aload_n 0, 1) := by decide +kernel
theorem dX1_realitiesWithin_40 : decode cX1_realitiesWithin 40 = .ok (.getfield 17, 3) := by decide +kernel
theorem dX1_realitiesWithin_43 : decode cX1_realitiesWithin 43 = .ok (.iload 4, 2) := by decide +kernel
theorem dX1_realitiesWithin_45 : decode cX1_realitiesWithin 45 = .ok (.iaload, 1) := by decide +kernel
theorem dX1_realitiesWithin_46 : decode cX1_realitiesWithin 46 = .ok (.iconst 1, 1) := by decide +kernel
theorem dX1_realitiesWithin_47 : decode cX1_realitiesWithin 47 = .ok (.if_icmp .ne 9, 3) := by decide +kernel
theorem dX1_realitiesWithin_50 : decode cX1_realitiesWithin 50 = .ok (.iload_n 2, 1) := by decide +kernel
theorem dX1_realitiesWithin_51 : decode cX1_realitiesWithin 51 = .ok (.iconst 1, 1) := by decide +kernel
theorem dX1_realitiesWithin_52 : decode cX1_realitiesWithin 52 = .ok (.iload_n 3, 1) := by decide +kernel
theorem dX1_realitiesWithin_53 : decode cX1_realitiesWithin 53 = .ok (.ishl, 1) := by decide +kernel
theorem dX1_realitiesWithin_54 : decode cX1_realitiesWithin 54 = .ok (.ior, 1) := by decide +kernel
theorem dX1_realitiesWithin_55 : decode cX1_realitiesWithin 55 = .ok (.istore_n 2, 1) := by decide +kernel
theorem dX1_realitiesWithin_56 : decode cX1_realitiesWithin 56 = .ok (.iinc 3 1, 3) := by decide +kernel
theorem dX1_realitiesWithin_59 : decode cX1_realitiesWithin 59 = .ok (.goto (-55), 3) := by decide +kernel
theorem dX1_realitiesWithin_62 : decode cX1_realitiesWithin 62 = .ok (.iload_n 2, 1) := by decide +kernel
theorem dX1_realitiesWithin_63 : decode cX1_realitiesWithin 63 = .ok (.ireturn, 1) := by decide +kernel
set_option maxRecDepth 20000 in
set_option maxHeartbeats 4000000 in
theorem wk_X1_realitiesWithin_4 {p : Program} {l : Launch} {e : Env} {s : State} {m : MethodId} {args : Array Value} {below : List Frame} {meth : Method} {c : Code} {G : Gp} {σ : St} {a0 : Nat} {x1 : Int32}  {Q : Int32 → Prop} (F : FX p s m args meth c cX1_realitiesWithin 5 (some .int) RX1 G) (y0 : lay a0 = (1, 0))  : ∀ (n9 : Nat) (x2 : Int32) (x3 : Int32), LP2 (wp_X1_realitiesWithin_4 σ a0 x1 Q) n9 x2 x3 → J p l e (rmF 2 46) s m args below meth c 5 G (MQ below (QQ G (qI (fun r σ' => σ' = σ ∧ Q r))) args s 0 0 (fr G)) 0 0 4 [(0, .ref (gb G + a0)), (1, .int x1), (2, .int x2), (3, .int x3)] [] σ := by
  intro n9
  induction n9 with
  | zero => intro x2 x3 h; exact h.elim
  | succ n9 i4 =>
    intro x2 x3 h
    have h : wp_X1_realitiesWithin_4 σ a0 x1 Q (LP2 (wp_X1_realitiesWithin_4 σ a0 x1 Q) n9) x2 x3 := h
    unfold wp_X1_realitiesWithin_4 at h
    refine J_iln F 3 dX1_realitiesWithin_4 rfl rfl ?_
    refine J_aln F 0 dX1_realitiesWithin_5 rfl rfl ?_
    refine J_gfi F (ci := 1) 9 rfl inX1 y0 (by decide) (by decide) rfl lf_X1_43 rfl dX1_realitiesWithin_6 ?_
    refine J_cge F (tgt := 62) dX1_realitiesWithin_9 (by decide) (fun c_1 => ?_) (fun c_1 => ?_)
    · have h := h.1 c_1
      refine J_iln F 2 dX1_realitiesWithin_62 rfl rfl ?_
      exact J_reti F ⟨_, rfl, rfl, h⟩ dX1_realitiesWithin_63
    · have h := h.2 c_1
      refine J_aln F 0 dX1_realitiesWithin_12 rfl rfl ?_
      refine J_gfr F (ci := 1) 0 rfl inX1 y0 (by decide) (by decide) rfl lf_X1_11 rfl dX1_realitiesWithin_13 ?_
      refine J_iln F 3 dX1_realitiesWithin_16 rfl rfl ?_
      obtain ⟨h_2, h⟩ := h
      refine J_aldS F (lay_net y0).1 h_2 dX1_realitiesWithin_17 ?_
      refine J_iln F 1 dX1_realitiesWithin_18 rfl rfl ?_
      refine J_iln F 3 dX1_realitiesWithin_19 rfl rfl ?_
      refine J_callSi F (As := [.int x1, .int x3]) (st := [.ref (gb G + (a0 + 1 + 8 + 4 * Int32.toNatClampNeg x3))]) (C_X1_pointX l G x1 x3  h) lm_X1_170 li_X1_pointX ini_X1 lc_X1_pointX hd_X1_pointX (by decide) (Nat.le_of_ble_eq_true rfl) (by decide) rfl dX1_realitiesWithin_20 (fun r_3 σ_4 hh => ?_)
      clear h
      obtain ⟨e9, h⟩ := hh
      subst σ_4
      refine J_iln F 1 dX1_realitiesWithin_23 rfl rfl ?_
      refine J_iln F 3 dX1_realitiesWithin_24 rfl rfl ?_
      refine J_callSi F (As := [.int x1, .int x3]) (st := [.int r_3, .ref (gb G + (a0 + 1 + 8 + 4 * Int32.toNatClampNeg x3))]) (C_X1_pointY l G x1 x3  h) lm_X1_173 li_X1_pointY ini_X1 lc_X1_pointY hd_X1_pointY (by decide) (Nat.le_of_ble_eq_true rfl) (by decide) rfl dX1_realitiesWithin_25 (fun r_5 σ_6 hh => ?_)
      clear h
      obtain ⟨e9, h⟩ := hh
      subst σ_6
      refine J_callVi F (As := [.int r_3, .int r_5]) (st := []) (C_X4_nodeAt l G (a0 + 1 + 8 + 4 * Int32.toNatClampNeg x3) r_3 r_5 (lay_sp y0 h_2) h) (ci := 4) (lay_sp y0 h_2) (by decide) rfl rfl lm_X1_98 li_X4_nodeAt ls_X4_nodeAt ini_X4 lc_X4_nodeAt hd_X4_nodeAt (by decide) (Nat.le_of_ble_eq_true rfl) (by decide) rfl dX1_realitiesWithin_28 (fun r_7 σ_8 hh => ?_)
      clear h
      obtain ⟨e9, h⟩ := hh
      subst σ_8
      refine J_is F (L' := [(4, .int r_7), (0, .ref (gb G + a0)), (1, .int x1), (2, .int x2), (3, .int x3)]) dX1_realitiesWithin_31 (by decide) rfl ?_
      refine J_il F 0 dX1_realitiesWithin_33 rfl ?_
      refine J_ic F dX1_realitiesWithin_35 ki_m1 ?_
      refine J_ceq F (tgt := 56) dX1_realitiesWithin_36 (by decide) (fun c_9 => ?_) (fun c_9 => ?_)
      · have h := h.1 c_9
        obtain ⟨x3_10, ex3_10⟩ : ∃ z : Int32, z = x3 + (nI 1) := ⟨_, rfl⟩
        have h := h x3_10 ex3_10
        refine J_iinc F (v := x3_10) (L' := [(3, .int x3_10), (4, .int r_7), (0, .ref (gb G + a0)), (1, .int x1), (2, .int x2)]) 4 dX1_realitiesWithin_56 rfl (by rw [ki_1, ex3_10]) (by decide) rfl ?_
        refine J_goto F (tgt := 4) dX1_realitiesWithin_59 (by decide) ?_
        refine J_sub [2, 3, 4, 0] rfl ?_
        exact i4 _ _ h
      · have h := h.2 c_9
        refine J_aln F 1 dX1_realitiesWithin_39 rfl rfl ?_
        refine J_gfr F (ci := 1) 1 rfl inX1 y0 (by decide) (by decide) rfl lf_X1_17 rfl dX1_realitiesWithin_40 ?_
        refine J_il F 0 dX1_realitiesWithin_43 rfl ?_
        obtain ⟨h_11, h⟩ := h
        refine J_iald F (lay_net y0).2.1 h_11 dX1_realitiesWithin_45 ?_
        refine J_ic F dX1_realitiesWithin_46 ki_1 ?_
        refine J_cne F (tgt := 56) dX1_realitiesWithin_47 (by decide) (fun c_12 => ?_) (fun c_12 => ?_)
        · have h := h.1 c_12
          obtain ⟨x3_13, ex3_13⟩ : ∃ z : Int32, z = x3 + (nI 1) := ⟨_, rfl⟩
          have h := h x3_13 ex3_13
          refine J_iinc F (v := x3_13) (L' := [(3, .int x3_13), (4, .int r_7), (0, .ref (gb G + a0)), (1, .int x1), (2, .int x2)]) 4 dX1_realitiesWithin_56 rfl (by rw [ki_1, ex3_13]) (by decide) rfl ?_
          refine J_goto F (tgt := 4) dX1_realitiesWithin_59 (by decide) ?_
          refine J_sub [2, 3, 4, 0] rfl ?_
          exact i4 _ _ h
        · have h := h.2 c_12
          refine J_iln F 3 dX1_realitiesWithin_50 rfl rfl ?_
          refine J_ic F dX1_realitiesWithin_51 ki_1 ?_
          refine J_iln F 4 dX1_realitiesWithin_52 rfl rfl ?_
          refine J_ishl F dX1_realitiesWithin_53 ?_
          refine J_ior F dX1_realitiesWithin_54 ?_
          refine J_top (fun x2_14 ex2_14 => ?_)
          have h := h x2_14 ex2_14
          refine J_isn F (L' := [(2, .int x2_14), (4, .int r_7), (0, .ref (gb G + a0)), (1, .int x1), (3, .int x3)]) dX1_realitiesWithin_55 rfl (by decide) rfl ?_
          obtain ⟨x3_15, ex3_15⟩ : ∃ z : Int32, z = x3 + (nI 1) := ⟨_, rfl⟩
          have h := h x3_15 ex3_15
          refine J_iinc F (v := x3_15) (L' := [(3, .int x3_15), (2, .int x2_14), (4, .int r_7), (0, .ref (gb G + a0)), (1, .int x1)]) 4 dX1_realitiesWithin_56 rfl (by rw [ki_1, ex3_15]) (by decide) rfl ?_
          refine J_goto F (tgt := 4) dX1_realitiesWithin_59 (by decide) ?_
          refine J_sub [3, 4, 1, 0] rfl ?_
          exact i4 _ _ h
set_option maxRecDepth 20000 in
set_option maxHeartbeats 4000000 in
theorem C_X1_realitiesWithin (l : Launch) (G : Gp) (a0 : Nat) (x1 : Int32) (y0 : lay a0 = (1, 0)) {σ : St} {Q : Int32 → Prop} (h : wp_X1_realitiesWithin σ a0 x1 Q) : Cn l yX1_realitiesWithin cX1_realitiesWithin 5 (some .int) 2 46 G [.ref (gb G + a0), .int x1] σ (qI (fun r σ' => σ' = σ ∧ Q r)) := by
  refine Cn_of (L := [(0, .ref (gb G + a0)), (1, .int x1)]) RX1 (by decide) rfl (Nat.le_of_ble_eq_true rfl) rfl ?_
  intro p e s m below meth c F
  unfold wp_X1_realitiesWithin at h
  refine J_ic F dX1_realitiesWithin_0 ki_0 ?_
  refine J_isn F (L' := [(2, .int (nI 0)), (0, .ref (gb G + a0)), (1, .int x1)]) dX1_realitiesWithin_1 rfl (by decide) rfl ?_
  refine J_ic F dX1_realitiesWithin_2 ki_0 ?_
  refine J_isn F (L' := [(3, .int (nI 0)), (2, .int (nI 0)), (0, .ref (gb G + a0)), (1, .int x1)]) dX1_realitiesWithin_3 rfl (by decide) rfl ?_
  refine J_sub [2, 3, 1, 0] rfl ?_
  obtain ⟨n9, h⟩ := h
  exact wk_X1_realitiesWithin_4 F y0 n9 _ _ h
theorem dX1_refusalOf_0 : decode cX1_refusalOf 0 = .ok (.aload_n 1, 1) := by decide +kernel
theorem dX1_refusalOf_1 : decode cX1_refusalOf 1 = .ok (.getfield 63, 3) := by decide +kernel
theorem dX1_refusalOf_4 : decode cX1_refusalOf 4 = .ok (.astore_n 2, 1) := by decide +kernel
theorem dX1_refusalOf_5 : decode cX1_refusalOf 5 = .ok (.aload_n 1, 1) := by decide +kernel
theorem dX1_refusalOf_6 : decode cX1_refusalOf 6 = .ok (.getfield 68, 3) := by decide +kernel
theorem dX1_refusalOf_9 : decode cX1_refusalOf 9 = .ok (.tableswitch 219 1 9 #[51, 66, 77, 102, 126, 144, 168, 183, 200], 51) := by decide +kernel
theorem dX1_refusalOf_60 : decode cX1_refusalOf 60 = .ok (.aload_n 0, 1) := by decide +kernel
theorem dX1_refusalOf_61 : decode cX1_refusalOf 61 = .ok (.getfield 39, 3) := by decide +kernel
theorem dX1_refusalOf_64 : decode cX1_refusalOf 64 = .ok (.iconst 3, 1) := by decide +kernel
theorem dX1_refusalOf_65 : decode cX1_refusalOf 65 = .ok (.if_icmp .ge 7, 3) := by decide +kernel
theorem dX1_refusalOf_68 : decode cX1_refusalOf 68 = .ok (.iconst 0, 1) := by decide +kernel
theorem dX1_refusalOf_69 : decode cX1_refusalOf 69 = .ok (.goto 5, 3) := by decide +kernel
theorem dX1_refusalOf_72 : decode cX1_refusalOf 72 = .ok (.bipush 10, 2) := by decide +kernel
theorem dX1_refusalOf_74 : decode cX1_refusalOf 74 = .ok (.ireturn, 1) := by decide +kernel
theorem dX1_refusalOf_75 : decode cX1_refusalOf 75 = .ok (.aload_n 0, 1) := by decide +kernel
theorem dX1_refusalOf_76 : decode cX1_refusalOf 76 = .ok (.aload_n 2, 1) := by decide +kernel
theorem dX1_refusalOf_77 : decode cX1_refusalOf 77 = .ok (.iconst 2, 1) := by decide +kernel
theorem dX1_refusalOf_78 : decode cX1_refusalOf 78 = .ok (.iaload, 1) := by decide +kernel
theorem dX1_refusalOf_79 : decode cX1_refusalOf 79 = .ok (.aload_n 2, 1) := by decide +kernel
theorem dX1_refusalOf_80 : decode cX1_refusalOf 80 = .ok (.iconst 3, 1) := by decide +kernel
theorem dX1_refusalOf_81 : decode cX1_refusalOf 81 = .ok (.iaload, 1) := by decide +kernel
theorem dX1_refusalOf_82 : decode cX1_refusalOf 82 = .ok (.invokevirtual 71, 3) := by decide +kernel
theorem dX1_refusalOf_85 : decode cX1_refusalOf 85 = .ok (.ireturn, 1) := by decide +kernel
theorem dX1_refusalOf_86 : decode cX1_refusalOf 86 = .ok (.aload_n 0, 1) := by decide +kernel
theorem dX1_refusalOf_87 : decode cX1_refusalOf 87 = .ok (.aload_n 0, 1) := by decide +kernel
theorem dX1_refusalOf_88 : decode cX1_refusalOf 88 = .ok (.aload_n 2, 1) := by decide +kernel
theorem dX1_refusalOf_89 : decode cX1_refusalOf 89 = .ok (.iconst 0, 1) := by decide +kernel
theorem dX1_refusalOf_90 : decode cX1_refusalOf 90 = .ok (.iaload, 1) := by decide +kernel
theorem dX1_refusalOf_91 : decode cX1_refusalOf 91 = .ok (.aload_n 2, 1) := by decide +kernel
theorem dX1_refusalOf_92 : decode cX1_refusalOf 92 = .ok (.iconst 1, 1) := by decide +kernel
theorem dX1_refusalOf_93 : decode cX1_refusalOf 93 = .ok (.iaload, 1) := by decide +kernel
theorem dX1_refusalOf_94 : decode cX1_refusalOf 94 = .ok (.invokevirtual 75, 3) := by decide +kernel
theorem dX1_refusalOf_97 : decode cX1_refusalOf 97 = .ok (.aload_n 0, 1) := by decide +kernel
theorem dX1_refusalOf_98 : decode cX1_refusalOf 98 = .ok (.aload_n 2, 1) := by decide +kernel
theorem dX1_refusalOf_99 : decode cX1_refusalOf 99 = .ok (.iconst 0, 1) := by decide +kernel
theorem dX1_refusalOf_100 : decode cX1_refusalOf 100 = .ok (.iaload, 1) := by decide +kernel
theorem dX1_refusalOf_101 : decode cX1_refusalOf 101 = .ok (.aload_n 2, 1) := by decide +kernel
theorem dX1_refusalOf_102 : decode cX1_refusalOf 102 = .ok (.iconst 1, 1) := by decide +kernel
theorem dX1_refusalOf_103 : decode cX1_refusalOf 103 = .ok (.iaload, 1) := by decide +kernel
theorem dX1_refusalOf_104 : decode cX1_refusalOf 104 = .ok (.invokevirtual 78, 3) := by decide +kernel
theorem dX1_refusalOf_107 : decode cX1_refusalOf 107 = .ok (.invokevirtual 71, 3) := by decide +kernel
theorem dX1_refusalOf_110 : decode cX1_refusalOf 110 = .ok (.ireturn, 1) := by decide +kernel
theorem dX1_refusalOf_111 : decode cX1_refusalOf 111 = .ok (.aload_n 0, 1) := by decide +kernel
theorem dX1_refusalOf_112 : decode cX1_refusalOf 112 = .ok (.getfield 17, 3) := by decide +kernel
theorem dX1_refusalOf_115 : decode cX1_refusalOf 115 = .ok (.aload_n 2, 1) := by decide +kernel
theorem dX1_refusalOf_116 : decode cX1_refusalOf 116 = .ok (.iconst 0, 1) := by decide +kernel
theorem dX1_refusalOf_117 : decode cX1_refusalOf 117 = .ok (.iaload, 1) := by decide +kernel
theorem dX1_refusalOf_118 : decode cX1_refusalOf 118 = .ok (.iaload, 1) := by decide +kernel
theorem dX1_refusalOf_119 : decode cX1_refusalOf 119 = .ok (.iconst 1, 1) := by decide +kernel
theorem dX1_refusalOf_120 : decode cX1_refusalOf 120 = .ok (.if_icmp .eq 7, 3) := by decide +kernel
theorem dX1_refusalOf_123 : decode cX1_refusalOf 123 = .ok (.iconst 4, 1) := by decide +kernel
theorem dX1_refusalOf_124 : decode cX1_refusalOf 124 = .ok (.goto 10, 3) := by decide +kernel
theorem dX1_refusalOf_127 : decode cX1_refusalOf 127 = .ok (.aload_n 0, 1) := by decide +kernel
theorem dX1_refusalOf_128 : decode cX1_refusalOf 128 = .ok (.aload_n 2, 1) := by decide +kernel
theorem dX1_refusalOf_129 : decode cX1_refusalOf 129 = .ok (.iconst 0, 1) := by decide +kernel
theorem dX1_refusalOf_130 : decode cX1_refusalOf 130 = .ok (.iaload, 1) := by decide +kernel
theorem dX1_refusalOf_131 : decode cX1_refusalOf 131 = .ok (.invokevirtual 81, 3) := by decide +kernel
theorem dX1_refusalOf_134 : decode cX1_refusalOf 134 = .ok (.ireturn, 1) := by decide +kernel
theorem dX1_refusalOf_135 : decode cX1_refusalOf 135 = .ok (.aload_n 0, 1) := by decide +kernel
theorem dX1_refusalOf_136 : decode cX1_refusalOf 136 = .ok (.getfield 17, 3) := by decide +kernel
theorem dX1_refusalOf_139 : decode cX1_refusalOf 139 = .ok (.aload_n 2, 1) := by decide +kernel
theorem dX1_refusalOf_140 : decode cX1_refusalOf 140 = .ok (.iconst 0, 1) := by decide +kernel
theorem dX1_refusalOf_141 : decode cX1_refusalOf 141 = .ok (.iaload, 1) := by decide +kernel
theorem dX1_refusalOf_142 : decode cX1_refusalOf 142 = .ok (.iaload, 1) := by decide +kernel
theorem dX1_refusalOf_143 : decode cX1_refusalOf 143 = .ok (.iconst 1, 1) := by decide +kernel
theorem dX1_refusalOf_144 : decode cX1_refusalOf 144 = .ok (.if_icmp .eq 7, 3) := by decide +kernel
theorem dX1_refusalOf_147 : decode cX1_refusalOf 147 = .ok (.iconst 4, 1) := by decide +kernel
theorem dX1_refusalOf_148 : decode cX1_refusalOf 148 = .ok (.goto 4, 3) := by decide +kernel
theorem dX1_refusalOf_151 : decode cX1_refusalOf 151 = .ok (.iconst 0, 1) := by decide +kernel
theorem dX1_refusalOf_152 : decode cX1_refusalOf 152 = .ok (.ireturn, 1) := by decide +kernel
theorem dX1_refusalOf_153 : decode cX1_refusalOf 153 = .ok (.aload_n 0, 1) := by decide +kernel
theorem dX1_refusalOf_154 : decode cX1_refusalOf 154 = .ok (.getfield 17, 3) := by decide +kernel
theorem dX1_refusalOf_157 : decode cX1_refusalOf 157 = .ok (.aload_n 2, 1) := by decide +kernel
theorem dX1_refusalOf_158 : decode cX1_refusalOf 158 = .ok (.iconst 0, 1) := by decide +kernel
theorem dX1_refusalOf_159 : decode cX1_refusalOf 159 = .ok (.iaload, 1) := by decide +kernel
theorem dX1_refusalOf_160 : decode cX1_refusalOf 160 = .ok (.iaload, 1) := by decide +kernel
theorem dX1_refusalOf_161 : decode cX1_refusalOf 161 = .ok (.iconst 2, 1) := by decide +kernel
theorem dX1_refusalOf_162 : decode cX1_refusalOf 162 = .ok (.if_icmp .eq 7, 3) := by decide +kernel
theorem dX1_refusalOf_165 : decode cX1_refusalOf 165 = .ok (.iconst 5, 1) := by decide +kernel
theorem dX1_refusalOf_166 : decode cX1_refusalOf 166 = .ok (.goto 10, 3) := by decide +kernel
theorem dX1_refusalOf_169 : decode cX1_refusalOf 169 = .ok (.aload_n 0, 1) := by decide +kernel
theorem dX1_refusalOf_170 : decode cX1_refusalOf 170 = .ok (.aload_n 2, 1) := by decide +kernel
theorem dX1_refusalOf_171 : decode cX1_refusalOf 171 = .ok (.iconst 0, 1) := by decide +kernel
theorem dX1_refusalOf_172 : decode cX1_refusalOf 172 = .ok (.iaload, 1) := by decide +kernel
theorem dX1_refusalOf_173 : decode cX1_refusalOf 173 = .ok (.invokevirtual 81, 3) := by decide +kernel
theorem dX1_refusalOf_176 : decode cX1_refusalOf 176 = .ok (.ireturn, 1) := by decide +kernel
theorem dX1_refusalOf_177 : decode cX1_refusalOf 177 = .ok (.aload_n 0, 1) := by decide +kernel
theorem dX1_refusalOf_178 : decode cX1_refusalOf 178 = .ok (.iconst 2, 1) := by decide +kernel
theorem dX1_refusalOf_179 : decode cX1_refusalOf 179 = .ok (.invokevirtual 85, 3) := by decide +kernel
theorem dX1_refusalOf_182 : decode cX1_refusalOf 182 = .ok (.ifCond .eq 8, 3) := by decide +kernel
theorem dX1_refusalOf_185 : decode cX1_refusalOf 185 = .ok (.bipush 7, 2) := by decide +kernel
theorem dX1_refusalOf_187 : decode cX1_refusalOf 187 = .ok (.goto 4, 3) := by decide +kernel
theorem dX1_refusalOf_190 : decode cX1_refusalOf 190 = .ok (.iconst 0, 1) := by decide +kernel
theorem dX1_refusalOf_191 : decode cX1_refusalOf 191 = .ok (.ireturn, 1) := by decide +kernel
theorem dX1_refusalOf_192 : decode cX1_refusalOf 192 = .ok (.aload_n 0, 1) := by decide +kernel
theorem dX1_refusalOf_193 : decode cX1_refusalOf 193 = .ok (.aload_n 2, 1) := by decide +kernel
theorem dX1_refusalOf_194 : decode cX1_refusalOf 194 = .ok (.iconst 0, 1) := by decide +kernel
theorem dX1_refusalOf_195 : decode cX1_refusalOf 195 = .ok (.iaload, 1) := by decide +kernel
theorem dX1_refusalOf_196 : decode cX1_refusalOf 196 = .ok (.invokevirtual 88, 3) := by decide +kernel
theorem dX1_refusalOf_199 : decode cX1_refusalOf 199 = .ok (.ifCond .ne 8, 3) := by decide +kernel
theorem dX1_refusalOf_202 : decode cX1_refusalOf 202 = .ok (.bipush 8, 2) := by decide +kernel
theorem dX1_refusalOf_204 : decode cX1_refusalOf 204 = .ok (.goto 4, 3) := by decide +kernel
theorem dX1_refusalOf_207 : decode cX1_refusalOf 207 = .ok (.iconst 0, 1) := by decide +kernel
theorem dX1_refusalOf_208 : decode cX1_refusalOf 208 = .ok (.ireturn, 1) := by decide +kernel
theorem dX1_refusalOf_209 : decode cX1_refusalOf 209 = .ok (.aload_n 0, 1) := by decide +kernel
theorem dX1_refusalOf_210 : decode cX1_refusalOf 210 = .ok (.getfield 33, 3) := by decide +kernel
theorem dX1_refusalOf_213 : decode cX1_refusalOf 213 = .ok (.aload_n 2, 1) := by decide +kernel
theorem dX1_refusalOf_214 : decode cX1_refusalOf 214 = .ok (.iconst 0, 1) := by decide +kernel
theorem dX1_refusalOf_215 : decode cX1_refusalOf 215 = .ok (.iaload, 1) := by decide +kernel
theorem dX1_refusalOf_216 : decode cX1_refusalOf 216 = .ok (.iaload, 1) := by decide +kernel
theorem dX1_refusalOf_217 : decode cX1_refusalOf 217 = .ok (.iconst (-1), 1) := by decide +kernel
theorem dX1_refusalOf_218 : decode cX1_refusalOf 218 = .ok (.if_icmp .ne 8, 3) := by decide +kernel
theorem dX1_refusalOf_221 : decode cX1_refusalOf 221 = .ok (.bipush 9, 2) := by decide +kernel
theorem dX1_refusalOf_223 : decode cX1_refusalOf 223 = .ok (.goto 4, 3) := by decide +kernel
theorem dX1_refusalOf_226 : decode cX1_refusalOf 226 = .ok (.iconst 0, 1) := by decide +kernel
theorem dX1_refusalOf_227 : decode cX1_refusalOf 227 = .ok (.ireturn, 1) := by decide +kernel
theorem dX1_refusalOf_228 : decode cX1_refusalOf 228 = .ok (.iconst 0, 1) := by decide +kernel
theorem dX1_refusalOf_229 : decode cX1_refusalOf 229 = .ok (.ireturn, 1) := by decide +kernel
set_option maxRecDepth 20000 in
set_option maxHeartbeats 4000000 in
theorem C_X1_refusalOf (l : Launch) (G : Gp) (a0 : Nat) (y0 : lay a0 = (1, 0)) {σ : St} {Q : Int32 → Prop} (h : wp_X1_refusalOf σ a0 Q) : Cn l yX1_refusalOf cX1_refusalOf 3 (some .int) 5 117 G [.ref (gb G + a0), .ref (gb G + 4)] σ (qI (fun r σ' => σ' = σ ∧ Q r)) := by
  refine Cn_of (L := [(0, .ref (gb G + a0)), (1, .ref (gb G + 4))]) RX1 (by decide) rfl (Nat.le_of_ble_eq_true rfl) rfl ?_
  intro p e s m below meth c F
  unfold wp_X1_refusalOf at h
  refine J_aln F 1 dX1_refusalOf_0 rfl rfl ?_
  refine J_gfa F (ci := 0) 0 rfl inX0 ly_4 (by decide) (by decide) rfl lf_X1_63 rfl dX1_refusalOf_1 ?_
  refine J_asn F (L' := [(2, .ref (gb G + 5)), (0, .ref (gb G + a0)), (1, .ref (gb G + 4))]) dX1_refusalOf_4 rfl (by decide) rfl ?_
  refine J_aln F 2 dX1_refusalOf_5 rfl rfl ?_
  refine J_gfi F (ci := 0) 1 rfl inX0 ly_4 (by decide) (by decide) rfl lf_X1_68 rfl dX1_refusalOf_6 ?_
  refine J_top (fun q_2 eq_2 => ?_)
  have h := h q_2 eq_2
  refine J_case (v := nI 1) (fun c_3 => ?_) (fun c_3 => ?_)
  · have h := h.1 c_3
    refine J_tabIn F (off := 51) (tgt := 60) dX1_refusalOf_9 (by decide) (by decide) (by decide) (by decide) ?_
    refine J_aln F 1 dX1_refusalOf_60 rfl rfl ?_
    refine J_gfi F (ci := 1) 8 rfl inX1 y0 (by decide) (by decide) rfl lf_X1_39 rfl dX1_refusalOf_61 ?_
    refine J_ic F dX1_refusalOf_64 ki_3 ?_
    refine J_cge F (tgt := 72) dX1_refusalOf_65 (by decide) (fun c_4 => ?_) (fun c_4 => ?_)
    · have h := h.1 c_4
      refine J_bi F dX1_refusalOf_72 kb_10 ?_
      exact J_reti F ⟨_, rfl, rfl, h⟩ dX1_refusalOf_74
    · have h := h.2 c_4
      refine J_ic F dX1_refusalOf_68 ki_0 ?_
      refine J_goto F (tgt := 74) dX1_refusalOf_69 (by decide) ?_
      exact J_reti F ⟨_, rfl, rfl, h⟩ dX1_refusalOf_74
  · have h := h.2 c_3
    refine J_case (v := nI 2) (fun c_5 => ?_) (fun c_5 => ?_)
    · have h := h.1 c_5
      refine J_tabIn F (off := 66) (tgt := 75) dX1_refusalOf_9 (by decide) (by decide) (by decide) (by decide) ?_
      refine J_aln F 1 dX1_refusalOf_75 rfl rfl ?_
      refine J_aln F 0 dX1_refusalOf_76 rfl rfl ?_
      refine J_ic F dX1_refusalOf_77 ki_2 ?_
      refine J_ialdc F ly_5 (by decide) (by decide) dX1_refusalOf_78 ?_
      refine J_aln F 0 dX1_refusalOf_79 rfl rfl ?_
      refine J_ic F dX1_refusalOf_80 ki_3 ?_
      refine J_ialdc F ly_5 (by decide) (by decide) dX1_refusalOf_81 ?_
      refine J_callVi F (As := [.int (σ 5 2), .int (σ 5 3)]) (st := []) (C_X1_refusalOfJoin l G a0 (σ 5 2) (σ 5 3) y0 h) (ci := 1) y0 (by decide) rfl rfl lm_X1_71 li_X1_refusalOfJoin ls_X1_refusalOfJoin ini_X1 lc_X1_refusalOfJoin hd_X1_refusalOfJoin (by decide) (Nat.le_of_ble_eq_true rfl) (by decide) rfl dX1_refusalOf_82 (fun r_6 σ_7 hh => ?_)
      clear h
      obtain ⟨e9, h⟩ := hh
      subst σ_7
      exact J_reti F ⟨_, rfl, rfl, h⟩ dX1_refusalOf_85
    · have h := h.2 c_5
      refine J_case (v := nI 3) (fun c_8 => ?_) (fun c_8 => ?_)
      · have h := h.1 c_8
        refine J_tabIn F (off := 77) (tgt := 86) dX1_refusalOf_9 (by decide) (by decide) (by decide) (by decide) ?_
        refine J_aln F 1 dX1_refusalOf_86 rfl rfl ?_
        refine J_aln F 1 dX1_refusalOf_87 rfl rfl ?_
        refine J_aln F 0 dX1_refusalOf_88 rfl rfl ?_
        refine J_ic F dX1_refusalOf_89 ki_0 ?_
        refine J_ialdc F ly_5 (by decide) (by decide) dX1_refusalOf_90 ?_
        refine J_aln F 0 dX1_refusalOf_91 rfl rfl ?_
        refine J_ic F dX1_refusalOf_92 ki_1 ?_
        refine J_ialdc F ly_5 (by decide) (by decide) dX1_refusalOf_93 ?_
        refine J_callVi F (As := [.int (σ 5 0), .int (σ 5 1)]) (st := [.ref (gb G + a0)]) (C_X1_nearX l G a0 (σ 5 0) (σ 5 1) y0 h) (ci := 1) y0 (by decide) rfl rfl lm_X1_75 li_X1_nearX ls_X1_nearX ini_X1 lc_X1_nearX hd_X1_nearX (by decide) (Nat.le_of_ble_eq_true rfl) (by decide) rfl dX1_refusalOf_94 (fun r_9 σ_10 hh => ?_)
        clear h
        obtain ⟨e9, h⟩ := hh
        subst σ_10
        refine J_aln F 1 dX1_refusalOf_97 rfl rfl ?_
        refine J_aln F 0 dX1_refusalOf_98 rfl rfl ?_
        refine J_ic F dX1_refusalOf_99 ki_0 ?_
        refine J_ialdc F ly_5 (by decide) (by decide) dX1_refusalOf_100 ?_
        refine J_aln F 0 dX1_refusalOf_101 rfl rfl ?_
        refine J_ic F dX1_refusalOf_102 ki_1 ?_
        refine J_ialdc F ly_5 (by decide) (by decide) dX1_refusalOf_103 ?_
        refine J_callVi F (As := [.int (σ 5 0), .int (σ 5 1)]) (st := [.int r_9, .ref (gb G + a0)]) (C_X1_nearY l G a0 (σ 5 0) (σ 5 1) y0 h) (ci := 1) y0 (by decide) rfl rfl lm_X1_78 li_X1_nearY ls_X1_nearY ini_X1 lc_X1_nearY hd_X1_nearY (by decide) (Nat.le_of_ble_eq_true rfl) (by decide) rfl dX1_refusalOf_104 (fun r_11 σ_12 hh => ?_)
        clear h
        obtain ⟨e9, h⟩ := hh
        subst σ_12
        refine J_callVi F (As := [.int r_9, .int r_11]) (st := []) (C_X1_refusalOfJoin l G a0 r_9 r_11 y0 h) (ci := 1) y0 (by decide) rfl rfl lm_X1_71 li_X1_refusalOfJoin ls_X1_refusalOfJoin ini_X1 lc_X1_refusalOfJoin hd_X1_refusalOfJoin (by decide) (Nat.le_of_ble_eq_true rfl) (by decide) rfl dX1_refusalOf_107 (fun r_13 σ_14 hh => ?_)
        clear h
        obtain ⟨e9, h⟩ := hh
        subst σ_14
        exact J_reti F ⟨_, rfl, rfl, h⟩ dX1_refusalOf_110
      · have h := h.2 c_8
        refine J_case (v := nI 4) (fun c_15 => ?_) (fun c_15 => ?_)
        · have h := h.1 c_15
          refine J_tabIn F (off := 102) (tgt := 111) dX1_refusalOf_9 (by decide) (by decide) (by decide) (by decide) ?_
          refine J_aln F 1 dX1_refusalOf_111 rfl rfl ?_
          refine J_gfr F (ci := 1) 1 rfl inX1 y0 (by decide) (by decide) rfl lf_X1_17 rfl dX1_refusalOf_112 ?_
          refine J_aln F 0 dX1_refusalOf_115 rfl rfl ?_
          refine J_ic F dX1_refusalOf_116 ki_0 ?_
          refine J_ialdc F ly_5 (by decide) (by decide) dX1_refusalOf_117 ?_
          obtain ⟨h_16, h⟩ := h
          refine J_iald F (lay_net y0).2.1 h_16 dX1_refusalOf_118 ?_
          refine J_ic F dX1_refusalOf_119 ki_1 ?_
          refine J_ceq F (tgt := 127) dX1_refusalOf_120 (by decide) (fun c_17 => ?_) (fun c_17 => ?_)
          · have h := h.1 c_17
            refine J_aln F 1 dX1_refusalOf_127 rfl rfl ?_
            refine J_aln F 0 dX1_refusalOf_128 rfl rfl ?_
            refine J_ic F dX1_refusalOf_129 ki_0 ?_
            refine J_ialdc F ly_5 (by decide) (by decide) dX1_refusalOf_130 ?_
            refine J_callVi F (As := [.int (σ 5 0)]) (st := []) (C_X1_refusalOfHanding l G a0 (σ 5 0) y0 h) (ci := 1) y0 (by decide) rfl rfl lm_X1_81 li_X1_refusalOfHanding ls_X1_refusalOfHanding ini_X1 lc_X1_refusalOfHanding hd_X1_refusalOfHanding (by decide) (Nat.le_of_ble_eq_true rfl) (by decide) rfl dX1_refusalOf_131 (fun r_18 σ_19 hh => ?_)
            clear h
            obtain ⟨e9, h⟩ := hh
            subst σ_19
            exact J_reti F ⟨_, rfl, rfl, h⟩ dX1_refusalOf_134
          · have h := h.2 c_17
            refine J_ic F dX1_refusalOf_123 ki_4 ?_
            refine J_goto F (tgt := 134) dX1_refusalOf_124 (by decide) ?_
            exact J_reti F ⟨_, rfl, rfl, h⟩ dX1_refusalOf_134
        · have h := h.2 c_15
          refine J_case (v := nI 5) (fun c_20 => ?_) (fun c_20 => ?_)
          · have h := h.1 c_20
            refine J_tabIn F (off := 126) (tgt := 135) dX1_refusalOf_9 (by decide) (by decide) (by decide) (by decide) ?_
            refine J_aln F 1 dX1_refusalOf_135 rfl rfl ?_
            refine J_gfr F (ci := 1) 1 rfl inX1 y0 (by decide) (by decide) rfl lf_X1_17 rfl dX1_refusalOf_136 ?_
            refine J_aln F 0 dX1_refusalOf_139 rfl rfl ?_
            refine J_ic F dX1_refusalOf_140 ki_0 ?_
            refine J_ialdc F ly_5 (by decide) (by decide) dX1_refusalOf_141 ?_
            obtain ⟨h_21, h⟩ := h
            refine J_iald F (lay_net y0).2.1 h_21 dX1_refusalOf_142 ?_
            refine J_ic F dX1_refusalOf_143 ki_1 ?_
            refine J_ceq F (tgt := 151) dX1_refusalOf_144 (by decide) (fun c_22 => ?_) (fun c_22 => ?_)
            · have h := h.1 c_22
              refine J_ic F dX1_refusalOf_151 ki_0 ?_
              exact J_reti F ⟨_, rfl, rfl, h⟩ dX1_refusalOf_152
            · have h := h.2 c_22
              refine J_ic F dX1_refusalOf_147 ki_4 ?_
              refine J_goto F (tgt := 152) dX1_refusalOf_148 (by decide) ?_
              exact J_reti F ⟨_, rfl, rfl, h⟩ dX1_refusalOf_152
          · have h := h.2 c_20
            refine J_case (v := nI 6) (fun c_23 => ?_) (fun c_23 => ?_)
            · have h := h.1 c_23
              refine J_tabIn F (off := 144) (tgt := 153) dX1_refusalOf_9 (by decide) (by decide) (by decide) (by decide) ?_
              refine J_aln F 1 dX1_refusalOf_153 rfl rfl ?_
              refine J_gfr F (ci := 1) 1 rfl inX1 y0 (by decide) (by decide) rfl lf_X1_17 rfl dX1_refusalOf_154 ?_
              refine J_aln F 0 dX1_refusalOf_157 rfl rfl ?_
              refine J_ic F dX1_refusalOf_158 ki_0 ?_
              refine J_ialdc F ly_5 (by decide) (by decide) dX1_refusalOf_159 ?_
              obtain ⟨h_24, h⟩ := h
              refine J_iald F (lay_net y0).2.1 h_24 dX1_refusalOf_160 ?_
              refine J_ic F dX1_refusalOf_161 ki_2 ?_
              refine J_ceq F (tgt := 169) dX1_refusalOf_162 (by decide) (fun c_25 => ?_) (fun c_25 => ?_)
              · have h := h.1 c_25
                refine J_aln F 1 dX1_refusalOf_169 rfl rfl ?_
                refine J_aln F 0 dX1_refusalOf_170 rfl rfl ?_
                refine J_ic F dX1_refusalOf_171 ki_0 ?_
                refine J_ialdc F ly_5 (by decide) (by decide) dX1_refusalOf_172 ?_
                refine J_callVi F (As := [.int (σ 5 0)]) (st := []) (C_X1_refusalOfHanding l G a0 (σ 5 0) y0 h) (ci := 1) y0 (by decide) rfl rfl lm_X1_81 li_X1_refusalOfHanding ls_X1_refusalOfHanding ini_X1 lc_X1_refusalOfHanding hd_X1_refusalOfHanding (by decide) (Nat.le_of_ble_eq_true rfl) (by decide) rfl dX1_refusalOf_173 (fun r_26 σ_27 hh => ?_)
                clear h
                obtain ⟨e9, h⟩ := hh
                subst σ_27
                exact J_reti F ⟨_, rfl, rfl, h⟩ dX1_refusalOf_176
              · have h := h.2 c_25
                refine J_ic F dX1_refusalOf_165 ki_5 ?_
                refine J_goto F (tgt := 176) dX1_refusalOf_166 (by decide) ?_
                exact J_reti F ⟨_, rfl, rfl, h⟩ dX1_refusalOf_176
            · have h := h.2 c_23
              refine J_case (v := nI 7) (fun c_28 => ?_) (fun c_28 => ?_)
              · have h := h.1 c_28
                refine J_tabIn F (off := 168) (tgt := 177) dX1_refusalOf_9 (by decide) (by decide) (by decide) (by decide) ?_
                refine J_aln F 1 dX1_refusalOf_177 rfl rfl ?_
                refine J_ic F dX1_refusalOf_178 ki_2 ?_
                refine J_callVi F (As := [.int (nI 2)]) (st := []) (C_X1_nodesThatAre l G a0 (nI 2) y0 h) (ci := 1) y0 (by decide) rfl rfl lm_X1_85 li_X1_nodesThatAre ls_X1_nodesThatAre ini_X1 lc_X1_nodesThatAre hd_X1_nodesThatAre (by decide) (Nat.le_of_ble_eq_true rfl) (by decide) rfl dX1_refusalOf_179 (fun r_29 σ_30 hh => ?_)
                clear h
                obtain ⟨e9, h⟩ := hh
                subst σ_30
                refine J_zeq F (tgt := 190) dX1_refusalOf_182 (by decide) (fun c_31 => ?_) (fun c_31 => ?_)
                · have h := h.1 c_31
                  refine J_ic F dX1_refusalOf_190 ki_0 ?_
                  exact J_reti F ⟨_, rfl, rfl, h⟩ dX1_refusalOf_191
                · have h := h.2 c_31
                  refine J_bi F dX1_refusalOf_185 kb_7 ?_
                  refine J_goto F (tgt := 191) dX1_refusalOf_187 (by decide) ?_
                  exact J_reti F ⟨_, rfl, rfl, h⟩ dX1_refusalOf_191
              · have h := h.2 c_28
                refine J_case (v := nI 8) (fun c_32 => ?_) (fun c_32 => ?_)
                · have h := h.1 c_32
                  refine J_tabIn F (off := 183) (tgt := 192) dX1_refusalOf_9 (by decide) (by decide) (by decide) (by decide) ?_
                  refine J_aln F 1 dX1_refusalOf_192 rfl rfl ?_
                  refine J_aln F 0 dX1_refusalOf_193 rfl rfl ?_
                  refine J_ic F dX1_refusalOf_194 ki_0 ?_
                  refine J_ialdc F ly_5 (by decide) (by decide) dX1_refusalOf_195 ?_
                  refine J_callVi F (As := [.int (σ 5 0)]) (st := []) (C_X1_realitiesWithin l G a0 (σ 5 0) y0 h) (ci := 1) y0 (by decide) rfl rfl lm_X1_88 li_X1_realitiesWithin ls_X1_realitiesWithin ini_X1 lc_X1_realitiesWithin hd_X1_realitiesWithin (by decide) (Nat.le_of_ble_eq_true rfl) (by decide) rfl dX1_refusalOf_196 (fun r_33 σ_34 hh => ?_)
                  clear h
                  obtain ⟨e9, h⟩ := hh
                  subst σ_34
                  refine J_zne F (tgt := 207) dX1_refusalOf_199 (by decide) (fun c_35 => ?_) (fun c_35 => ?_)
                  · have h := h.1 c_35
                    refine J_ic F dX1_refusalOf_207 ki_0 ?_
                    exact J_reti F ⟨_, rfl, rfl, h⟩ dX1_refusalOf_208
                  · have h := h.2 c_35
                    refine J_bi F dX1_refusalOf_202 kb_8 ?_
                    refine J_goto F (tgt := 208) dX1_refusalOf_204 (by decide) ?_
                    exact J_reti F ⟨_, rfl, rfl, h⟩ dX1_refusalOf_208
                · have h := h.2 c_32
                  refine J_case (v := nI 9) (fun c_36 => ?_) (fun c_36 => ?_)
                  · have h := h.1 c_36
                    refine J_tabIn F (off := 200) (tgt := 209) dX1_refusalOf_9 (by decide) (by decide) (by decide) (by decide) ?_
                    refine J_aln F 1 dX1_refusalOf_209 rfl rfl ?_
                    refine J_gfr F (ci := 1) 6 rfl inX1 y0 (by decide) (by decide) rfl lf_X1_33 rfl dX1_refusalOf_210 ?_
                    refine J_aln F 0 dX1_refusalOf_213 rfl rfl ?_
                    refine J_ic F dX1_refusalOf_214 ki_0 ?_
                    refine J_ialdc F ly_5 (by decide) (by decide) dX1_refusalOf_215 ?_
                    obtain ⟨h_37, h⟩ := h
                    refine J_iald F (lay_net y0).2.2.2.2.2.2.1 h_37 dX1_refusalOf_216 ?_
                    refine J_ic F dX1_refusalOf_217 ki_m1 ?_
                    refine J_cne F (tgt := 226) dX1_refusalOf_218 (by decide) (fun c_38 => ?_) (fun c_38 => ?_)
                    · have h := h.1 c_38
                      refine J_ic F dX1_refusalOf_226 ki_0 ?_
                      exact J_reti F ⟨_, rfl, rfl, h⟩ dX1_refusalOf_227
                    · have h := h.2 c_38
                      refine J_bi F dX1_refusalOf_221 kb_9 ?_
                      refine J_goto F (tgt := 227) dX1_refusalOf_223 (by decide) ?_
                      exact J_reti F ⟨_, rfl, rfl, h⟩ dX1_refusalOf_227
                  · have h := h.2 c_36
                    refine J_tabOut F (tgt := 228) dX1_refusalOf_9 (tab_out 1 9 (fun k h1 h2 => by rcases (show k = 1 ∨ k = 2 ∨ k = 3 ∨ k = 4 ∨ k = 5 ∨ k = 6 ∨ k = 7 ∨ k = 8 ∨ k = 9 by omega) with rfl | rfl | rfl | rfl | rfl | rfl | rfl | rfl | rfl <;> assumption)) (by decide) ?_
                    refine J_ic F dX1_refusalOf_228 ki_0 ?_
                    exact J_reti F ⟨_, rfl, rfl, h⟩ dX1_refusalOf_229
theorem dX1_startAnew_0 : decode cX1_startAnew 0 = .ok (.aload_n 0, 1) := by decide +kernel
theorem dX1_startAnew_1 : decode cX1_startAnew 1 = .ok (.iload_n 1, 1) := by decide +kernel
theorem dX1_startAnew_2 : decode cX1_startAnew 2 = .ok (.putfield 43, 3) := by decide +kernel
theorem dX1_startAnew_5 : decode cX1_startAnew 5 = .ok (.aload_n 0, 1) := by decide +kernel
theorem dX1_startAnew_6 : decode cX1_startAnew 6 = .ok (.iconst 0, 1) := by decide +kernel
theorem dX1_startAnew_7 : decode cX1_startAnew 7 = .ok (.putfield 39, 3) := by decide +kernel
theorem dX1_startAnew_10 : decode cX1_startAnew 10 = .ok (.iconst 0, 1) := by decide +kernel
theorem dX1_startAnew_11 : decode cX1_startAnew 11 = .ok (.istore_n 2, 1) := by decide +kernel
theorem dX1_startAnew_12 : decode cX1_startAnew 12 = .ok (.iload_n 2, 1) := by decide +kernel
theorem dX1_startAnew_13 : decode cX1_startAnew 13 = .ok (.iconst 3, 1) := by decide +kernel
theorem dX1_startAnew_14 : decode cX1_startAnew 14 = .ok (.if_icmp .ge 18, 3) := by decide +kernel
theorem dX1_startAnew_17 : decode cX1_startAnew 17 = .ok (.aload_n 0, 1) := by decide +kernel
theorem dX1_startAnew_18 : decode cX1_startAnew 18 = .ok (.getfield 11, 3) := by decide +kernel
theorem dX1_startAnew_21 : decode cX1_startAnew 21 = .ok (.iload_n 2, 1) := by decide +kernel
theorem dX1_startAnew_22 : decode cX1_startAnew 22 = .ok (.aaload, 1) := by decide +kernel
theorem dX1_startAnew_23 : decode cX1_startAnew 23 = .ok (.invokevirtual 126, 3) := by decide +kernel
theorem dX1_startAnew_26 : decode cX1_startAnew 26 = .ok (.iinc 2 1, 3) := by decide +kernel
theorem dX1_startAnew_29 : decode cX1_startAnew 29 = .ok (.goto (-17), 3) := by decide +kernel
theorem dX1_startAnew_32 : decode cX1_startAnew 32 = .ok (.aload_n 0, 1) := by decide +kernel
theorem dX1_startAnew_33 : decode cX1_startAnew 33 = .ok (.getfield 17, 3) := by decide +kernel
theorem dX1_startAnew_36 : decode cX1_startAnew 36 = .ok (.iconst 0, 1) := by decide +kernel
theorem dX1_startAnew_37 : decode cX1_startAnew 37 = .ok (.invokestatic 47, 3) := by decide +kernel
theorem dX1_startAnew_40 : decode cX1_startAnew 40 = .ok (.aload_n 0, 1) := by decide +kernel
theorem dX1_startAnew_41 : decode cX1_startAnew 41 = .ok (.getfield 33, 3) := by decide +kernel
theorem dX1_startAnew_44 : decode cX1_startAnew 44 = .ok (.iconst (-1), 1) := by decide +kernel
theorem dX1_startAnew_45 : decode cX1_startAnew 45 = .ok (.invokestatic 47, 3) := by decide +kernel
theorem dX1_startAnew_48 : decode cX1_startAnew 48 = .ok (.aload_n 0, 1) := by decide +kernel
theorem dX1_startAnew_49 : decode cX1_startAnew 49 = .ok (.getfield 36, 3) := by decide +kernel
theorem dX1_startAnew_52 : decode cX1_startAnew 52 = .ok (.iconst 0, 1) := by decide +kernel
theorem dX1_startAnew_53 : decode cX1_startAnew 53 = .ok (.invokestatic 47, 3) := by decide +kernel
theorem dX1_startAnew_56 : decode cX1_startAnew 56 = .ok (.aload_n 0, 1) := by decide +kernel
theorem dX1_startAnew_57 : decode cX1_startAnew 57 = .ok (.getfield 43, 3) := by decide +kernel
theorem dX1_startAnew_60 : decode cX1_startAnew 60 = .ok (.ireturn, 1) := by decide +kernel
set_option maxRecDepth 20000 in
set_option maxHeartbeats 4000000 in
theorem wk_X1_startAnew_32 {p : Program} {l : Launch} {e : Env} {s : State} {m : MethodId} {args : Array Value} {below : List Frame} {meth : Method} {c : Code} {G : Gp} {σ : St} {a0 : Nat}  {Q : Int32 → St → Prop} (F : FX p s m args meth c cX1_startAnew 3 (some .int) RX1 G) (y0 : lay a0 = (1, 0))  (h : wp_X1_startAnew_32 σ a0 Q) : J p l e (rmF 2 43) s m args below meth c 3 G (MQ below (QQ G (qI Q)) args s 0 0 (fr G)) 0 0 32 [(0, .ref (gb G + a0))] [] σ := by
  unfold wp_X1_startAnew_32 at h
  refine J_aln F 0 dX1_startAnew_32 rfl rfl ?_
  refine J_gfr F (ci := 1) 1 rfl inX1 y0 (by decide) (by decide) rfl lf_X1_17 rfl dX1_startAnew_33 ?_
  refine J_ic F dX1_startAnew_36 ki_0 ?_
  refine J_callSv F (As := [.ref (gb G + (a0 + 2)), .int (nI 0)]) (st := []) (C_J7_fill_53178 l G (a0 + 2) 10 (nI 0) (lay_net y0).2.1 h) lm_X1_47 li_J7_fill_53178 ini_J7 lc_J7_fill_53178 hd_J7_fill_53178 (by decide) (Nat.le_of_ble_eq_true rfl) (by decide) rfl dX1_startAnew_37 (fun σ_1 h => ?_)
  refine J_aln F 0 dX1_startAnew_40 rfl rfl ?_
  refine J_gfr F (ci := 1) 6 rfl inX1 y0 (by decide) (by decide) rfl lf_X1_33 rfl dX1_startAnew_41 ?_
  refine J_ic F dX1_startAnew_44 ki_m1 ?_
  refine J_callSv F (As := [.ref (gb G + (a0 + 7)), .int (-1)]) (st := []) (C_J7_fill_53178 l G (a0 + 7) 100 (-1) (lay_net y0).2.2.2.2.2.2.1 h) lm_X1_47 li_J7_fill_53178 ini_J7 lc_J7_fill_53178 hd_J7_fill_53178 (by decide) (Nat.le_of_ble_eq_true rfl) (by decide) rfl dX1_startAnew_45 (fun σ_2 h => ?_)
  refine J_aln F 0 dX1_startAnew_48 rfl rfl ?_
  refine J_gfr F (ci := 1) 7 rfl inX1 y0 (by decide) (by decide) rfl lf_X1_36 rfl dX1_startAnew_49 ?_
  refine J_ic F dX1_startAnew_52 ki_0 ?_
  refine J_callSv F (As := [.ref (gb G + (a0 + 8)), .int (nI 0)]) (st := []) (C_J7_fill_53178 l G (a0 + 8) 100 (nI 0) (lay_net y0).2.2.2.2.2.2.2.1 h) lm_X1_47 li_J7_fill_53178 ini_J7 lc_J7_fill_53178 hd_J7_fill_53178 (by decide) (Nat.le_of_ble_eq_true rfl) (by decide) rfl dX1_startAnew_53 (fun σ_3 h => ?_)
  refine J_aln F 0 dX1_startAnew_56 rfl rfl ?_
  refine J_gfi F (ci := 1) 9 rfl inX1 y0 (by decide) (by decide) rfl lf_X1_43 rfl dX1_startAnew_57 ?_
  exact J_reti F ⟨_, rfl, h⟩ dX1_startAnew_60
set_option maxRecDepth 20000 in
set_option maxHeartbeats 4000000 in
theorem wk_X1_startAnew_12 {p : Program} {l : Launch} {e : Env} {s : State} {m : MethodId} {args : Array Value} {below : List Frame} {meth : Method} {c : Code} {G : Gp} {a0 : Nat}  {Q : Int32 → St → Prop} (F : FX p s m args meth c cX1_startAnew 3 (some .int) RX1 G) (y0 : lay a0 = (1, 0))  : ∀ (n9 : Nat) (σ : St) (x2 : Int32), LP2 (wp_X1_startAnew_12 a0 Q) n9 σ x2 → J p l e (rmF 2 43) s m args below meth c 3 G (MQ below (QQ G (qI Q)) args s 0 0 (fr G)) 0 0 12 [(0, .ref (gb G + a0)), (2, .int x2)] [] σ := by
  intro n9
  induction n9 with
  | zero => intro σ x2 h; exact h.elim
  | succ n9 i12 =>
    intro σ x2 h
    have h : wp_X1_startAnew_12 a0 Q (LP2 (wp_X1_startAnew_12 a0 Q) n9) σ x2 := h
    unfold wp_X1_startAnew_12 at h
    refine J_iln F 1 dX1_startAnew_12 rfl rfl ?_
    refine J_ic F dX1_startAnew_13 ki_3 ?_
    refine J_cge F (tgt := 32) dX1_startAnew_14 (by decide) (fun c_4 => ?_) (fun c_4 => ?_)
    · have h := h.1 c_4
      refine J_sub [0] rfl ?_
      exact wk_X1_startAnew_32 F y0 h
    · have h := h.2 c_4
      refine J_aln F 0 dX1_startAnew_17 rfl rfl ?_
      refine J_gfr F (ci := 1) 0 rfl inX1 y0 (by decide) (by decide) rfl lf_X1_11 rfl dX1_startAnew_18 ?_
      refine J_iln F 1 dX1_startAnew_21 rfl rfl ?_
      obtain ⟨h_5, h⟩ := h
      refine J_aldS F (lay_net y0).1 h_5 dX1_startAnew_22 ?_
      refine J_callVv F (As := []) (st := []) (C_X4_clear l G (a0 + 1 + 8 + 4 * Int32.toNatClampNeg x2) (lay_sp y0 h_5) h) (ci := 4) (lay_sp y0 h_5) (by decide) rfl rfl lm_X1_126 li_X4_clear ls_X4_clear ini_X4 lc_X4_clear hd_X4_clear (by decide) (Nat.le_of_ble_eq_true rfl) (by decide) rfl dX1_startAnew_23 (fun σ_6 h => ?_)
      obtain ⟨x2_7, ex2_7⟩ : ∃ z : Int32, z = x2 + (nI 1) := ⟨_, rfl⟩
      have h := h x2_7 ex2_7
      refine J_iinc F (v := x2_7) (L' := [(2, .int x2_7), (0, .ref (gb G + a0))]) 1 dX1_startAnew_26 rfl (by rw [ki_1, ex2_7]) (by decide) rfl ?_
      refine J_goto F (tgt := 12) dX1_startAnew_29 (by decide) ?_
      refine J_sub [1, 0] rfl ?_
      exact i12 _ _ h
set_option maxRecDepth 20000 in
set_option maxHeartbeats 4000000 in
theorem C_X1_startAnew (l : Launch) (G : Gp) (a0 : Nat) (x1 : Int32) (y0 : lay a0 = (1, 0)) {σ : St} {Q : Int32 → St → Prop} (h : wp_X1_startAnew σ a0 x1 Q) : Cn l yX1_startAnew cX1_startAnew 3 (some .int) 2 43 G [.ref (gb G + a0), .int x1] σ (qI Q) := by
  refine Cn_of (L := [(0, .ref (gb G + a0)), (1, .int x1)]) RX1 (by decide) rfl (Nat.le_of_ble_eq_true rfl) rfl ?_
  intro p e s m below meth c F
  unfold wp_X1_startAnew at h
  refine J_aln F 0 dX1_startAnew_0 rfl rfl ?_
  refine J_iln F 1 dX1_startAnew_1 rfl rfl ?_
  refine J_pfi F (ci := 1) 9 rfl inX1 tyX1 tyX1_ok nmX1 y0 (by decide) (by decide) rfl lf_X1_43 rfl rfl (tyX1_ok 9 (by decide)) rfl rfl dX1_startAnew_2 ?_
  refine J_st (fun σ_8 eσ_8 => ?_)
  have h := h σ_8 eσ_8
  refine J_aln F 0 dX1_startAnew_5 rfl rfl ?_
  refine J_ic F dX1_startAnew_6 ki_0 ?_
  refine J_pfi F (ci := 1) 8 rfl inX1 tyX1 tyX1_ok nmX1 y0 (by decide) (by decide) rfl lf_X1_39 rfl rfl (tyX1_ok 8 (by decide)) rfl rfl dX1_startAnew_7 ?_
  refine J_st (fun σ_9 eσ_9 => ?_)
  have h := h σ_9 eσ_9
  refine J_ic F dX1_startAnew_10 ki_0 ?_
  refine J_isn F (L' := [(2, .int (nI 0)), (0, .ref (gb G + a0)), (1, .int x1)]) dX1_startAnew_11 rfl (by decide) rfl ?_
  refine J_sub [1, 0] rfl ?_
  obtain ⟨n9, h⟩ := h
  exact wk_X1_startAnew_12 F y0 n9 _ _ h
theorem dX1_addLandmark_0 : decode cX1_addLandmark 0 = .ok (.aload_n 0, 1) := by decide +kernel
theorem dX1_addLandmark_1 : decode cX1_addLandmark 1 = .ok (.getfield 39, 3) := by decide +kernel
theorem dX1_addLandmark_4 : decode cX1_addLandmark 4 = .ok (.iconst 3, 1) := by decide +kernel
theorem dX1_addLandmark_5 : decode cX1_addLandmark 5 = .ok (.if_icmp .ge 33, 3) := by decide +kernel
theorem dX1_addLandmark_8 : decode cX1_addLandmark 8 = .ok (.aload_n 0, 1) := by decide +kernel
theorem dX1_addLandmark_9 : decode cX1_addLandmark 9 = .ok (.getfield 27, 3) := by decide +kernel
theorem dX1_addLandmark_12 : decode cX1_addLandmark 12 = .ok (.aload_n 0, 1) := by decide +kernel
theorem dX1_addLandmark_13 : decode cX1_addLandmark 13 = .ok (.getfield 39, 3) := by decide +kernel
theorem dX1_addLandmark_16 : decode cX1_addLandmark 16 = .ok (.iload_n 1, 1) := by decide +kernel
theorem dX1_addLandmark_17 : decode cX1_addLandmark 17 = .ok (.iastore, 1) := by decide +kernel
theorem dX1_addLandmark_18 : decode cX1_addLandmark 18 = .ok (.aload_n 0, 1) := by decide +kernel
theorem dX1_addLandmark_19 : decode cX1_addLandmark 19 = .ok (.getfield 30, 3) := by decide +kernel
theorem dX1_addLandmark_22 : decode cX1_addLandmark 22 = .ok (.aload_n 0, 1) := by decide +kernel
theorem dX1_addLandmark_23 : decode cX1_addLandmark 23 = .ok (.getfield 39, 3) := by decide +kernel
theorem dX1_addLandmark_26 : decode cX1_addLandmark 26 = .ok (.iload_n 2, 1) := by decide +kernel
theorem dX1_addLandmark_27 : decode cX1_addLandmark 27 = .ok (.iastore, 1) := by decide +kernel
theorem dX1_addLandmark_28 : decode cX1_addLandmark 28 = .ok (.aload_n 0, 1) := by decide +kernel
theorem dX1_addLandmark_29 : decode cX1_addLandmark 29 = .ok (.dup, 1) := by decide +kernel
theorem dX1_addLandmark_30 : decode cX1_addLandmark 30 = .ok (.getfield 39, 3) := by decide +kernel
theorem dX1_addLandmark_33 : decode cX1_addLandmark 33 = .ok (.iconst 1, 1) := by decide +kernel
theorem dX1_addLandmark_34 : decode cX1_addLandmark 34 = .ok (.iadd, 1) := by decide +kernel
theorem dX1_addLandmark_35 : decode cX1_addLandmark 35 = .ok (.putfield 39, 3) := by decide +kernel
theorem dX1_addLandmark_38 : decode cX1_addLandmark 38 = .ok (.aload_n 0, 1) := by decide +kernel
theorem dX1_addLandmark_39 : decode cX1_addLandmark 39 = .ok (.getfield 39, 3) := by decide +kernel
theorem dX1_addLandmark_42 : decode cX1_addLandmark 42 = .ok (.ireturn, 1) := by decide +kernel
set_option maxRecDepth 20000 in
set_option maxHeartbeats 4000000 in
theorem C_X1_addLandmark (l : Launch) (G : Gp) (a0 : Nat) (x1 : Int32) (x2 : Int32) (y0 : lay a0 = (1, 0)) {σ : St} {Q : Int32 → St → Prop} (h : wp_X1_addLandmark σ a0 x1 x2 Q) : Cn l yX1_addLandmark cX1_addLandmark 3 (some .int) 0 0 G [.ref (gb G + a0), .int x1, .int x2] σ (qI Q) := by
  refine Cn_of (L := [(0, .ref (gb G + a0)), (1, .int x1), (2, .int x2)]) RX1 (by decide) rfl (Nat.le_of_ble_eq_true rfl) rfl ?_
  intro p e s m below meth c F
  unfold wp_X1_addLandmark at h
  refine J_aln F 0 dX1_addLandmark_0 rfl rfl ?_
  refine J_gfi F (ci := 1) 8 rfl inX1 y0 (by decide) (by decide) rfl lf_X1_39 rfl dX1_addLandmark_1 ?_
  refine J_ic F dX1_addLandmark_4 ki_3 ?_
  refine J_cge F (tgt := 38) dX1_addLandmark_5 (by decide) (fun c_1 => ?_) (fun c_1 => ?_)
  · have h := h.1 c_1
    refine J_aln F 0 dX1_addLandmark_38 rfl rfl ?_
    refine J_gfi F (ci := 1) 8 rfl inX1 y0 (by decide) (by decide) rfl lf_X1_39 rfl dX1_addLandmark_39 ?_
    exact J_reti F ⟨_, rfl, h⟩ dX1_addLandmark_42
  · have h := h.2 c_1
    refine J_aln F 0 dX1_addLandmark_8 rfl rfl ?_
    refine J_gfr F (ci := 1) 4 rfl inX1 y0 (by decide) (by decide) rfl lf_X1_27 rfl dX1_addLandmark_9 ?_
    refine J_aln F 0 dX1_addLandmark_12 rfl rfl ?_
    refine J_gfi F (ci := 1) 8 rfl inX1 y0 (by decide) (by decide) rfl lf_X1_39 rfl dX1_addLandmark_13 ?_
    refine J_iln F 1 dX1_addLandmark_16 rfl rfl ?_
    obtain ⟨h_2, h⟩ := h
    refine J_iast F (lay_net y0).2.2.2.2.1 h_2 dX1_addLandmark_17 ?_
    refine J_st (fun σ_3 eσ_3 => ?_)
    have h := h σ_3 eσ_3
    refine J_aln F 0 dX1_addLandmark_18 rfl rfl ?_
    refine J_gfr F (ci := 1) 5 rfl inX1 y0 (by decide) (by decide) rfl lf_X1_30 rfl dX1_addLandmark_19 ?_
    refine J_aln F 0 dX1_addLandmark_22 rfl rfl ?_
    refine J_gfi F (ci := 1) 8 rfl inX1 y0 (by decide) (by decide) rfl lf_X1_39 rfl dX1_addLandmark_23 ?_
    refine J_iln F 2 dX1_addLandmark_26 rfl rfl ?_
    obtain ⟨h_4, h⟩ := h
    refine J_iast F (lay_net y0).2.2.2.2.2.1 h_4 dX1_addLandmark_27 ?_
    refine J_st (fun σ_5 eσ_5 => ?_)
    have h := h σ_5 eσ_5
    refine J_aln F 0 dX1_addLandmark_28 rfl rfl ?_
    refine J_dup F dX1_addLandmark_29 rfl ?_
    refine J_gfi F (ci := 1) 8 rfl inX1 y0 (by decide) (by decide) rfl lf_X1_39 rfl dX1_addLandmark_30 ?_
    refine J_ic F dX1_addLandmark_33 ki_1 ?_
    refine J_iadd F dX1_addLandmark_34 ?_
    refine J_pfi F (ci := 1) 8 rfl inX1 tyX1 tyX1_ok nmX1 y0 (by decide) (by decide) rfl lf_X1_39 rfl rfl (tyX1_ok 8 (by decide)) rfl rfl dX1_addLandmark_35 ?_
    refine J_st (fun σ_6 eσ_6 => ?_)
    have h := h σ_6 eσ_6
    refine J_aln F 0 dX1_addLandmark_38 rfl rfl ?_
    refine J_gfi F (ci := 1) 8 rfl inX1 y0 (by decide) (by decide) rfl lf_X1_39 rfl dX1_addLandmark_39 ?_
    exact J_reti F ⟨_, rfl, h⟩ dX1_addLandmark_42
theorem dX1_letIn_0 : decode cX1_letIn 0 = .ok (.aload_n 0, 1) := by decide +kernel
theorem dX1_letIn_1 : decode cX1_letIn 1 = .ok (.invokevirtual 91, 3) := by decide +kernel
theorem dX1_letIn_4 : decode cX1_letIn 4 = .ok (.istore 5, 2) := by decide +kernel
theorem dX1_letIn_6 : decode cX1_letIn 6 = .ok (.iload 5, 2) := by decide +kernel
theorem dX1_letIn_8 : decode cX1_letIn 8 = .ok (.iconst (-1), 1) := by decide +kernel
theorem dX1_letIn_9 : decode cX1_letIn 9 = .ok (.if_icmp .ne 5, 3) := by decide +kernel
theorem dX1_letIn_12 : decode cX1_letIn 12 = .ok (.iconst (-1), 1) := by decide +kernel
theorem dX1_letIn_13 : decode cX1_letIn 13 = .ok (.ireturn, 1) := by decide +kernel
theorem dX1_letIn_14 : decode cX1_letIn 14 = .ok (.aload_n 0, 1) := by decide +kernel
theorem dX1_letIn_15 : decode cX1_letIn 15 = .ok (.getfield 17, 3) := by decide +kernel
theorem dX1_letIn_18 : decode cX1_letIn 18 = .ok (.iload 5, 2) := by decide +kernel
theorem dX1_letIn_20 : decode cX1_letIn 20 = .ok (.iconst 1, 1) := by decide +kernel
theorem dX1_letIn_21 : decode cX1_letIn 21 = .ok (.iastore, 1) := by decide +kernel
theorem dX1_letIn_22 : decode cX1_letIn 22 = .ok (.aload_n 0, 1) := by decide +kernel
theorem dX1_letIn_23 : decode cX1_letIn 23 = .ok (.getfield 21, 3) := by decide +kernel
theorem dX1_letIn_26 : decode cX1_letIn 26 = .ok (.iload 5, 2) := by decide +kernel
theorem dX1_letIn_28 : decode cX1_letIn 28 = .ok (.iload_n 1, 1) := by decide +kernel
theorem dX1_letIn_29 : decode cX1_letIn 29 = .ok (.iastore, 1) := by decide +kernel
theorem dX1_letIn_30 : decode cX1_letIn 30 = .ok (.aload_n 0, 1) := by decide +kernel
theorem dX1_letIn_31 : decode cX1_letIn 31 = .ok (.getfield 24, 3) := by decide +kernel
theorem dX1_letIn_34 : decode cX1_letIn 34 = .ok (.iload 5, 2) := by decide +kernel
theorem dX1_letIn_36 : decode cX1_letIn 36 = .ok (.iload_n 2, 1) := by decide +kernel
theorem dX1_letIn_37 : decode cX1_letIn 37 = .ok (.iastore, 1) := by decide +kernel
theorem dX1_letIn_38 : decode cX1_letIn 38 = .ok (.iconst 0, 1) := by decide +kernel
theorem dX1_letIn_39 : decode cX1_letIn 39 = .ok (.istore 6, 2) := by decide +kernel
theorem dX1_letIn_41 : decode cX1_letIn 41 = .ok (.iload 6, 2) := by decide +kernel
theorem dX1_letIn_43 : decode cX1_letIn 43 = .ok (.aload_n 0, 1) := by decide +kernel
theorem dX1_letIn_44 : decode cX1_letIn 44 = .ok (.getfield 43, 3) := by decide +kernel
theorem dX1_letIn_47 : decode cX1_letIn 47 = .ok (.if_icmp .ge 36, 3) := by decide +kernel
theorem dX1_letIn_50 : decode cX1_letIn 50 = .ok (.aload_n 0, 1) := by decide +kernel
theorem dX1_letIn_51 : decode cX1_letIn 51 = .ok (.getfield 11, 3) := by decide +kernel
theorem dX1_letIn_54 : decode cX1_letIn 54 = .ok (.iload 6, 2) := by decide +kernel
theorem dX1_letIn_56 : decode cX1_letIn 56 = .ok (.aaload, 1) := by decide +kernel
theorem dX1_letIn_57 : decode cX1_letIn 57 = .ok (.iload_n 3, 1) := by decide +kernel
theorem dX1_letIn_58 : decode cX1_letIn 58 = .ok (.bipush 11, 2) := by decide +kernel
theorem dX1_letIn_60 : decode cX1_letIn 60 = .ok (.iload 6, 2) := by decide +kernel
theorem dX1_letIn_62 : decode cX1_letIn 62 = .ok (.imul, 1) := by decide +kernel
theorem dX1_letIn_63 : decode cX1_letIn 63 = .ok (.iadd, 1) := by decide +kernel
theorem dX1_letIn_64 : decode cX1_letIn 64 = .ok (.iload 4, 2) := by decide +kernel
theorem dX1_letIn_66 : decode cX1_letIn 66 = .ok (.bipush 7, 2) := by decide +kernel
theorem dX1_letIn_68 : decode cX1_letIn 68 = .ok (.iload 6, 2) := by decide +kernel
theorem dX1_letIn_70 : decode cX1_letIn 70 = .ok (.imul, 1) := by decide +kernel
theorem dX1_letIn_71 : decode cX1_letIn 71 = .ok (.iadd, 1) := by decide +kernel
theorem dX1_letIn_72 : decode cX1_letIn 72 = .ok (.iload 5, 2) := by decide +kernel
theorem dX1_letIn_74 : decode cX1_letIn 74 = .ok (.invokevirtual 129, 3) := by decide +kernel
theorem dX1_letIn_77 : decode cX1_letIn 77 = .ok (.iinc 6 1, 3) := by decide +kernel
theorem dX1_letIn_80 : decode cX1_letIn 80 = .ok (.goto (-39), 3) := by decide +kernel
theorem dX1_letIn_83 : decode cX1_letIn 83 = .ok (.iload 5, 2) := by decide +kernel
theorem dX1_letIn_85 : decode cX1_letIn 85 = .ok (.ireturn, 1) := by decide +kernel
set_option maxRecDepth 20000 in
set_option maxHeartbeats 4000000 in
theorem wk_X1_letIn_41 {p : Program} {l : Launch} {e : Env} {s : State} {m : MethodId} {args : Array Value} {below : List Frame} {meth : Method} {c : Code} {G : Gp} {a0 : Nat} {x3 : Int32} {x4 : Int32} {x5 : Int32}  {Q : Int32 → St → Prop} (F : FX p s m args meth c cX1_letIn 7 (some .int) RX1 G) (y0 : lay a0 = (1, 0))  : ∀ (n9 : Nat) (σ : St) (x6 : Int32), LP2 (wp_X1_letIn_41 a0 x3 x4 x5 Q) n9 σ x6 → J p l e (rmF 3 71) s m args below meth c 7 G (MQ below (QQ G (qI Q)) args s 0 0 (fr G)) 0 0 41 [(0, .ref (gb G + a0)), (3, .int x3), (4, .int x4), (5, .int x5), (6, .int x6)] [] σ := by
  intro n9
  induction n9 with
  | zero => intro σ x6 h; exact h.elim
  | succ n9 i41 =>
    intro σ x6 h
    have h : wp_X1_letIn_41 a0 x3 x4 x5 Q (LP2 (wp_X1_letIn_41 a0 x3 x4 x5 Q) n9) σ x6 := h
    unfold wp_X1_letIn_41 at h
    refine J_il F 4 dX1_letIn_41 rfl ?_
    refine J_aln F 0 dX1_letIn_43 rfl rfl ?_
    refine J_gfi F (ci := 1) 9 rfl inX1 y0 (by decide) (by decide) rfl lf_X1_43 rfl dX1_letIn_44 ?_
    refine J_cge F (tgt := 83) dX1_letIn_47 (by decide) (fun c_1 => ?_) (fun c_1 => ?_)
    · have h := h.1 c_1
      refine J_il F 3 dX1_letIn_83 rfl ?_
      exact J_reti F ⟨_, rfl, h⟩ dX1_letIn_85
    · have h := h.2 c_1
      refine J_aln F 0 dX1_letIn_50 rfl rfl ?_
      refine J_gfr F (ci := 1) 0 rfl inX1 y0 (by decide) (by decide) rfl lf_X1_11 rfl dX1_letIn_51 ?_
      refine J_il F 4 dX1_letIn_54 rfl ?_
      obtain ⟨h_2, h⟩ := h
      refine J_aldS F (lay_net y0).1 h_2 dX1_letIn_56 ?_
      refine J_iln F 1 dX1_letIn_57 rfl rfl ?_
      refine J_bi F dX1_letIn_58 kb_11 ?_
      refine J_il F 4 dX1_letIn_60 rfl ?_
      refine J_imul F dX1_letIn_62 ?_
      refine J_iadd F dX1_letIn_63 ?_
      refine J_il F 2 dX1_letIn_64 rfl ?_
      refine J_bi F dX1_letIn_66 kb_7 ?_
      refine J_il F 4 dX1_letIn_68 rfl ?_
      refine J_imul F dX1_letIn_70 ?_
      refine J_iadd F dX1_letIn_71 ?_
      refine J_il F 3 dX1_letIn_72 rfl ?_
      refine J_callVv F (As := [.int (x3 + ((nI 11) * x6)), .int (x4 + ((nI 7) * x6)), .int x5]) (st := []) (C_X4_split l G (a0 + 1 + 8 + 4 * Int32.toNatClampNeg x6) (x3 + ((nI 11) * x6)) (x4 + ((nI 7) * x6)) x5 (lay_sp y0 h_2) h) (ci := 4) (lay_sp y0 h_2) (by decide) rfl rfl lm_X1_129 li_X4_split ls_X4_split ini_X4 lc_X4_split hd_X4_split (by decide) (Nat.le_of_ble_eq_true rfl) (by decide) rfl dX1_letIn_74 (fun σ_3 h => ?_)
      obtain ⟨x6_4, ex6_4⟩ : ∃ z : Int32, z = x6 + (nI 1) := ⟨_, rfl⟩
      have h := h x6_4 ex6_4
      refine J_iinc F (v := x6_4) (L' := [(6, .int x6_4), (0, .ref (gb G + a0)), (3, .int x3), (4, .int x4), (5, .int x5)]) 4 dX1_letIn_77 rfl (by rw [ki_1, ex6_4]) (by decide) rfl ?_
      refine J_goto F (tgt := 41) dX1_letIn_80 (by decide) ?_
      refine J_sub [1, 2, 3, 4, 0] rfl ?_
      exact i41 _ _ h
set_option maxRecDepth 20000 in
set_option maxHeartbeats 4000000 in
theorem C_X1_letIn (l : Launch) (G : Gp) (a0 : Nat) (x1 : Int32) (x2 : Int32) (x3 : Int32) (x4 : Int32) (y0 : lay a0 = (1, 0)) {σ : St} {Q : Int32 → St → Prop} (h : wp_X1_letIn σ a0 x1 x2 x3 x4 Q) : Cn l yX1_letIn cX1_letIn 7 (some .int) 3 71 G [.ref (gb G + a0), .int x1, .int x2, .int x3, .int x4] σ (qI Q) := by
  refine Cn_of (L := [(0, .ref (gb G + a0)), (1, .int x1), (2, .int x2), (3, .int x3), (4, .int x4)]) RX1 (by decide) rfl (Nat.le_of_ble_eq_true rfl) rfl ?_
  intro p e s m below meth c F
  unfold wp_X1_letIn at h
  refine J_aln F 0 dX1_letIn_0 rfl rfl ?_
  refine J_callVi F (As := []) (st := []) (C_X1_leastNodeAway l G a0 y0 h) (ci := 1) y0 (by decide) rfl rfl lm_X1_91 li_X1_leastNodeAway ls_X1_leastNodeAway ini_X1 lc_X1_leastNodeAway hd_X1_leastNodeAway (by decide) (Nat.le_of_ble_eq_true rfl) (by decide) rfl dX1_letIn_1 (fun r_5 σ_6 hh => ?_)
  clear h
  obtain ⟨e9, h⟩ := hh
  subst σ_6
  refine J_is F (L' := [(5, .int r_5), (0, .ref (gb G + a0)), (1, .int x1), (2, .int x2), (3, .int x3), (4, .int x4)]) dX1_letIn_4 (by decide) rfl ?_
  refine J_il F 0 dX1_letIn_6 rfl ?_
  refine J_ic F dX1_letIn_8 ki_m1 ?_
  refine J_cne F (tgt := 14) dX1_letIn_9 (by decide) (fun c_7 => ?_) (fun c_7 => ?_)
  · have h := h.1 c_7
    refine J_aln F 1 dX1_letIn_14 rfl rfl ?_
    refine J_gfr F (ci := 1) 1 rfl inX1 y0 (by decide) (by decide) rfl lf_X1_17 rfl dX1_letIn_15 ?_
    refine J_il F 0 dX1_letIn_18 rfl ?_
    refine J_ic F dX1_letIn_20 ki_1 ?_
    obtain ⟨h_8, h⟩ := h
    refine J_iast F (lay_net y0).2.1 h_8 dX1_letIn_21 ?_
    refine J_st (fun σ_9 eσ_9 => ?_)
    have h := h σ_9 eσ_9
    refine J_aln F 1 dX1_letIn_22 rfl rfl ?_
    refine J_gfr F (ci := 1) 2 rfl inX1 y0 (by decide) (by decide) rfl lf_X1_21 rfl dX1_letIn_23 ?_
    refine J_il F 0 dX1_letIn_26 rfl ?_
    refine J_iln F 2 dX1_letIn_28 rfl rfl ?_
    obtain ⟨h_10, h⟩ := h
    refine J_iast F (lay_net y0).2.2.1 h_10 dX1_letIn_29 ?_
    refine J_st (fun σ_11 eσ_11 => ?_)
    have h := h σ_11 eσ_11
    refine J_aln F 1 dX1_letIn_30 rfl rfl ?_
    refine J_gfr F (ci := 1) 3 rfl inX1 y0 (by decide) (by decide) rfl lf_X1_24 rfl dX1_letIn_31 ?_
    refine J_il F 0 dX1_letIn_34 rfl ?_
    refine J_iln F 3 dX1_letIn_36 rfl rfl ?_
    obtain ⟨h_12, h⟩ := h
    refine J_iast F (lay_net y0).2.2.2.1 h_12 dX1_letIn_37 ?_
    refine J_st (fun σ_13 eσ_13 => ?_)
    have h := h σ_13 eσ_13
    refine J_ic F dX1_letIn_38 ki_0 ?_
    refine J_is F (L' := [(6, .int (nI 0)), (5, .int r_5), (0, .ref (gb G + a0)), (1, .int x1), (2, .int x2), (3, .int x3), (4, .int x4)]) dX1_letIn_39 (by decide) rfl ?_
    refine J_sub [2, 5, 6, 1, 0] rfl ?_
    obtain ⟨n9, h⟩ := h
    exact wk_X1_letIn_41 F y0 n9 _ _ h
  · have h := h.2 c_7
    refine J_ic F dX1_letIn_12 ki_m1 ?_
    exact J_reti F ⟨_, rfl, h⟩ dX1_letIn_13
theorem dX1_letGo_0 : decode cX1_letGo 0 = .ok (.aload_n 0, 1) := by decide +kernel
theorem dX1_letGo_1 : decode cX1_letGo 1 = .ok (.getfield 17, 3) := by decide +kernel
theorem dX1_letGo_4 : decode cX1_letGo 4 = .ok (.iload_n 1, 1) := by decide +kernel
theorem dX1_letGo_5 : decode cX1_letGo 5 = .ok (.iconst 0, 1) := by decide +kernel
theorem dX1_letGo_6 : decode cX1_letGo 6 = .ok (.iastore, 1) := by decide +kernel
theorem dX1_letGo_7 : decode cX1_letGo 7 = .ok (.aload_n 0, 1) := by decide +kernel
theorem dX1_letGo_8 : decode cX1_letGo 8 = .ok (.iconst 1, 1) := by decide +kernel
theorem dX1_letGo_9 : decode cX1_letGo 9 = .ok (.invokevirtual 85, 3) := by decide +kernel
theorem dX1_letGo_12 : decode cX1_letGo 12 = .ok (.istore_n 2, 1) := by decide +kernel
theorem dX1_letGo_13 : decode cX1_letGo 13 = .ok (.iconst 0, 1) := by decide +kernel
theorem dX1_letGo_14 : decode cX1_letGo 14 = .ok (.istore_n 3, 1) := by decide +kernel
theorem dX1_letGo_15 : decode cX1_letGo 15 = .ok (.iload_n 3, 1) := by decide +kernel
theorem dX1_letGo_16 : decode cX1_letGo 16 = .ok (.aload_n 0, 1) := by decide +kernel
theorem dX1_letGo_17 : decode cX1_letGo 17 = .ok (.getfield 43, 3) := by decide +kernel
theorem dX1_letGo_20 : decode cX1_letGo 20 = .ok (.if_icmp .ge 36, 3) := by decide +kernel
theorem dX1_letGo_23 : decode cX1_letGo 23 = .ok (.iload_n 2, 1) := by decide +kernel
theorem dX1_letGo_24 : decode cX1_letGo 24 = .ok (.ifCond .ne 15, 3) := by decide +kernel
theorem dX1_letGo_27 : decode cX1_letGo 27 = .ok (.aload_n 0, 1) := by decide +kernel
theorem dX1_letGo_28 : decode cX1_letGo 28 = .ok (.getfield 11, 3) := by decide +kernel
theorem dX1_letGo_31 : decode cX1_letGo 31 = .ok (.iload_n 3, 1) := by decide +kernel
theorem dX1_letGo_32 : decode cX1_letGo 32 = .ok (.aaload, 1) := by decide +kernel
theorem dX1_letGo_33 : decode cX1_letGo 33 = .ok (.invokevirtual 126, 3) := by decide +kernel
theorem dX1_letGo_36 : decode cX1_letGo 36 = .ok (.goto 14, 3) := by decide +kernel
theorem dX1_letGo_39 : decode cX1_letGo 39 = .ok (.aload_n 0, 1) := by decide +kernel
theorem dX1_letGo_40 : decode cX1_letGo 40 = .ok (.getfield 11, 3) := by decide +kernel
theorem dX1_letGo_43 : decode cX1_letGo 43 = .ok (.iload_n 3, 1) := by decide +kernel
theorem dX1_letGo_44 : decode cX1_letGo 44 = .ok (.aaload, 1) := by decide +kernel
theorem dX1_letGo_45 : decode cX1_letGo 45 = .ok (.iload_n 1, 1) := by decide +kernel
theorem dX1_letGo_46 : decode cX1_letGo 46 = .ok (.iload_n 2, 1) := by decide +kernel
theorem dX1_letGo_47 : decode cX1_letGo 47 = .ok (.invokevirtual 133, 3) := by decide +kernel
theorem dX1_letGo_50 : decode cX1_letGo 50 = .ok (.iinc 3 1, 3) := by decide +kernel
theorem dX1_letGo_53 : decode cX1_letGo 53 = .ok (.goto (-38), 3) := by decide +kernel
theorem dX1_letGo_56 : decode cX1_letGo 56 = .ok (.iload_n 2, 1) := by decide +kernel
theorem dX1_letGo_57 : decode cX1_letGo 57 = .ok (.ifCond .ne 11, 3) := by decide +kernel
theorem dX1_letGo_60 : decode cX1_letGo 60 = .ok (.aload_n 0, 1) := by decide +kernel
theorem dX1_letGo_61 : decode cX1_letGo 61 = .ok (.getfield 36, 3) := by decide +kernel
theorem dX1_letGo_64 : decode cX1_letGo 64 = .ok (.iconst 0, 1) := by decide +kernel
theorem dX1_letGo_65 : decode cX1_letGo 65 = .ok (.invokestatic 47, 3) := by decide +kernel
theorem dX1_letGo_68 : decode cX1_letGo 68 = .ok (.iload_n 2, 1) := by decide +kernel
theorem dX1_letGo_69 : decode cX1_letGo 69 = .ok (.invokestatic 137, 3) := by decide +kernel
theorem dX1_letGo_72 : decode cX1_letGo 72 = .ok (.ireturn, 1) := by decide +kernel
set_option maxRecDepth 20000 in
set_option maxHeartbeats 4000000 in
theorem wk_X1_letGo_68 {p : Program} {l : Launch} {e : Env} {s : State} {m : MethodId} {args : Array Value} {below : List Frame} {meth : Method} {c : Code} {G : Gp} {σ : St} {x2 : Int32}  {Q : Int32 → St → Prop} (F : FX p s m args meth c cX1_letGo 4 (some .int) RX1 G)   (h : wp_X1_letGo_68 σ x2 Q) : J p l e (rmF 5 119) s m args below meth c 4 G (MQ below (QQ G (qI Q)) args s 0 0 (fr G)) 0 0 68 [(2, .int x2)] [] σ := by
  unfold wp_X1_letGo_68 at h
  refine J_iln F 0 dX1_letGo_68 rfl rfl ?_
  refine J_callSi F (As := [.int x2]) (st := []) (C_J6_bitCount_0f7a4 l G x2  h) lm_X1_137 li_J6_bitCount_0f7a4 ini_J6 lc_J6_bitCount_0f7a4 hd_J6_bitCount_0f7a4 (by decide) (Nat.le_of_ble_eq_true rfl) (by decide) rfl dX1_letGo_69 (fun r_1 σ_2 hh => ?_)
  clear h
  obtain ⟨e9, h⟩ := hh
  subst σ_2
  exact J_reti F ⟨_, rfl, h⟩ dX1_letGo_72
set_option maxRecDepth 20000 in
set_option maxHeartbeats 4000000 in
theorem wk_X1_letGo_56 {p : Program} {l : Launch} {e : Env} {s : State} {m : MethodId} {args : Array Value} {below : List Frame} {meth : Method} {c : Code} {G : Gp} {σ : St} {a0 : Nat} {x2 : Int32}  {Q : Int32 → St → Prop} (F : FX p s m args meth c cX1_letGo 4 (some .int) RX1 G) (y0 : lay a0 = (1, 0))  (h : wp_X1_letGo_56 σ a0 x2 Q) : J p l e (rmF 5 119) s m args below meth c 4 G (MQ below (QQ G (qI Q)) args s 0 0 (fr G)) 0 0 56 [(0, .ref (gb G + a0)), (2, .int x2)] [] σ := by
  unfold wp_X1_letGo_56 at h
  refine J_iln F 1 dX1_letGo_56 rfl rfl ?_
  refine J_zne F (tgt := 68) dX1_letGo_57 (by decide) (fun c_3 => ?_) (fun c_3 => ?_)
  · have h := h.1 c_3
    refine J_sub [1] rfl ?_
    exact wk_X1_letGo_68 F  h
  · have h := h.2 c_3
    refine J_aln F 0 dX1_letGo_60 rfl rfl ?_
    refine J_gfr F (ci := 1) 7 rfl inX1 y0 (by decide) (by decide) rfl lf_X1_36 rfl dX1_letGo_61 ?_
    refine J_ic F dX1_letGo_64 ki_0 ?_
    refine J_callSv F (As := [.ref (gb G + (a0 + 8)), .int (nI 0)]) (st := []) (C_J7_fill_53178 l G (a0 + 8) 100 (nI 0) (lay_net y0).2.2.2.2.2.2.2.1 h) lm_X1_47 li_J7_fill_53178 ini_J7 lc_J7_fill_53178 hd_J7_fill_53178 (by decide) (Nat.le_of_ble_eq_true rfl) (by decide) rfl dX1_letGo_65 (fun σ_4 h => ?_)
    refine J_sub [1] rfl ?_
    exact wk_X1_letGo_68 F  h
set_option maxRecDepth 20000 in
set_option maxHeartbeats 4000000 in
theorem wk_X1_letGo_15 {p : Program} {l : Launch} {e : Env} {s : State} {m : MethodId} {args : Array Value} {below : List Frame} {meth : Method} {c : Code} {G : Gp} {a0 : Nat} {x1 : Int32} {x2 : Int32}  {Q : Int32 → St → Prop} (F : FX p s m args meth c cX1_letGo 4 (some .int) RX1 G) (y0 : lay a0 = (1, 0))  : ∀ (n9 : Nat) (σ : St) (x3 : Int32), LP2 (wp_X1_letGo_15 a0 x1 x2 Q) n9 σ x3 → J p l e (rmF 5 119) s m args below meth c 4 G (MQ below (QQ G (qI Q)) args s 0 0 (fr G)) 0 0 15 [(0, .ref (gb G + a0)), (1, .int x1), (2, .int x2), (3, .int x3)] [] σ := by
  intro n9
  induction n9 with
  | zero => intro σ x3 h; exact h.elim
  | succ n9 i15 =>
    intro σ x3 h
    have h : wp_X1_letGo_15 a0 x1 x2 Q (LP2 (wp_X1_letGo_15 a0 x1 x2 Q) n9) σ x3 := h
    unfold wp_X1_letGo_15 at h
    refine J_iln F 3 dX1_letGo_15 rfl rfl ?_
    refine J_aln F 0 dX1_letGo_16 rfl rfl ?_
    refine J_gfi F (ci := 1) 9 rfl inX1 y0 (by decide) (by decide) rfl lf_X1_43 rfl dX1_letGo_17 ?_
    refine J_cge F (tgt := 56) dX1_letGo_20 (by decide) (fun c_5 => ?_) (fun c_5 => ?_)
    · have h := h.1 c_5
      refine J_sub [0, 2] rfl ?_
      exact wk_X1_letGo_56 F y0 h
    · have h := h.2 c_5
      refine J_iln F 2 dX1_letGo_23 rfl rfl ?_
      refine J_zne F (tgt := 39) dX1_letGo_24 (by decide) (fun c_6 => ?_) (fun c_6 => ?_)
      · have h := h.1 c_6
        refine J_aln F 0 dX1_letGo_39 rfl rfl ?_
        refine J_gfr F (ci := 1) 0 rfl inX1 y0 (by decide) (by decide) rfl lf_X1_11 rfl dX1_letGo_40 ?_
        refine J_iln F 3 dX1_letGo_43 rfl rfl ?_
        obtain ⟨h_7, h⟩ := h
        refine J_aldS F (lay_net y0).1 h_7 dX1_letGo_44 ?_
        refine J_iln F 1 dX1_letGo_45 rfl rfl ?_
        refine J_iln F 2 dX1_letGo_46 rfl rfl ?_
        refine J_callVv F (As := [.int x1, .int x2]) (st := []) (C_X4_handAll l G (a0 + 1 + 8 + 4 * Int32.toNatClampNeg x3) x1 x2 (lay_sp y0 h_7) h) (ci := 4) (lay_sp y0 h_7) (by decide) rfl rfl lm_X1_133 li_X4_handAll ls_X4_handAll ini_X4 lc_X4_handAll hd_X4_handAll (by decide) (Nat.le_of_ble_eq_true rfl) (by decide) rfl dX1_letGo_47 (fun σ_8 h => ?_)
        obtain ⟨x3_9, ex3_9⟩ : ∃ z : Int32, z = x3 + (nI 1) := ⟨_, rfl⟩
        have h := h x3_9 ex3_9
        refine J_iinc F (v := x3_9) (L' := [(3, .int x3_9), (0, .ref (gb G + a0)), (1, .int x1), (2, .int x2)]) 3 dX1_letGo_50 rfl (by rw [ki_1, ex3_9]) (by decide) rfl ?_
        refine J_goto F (tgt := 15) dX1_letGo_53 (by decide) ?_
        refine J_sub [1, 2, 3, 0] rfl ?_
        exact i15 _ _ h
      · have h := h.2 c_6
        refine J_aln F 0 dX1_letGo_27 rfl rfl ?_
        refine J_gfr F (ci := 1) 0 rfl inX1 y0 (by decide) (by decide) rfl lf_X1_11 rfl dX1_letGo_28 ?_
        refine J_iln F 3 dX1_letGo_31 rfl rfl ?_
        obtain ⟨h_10, h⟩ := h
        refine J_aldS F (lay_net y0).1 h_10 dX1_letGo_32 ?_
        refine J_callVv F (As := []) (st := []) (C_X4_clear l G (a0 + 1 + 8 + 4 * Int32.toNatClampNeg x3) (lay_sp y0 h_10) h) (ci := 4) (lay_sp y0 h_10) (by decide) rfl rfl lm_X1_126 li_X4_clear ls_X4_clear ini_X4 lc_X4_clear hd_X4_clear (by decide) (Nat.le_of_ble_eq_true rfl) (by decide) rfl dX1_letGo_33 (fun σ_11 h => ?_)
        refine J_goto F (tgt := 50) dX1_letGo_36 (by decide) ?_
        obtain ⟨x3_12, ex3_12⟩ : ∃ z : Int32, z = x3 + (nI 1) := ⟨_, rfl⟩
        have h := h x3_12 ex3_12
        refine J_iinc F (v := x3_12) (L' := [(3, .int x3_12), (0, .ref (gb G + a0)), (1, .int x1), (2, .int x2)]) 3 dX1_letGo_50 rfl (by rw [ki_1, ex3_12]) (by decide) rfl ?_
        refine J_goto F (tgt := 15) dX1_letGo_53 (by decide) ?_
        refine J_sub [1, 2, 3, 0] rfl ?_
        exact i15 _ _ h
set_option maxRecDepth 20000 in
set_option maxHeartbeats 4000000 in
theorem C_X1_letGo (l : Launch) (G : Gp) (a0 : Nat) (x1 : Int32) (y0 : lay a0 = (1, 0)) {σ : St} {Q : Int32 → St → Prop} (h : wp_X1_letGo σ a0 x1 Q) : Cn l yX1_letGo cX1_letGo 4 (some .int) 5 119 G [.ref (gb G + a0), .int x1] σ (qI Q) := by
  refine Cn_of (L := [(0, .ref (gb G + a0)), (1, .int x1)]) RX1 (by decide) rfl (Nat.le_of_ble_eq_true rfl) rfl ?_
  intro p e s m below meth c F
  unfold wp_X1_letGo at h
  refine J_aln F 0 dX1_letGo_0 rfl rfl ?_
  refine J_gfr F (ci := 1) 1 rfl inX1 y0 (by decide) (by decide) rfl lf_X1_17 rfl dX1_letGo_1 ?_
  refine J_iln F 1 dX1_letGo_4 rfl rfl ?_
  refine J_ic F dX1_letGo_5 ki_0 ?_
  obtain ⟨h_13, h⟩ := h
  refine J_iast F (lay_net y0).2.1 h_13 dX1_letGo_6 ?_
  refine J_st (fun σ_14 eσ_14 => ?_)
  have h := h σ_14 eσ_14
  refine J_aln F 0 dX1_letGo_7 rfl rfl ?_
  refine J_ic F dX1_letGo_8 ki_1 ?_
  refine J_callVi F (As := [.int (nI 1)]) (st := []) (C_X1_nodesThatAre l G a0 (nI 1) y0 h) (ci := 1) y0 (by decide) rfl rfl lm_X1_85 li_X1_nodesThatAre ls_X1_nodesThatAre ini_X1 lc_X1_nodesThatAre hd_X1_nodesThatAre (by decide) (Nat.le_of_ble_eq_true rfl) (by decide) rfl dX1_letGo_9 (fun r_15 σ_16 hh => ?_)
  clear h
  obtain ⟨e9, h⟩ := hh
  subst σ_16
  refine J_isn F (L' := [(2, .int r_15), (0, .ref (gb G + a0)), (1, .int x1)]) dX1_letGo_12 rfl (by decide) rfl ?_
  refine J_ic F dX1_letGo_13 ki_0 ?_
  refine J_isn F (L' := [(3, .int (nI 0)), (2, .int r_15), (0, .ref (gb G + a0)), (1, .int x1)]) dX1_letGo_14 rfl (by decide) rfl ?_
  refine J_sub [2, 3, 1, 0] rfl ?_
  obtain ⟨n9, h⟩ := h
  exact wk_X1_letGo_15 F y0 n9 _ _ h
theorem dX1_isHeld_0 : decode cX1_isHeld 0 = .ok (.aload_n 0, 1) := by decide +kernel
theorem dX1_isHeld_1 : decode cX1_isHeld 1 = .ok (.getfield 36, 3) := by decide +kernel
theorem dX1_isHeld_4 : decode cX1_isHeld 4 = .ok (.iload_n 1, 1) := by decide +kernel
theorem dX1_isHeld_5 : decode cX1_isHeld 5 = .ok (.iaload, 1) := by decide +kernel
theorem dX1_isHeld_6 : decode cX1_isHeld 6 = .ok (.iload_n 2, 1) := by decide +kernel
theorem dX1_isHeld_7 : decode cX1_isHeld 7 = .ok (.ishr, 1) := by decide +kernel
theorem dX1_isHeld_8 : decode cX1_isHeld 8 = .ok (.iconst 1, 1) := by decide +kernel
theorem dX1_isHeld_9 : decode cX1_isHeld 9 = .ok (.iand, 1) := by decide +kernel
theorem dX1_isHeld_10 : decode cX1_isHeld 10 = .ok (.ifCond .eq 7, 3) := by decide +kernel
theorem dX1_isHeld_13 : decode cX1_isHeld 13 = .ok (.iconst 1, 1) := by decide +kernel
theorem dX1_isHeld_14 : decode cX1_isHeld 14 = .ok (.goto 4, 3) := by decide +kernel
theorem dX1_isHeld_17 : decode cX1_isHeld 17 = .ok (.iconst 0, 1) := by decide +kernel
theorem dX1_isHeld_18 : decode cX1_isHeld 18 = .ok (.ireturn, 1) := by decide +kernel
set_option maxRecDepth 20000 in
set_option maxHeartbeats 4000000 in
theorem C_X1_isHeld (l : Launch) (G : Gp) (a0 : Nat) (x1 : Int32) (x2 : Int32) (y0 : lay a0 = (1, 0)) {σ : St} {Q : Int32 → Prop} (h : wp_X1_isHeld σ a0 x1 x2 Q) : Cn l yX1_isHeld cX1_isHeld 3 (some .boolean) 0 0 G [.ref (gb G + a0), .int x1, .int x2] σ (qI (fun r σ' => σ' = σ ∧ Q r)) := by
  refine Cn_of (L := [(0, .ref (gb G + a0)), (1, .int x1), (2, .int x2)]) RX1 (by decide) rfl (Nat.le_of_ble_eq_true rfl) rfl ?_
  intro p e s m below meth c F
  unfold wp_X1_isHeld at h
  refine J_aln F 0 dX1_isHeld_0 rfl rfl ?_
  refine J_gfr F (ci := 1) 7 rfl inX1 y0 (by decide) (by decide) rfl lf_X1_36 rfl dX1_isHeld_1 ?_
  refine J_iln F 1 dX1_isHeld_4 rfl rfl ?_
  obtain ⟨h_1, h⟩ := h
  refine J_iald F (lay_net y0).2.2.2.2.2.2.2.1 h_1 dX1_isHeld_5 ?_
  refine J_iln F 2 dX1_isHeld_6 rfl rfl ?_
  refine J_ishr F dX1_isHeld_7 ?_
  refine J_ic F dX1_isHeld_8 ki_1 ?_
  refine J_iand F dX1_isHeld_9 ?_
  refine J_zeq F (tgt := 17) dX1_isHeld_10 (by decide) (fun c_2 => ?_) (fun c_2 => ?_)
  · have h := h.1 c_2
    refine J_ic F dX1_isHeld_17 ki_0 ?_
    exact J_retz F (Or.inl rfl) ⟨_, rfl, rfl, h⟩ dX1_isHeld_18
  · have h := h.2 c_2
    refine J_ic F dX1_isHeld_13 ki_1 ?_
    refine J_goto F (tgt := 18) dX1_isHeld_14 (by decide) ?_
    exact J_retz F (Or.inr rfl) ⟨_, rfl, rfl, h⟩ dX1_isHeld_18
theorem dX1_isHeldBy_0 : decode cX1_isHeldBy 0 = .ok (.aload_n 0, 1) := by decide +kernel
theorem dX1_isHeldBy_1 : decode cX1_isHeldBy 1 = .ok (.iload_n 1, 1) := by decide +kernel
theorem dX1_isHeldBy_2 : decode cX1_isHeldBy 2 = .ok (.iload_n 2, 1) := by decide +kernel
theorem dX1_isHeldBy_3 : decode cX1_isHeldBy 3 = .ok (.invokevirtual 176, 3) := by decide +kernel
theorem dX1_isHeldBy_6 : decode cX1_isHeldBy 6 = .ok (.ifCond .eq 30, 3) := by decide +kernel
theorem dX1_isHeldBy_9 : decode cX1_isHeldBy 9 = .ok (.aload_n 0, 1) := by decide +kernel
theorem dX1_isHeldBy_10 : decode cX1_isHeldBy 10 = .ok (.getfield 11, 3) := by decide +kernel
theorem dX1_isHeldBy_13 : decode cX1_isHeldBy 13 = .ok (.iload_n 2, 1) := by decide +kernel
theorem dX1_isHeldBy_14 : decode cX1_isHeldBy 14 = .ok (.aaload, 1) := by decide +kernel
theorem dX1_isHeldBy_15 : decode cX1_isHeldBy 15 = .ok (.iload_n 1, 1) := by decide +kernel
theorem dX1_isHeldBy_16 : decode cX1_isHeldBy 16 = .ok (.iload_n 2, 1) := by decide +kernel
theorem dX1_isHeldBy_17 : decode cX1_isHeldBy 17 = .ok (.invokestatic 170, 3) := by decide +kernel
theorem dX1_isHeldBy_20 : decode cX1_isHeldBy 20 = .ok (.iload_n 1, 1) := by decide +kernel
theorem dX1_isHeldBy_21 : decode cX1_isHeldBy 21 = .ok (.iload_n 2, 1) := by decide +kernel
theorem dX1_isHeldBy_22 : decode cX1_isHeldBy 22 = .ok (.invokestatic 173, 3) := by decide +kernel
theorem dX1_isHeldBy_25 : decode cX1_isHeldBy 25 = .ok (.invokevirtual 98, 3) := by decide +kernel
theorem dX1_isHeldBy_28 : decode cX1_isHeldBy 28 = .ok (.iload_n 3, 1) := by decide +kernel
theorem dX1_isHeldBy_29 : decode cX1_isHeldBy 29 = .ok (.if_icmp .ne 7, 3) := by decide +kernel
theorem dX1_isHeldBy_32 : decode cX1_isHeldBy 32 = .ok (.iconst 1, 1) := by decide +kernel
theorem dX1_isHeldBy_33 : decode cX1_isHeldBy 33 = .ok (.goto 4, 3) := by decide +kernel
theorem dX1_isHeldBy_36 : decode cX1_isHeldBy 36 = .ok (.iconst 0, 1) := by decide +kernel
theorem dX1_isHeldBy_37 : decode cX1_isHeldBy 37 = .ok (.ireturn, 1) := by decide +kernel
set_option maxRecDepth 20000 in
set_option maxHeartbeats 4000000 in
theorem C_X1_isHeldBy (l : Launch) (G : Gp) (a0 : Nat) (x1 : Int32) (x2 : Int32) (x3 : Int32) (y0 : lay a0 = (1, 0)) {σ : St} {Q : Int32 → Prop} (h : wp_X1_isHeldBy σ a0 x1 x2 x3 Q) : Cn l yX1_isHeldBy cX1_isHeldBy 4 (some .boolean) 2 46 G [.ref (gb G + a0), .int x1, .int x2, .int x3] σ (qI (fun r σ' => σ' = σ ∧ Q r)) := by
  refine Cn_of (L := [(0, .ref (gb G + a0)), (1, .int x1), (2, .int x2), (3, .int x3)]) RX1 (by decide) rfl (Nat.le_of_ble_eq_true rfl) rfl ?_
  intro p e s m below meth c F
  unfold wp_X1_isHeldBy at h
  refine J_aln F 0 dX1_isHeldBy_0 rfl rfl ?_
  refine J_iln F 1 dX1_isHeldBy_1 rfl rfl ?_
  refine J_iln F 2 dX1_isHeldBy_2 rfl rfl ?_
  refine J_callVi F (As := [.int x1, .int x2]) (st := []) (C_X1_isHeld l G a0 x1 x2 y0 h) (ci := 1) y0 (by decide) rfl rfl lm_X1_176 li_X1_isHeld ls_X1_isHeld ini_X1 lc_X1_isHeld hd_X1_isHeld (by decide) (Nat.le_of_ble_eq_true rfl) (by decide) rfl dX1_isHeldBy_3 (fun r_1 σ_2 hh => ?_)
  clear h
  obtain ⟨e9, h⟩ := hh
  subst σ_2
  refine J_zeq F (tgt := 36) dX1_isHeldBy_6 (by decide) (fun c_3 => ?_) (fun c_3 => ?_)
  · have h := h.1 c_3
    refine J_ic F dX1_isHeldBy_36 ki_0 ?_
    exact J_retz F (Or.inl rfl) ⟨_, rfl, rfl, h⟩ dX1_isHeldBy_37
  · have h := h.2 c_3
    refine J_aln F 0 dX1_isHeldBy_9 rfl rfl ?_
    refine J_gfr F (ci := 1) 0 rfl inX1 y0 (by decide) (by decide) rfl lf_X1_11 rfl dX1_isHeldBy_10 ?_
    refine J_iln F 2 dX1_isHeldBy_13 rfl rfl ?_
    obtain ⟨h_4, h⟩ := h
    refine J_aldS F (lay_net y0).1 h_4 dX1_isHeldBy_14 ?_
    refine J_iln F 1 dX1_isHeldBy_15 rfl rfl ?_
    refine J_iln F 2 dX1_isHeldBy_16 rfl rfl ?_
    refine J_callSi F (As := [.int x1, .int x2]) (st := [.ref (gb G + (a0 + 1 + 8 + 4 * Int32.toNatClampNeg x2))]) (C_X1_pointX l G x1 x2  h) lm_X1_170 li_X1_pointX ini_X1 lc_X1_pointX hd_X1_pointX (by decide) (Nat.le_of_ble_eq_true rfl) (by decide) rfl dX1_isHeldBy_17 (fun r_5 σ_6 hh => ?_)
    clear h
    obtain ⟨e9, h⟩ := hh
    subst σ_6
    refine J_iln F 1 dX1_isHeldBy_20 rfl rfl ?_
    refine J_iln F 2 dX1_isHeldBy_21 rfl rfl ?_
    refine J_callSi F (As := [.int x1, .int x2]) (st := [.int r_5, .ref (gb G + (a0 + 1 + 8 + 4 * Int32.toNatClampNeg x2))]) (C_X1_pointY l G x1 x2  h) lm_X1_173 li_X1_pointY ini_X1 lc_X1_pointY hd_X1_pointY (by decide) (Nat.le_of_ble_eq_true rfl) (by decide) rfl dX1_isHeldBy_22 (fun r_7 σ_8 hh => ?_)
    clear h
    obtain ⟨e9, h⟩ := hh
    subst σ_8
    refine J_callVi F (As := [.int r_5, .int r_7]) (st := []) (C_X4_nodeAt l G (a0 + 1 + 8 + 4 * Int32.toNatClampNeg x2) r_5 r_7 (lay_sp y0 h_4) h) (ci := 4) (lay_sp y0 h_4) (by decide) rfl rfl lm_X1_98 li_X4_nodeAt ls_X4_nodeAt ini_X4 lc_X4_nodeAt hd_X4_nodeAt (by decide) (Nat.le_of_ble_eq_true rfl) (by decide) rfl dX1_isHeldBy_25 (fun r_9 σ_10 hh => ?_)
    clear h
    obtain ⟨e9, h⟩ := hh
    subst σ_10
    refine J_iln F 3 dX1_isHeldBy_28 rfl rfl ?_
    refine J_cne F (tgt := 36) dX1_isHeldBy_29 (by decide) (fun c_11 => ?_) (fun c_11 => ?_)
    · have h := h.1 c_11
      refine J_ic F dX1_isHeldBy_36 ki_0 ?_
      exact J_retz F (Or.inl rfl) ⟨_, rfl, rfl, h⟩ dX1_isHeldBy_37
    · have h := h.2 c_11
      refine J_ic F dX1_isHeldBy_32 ki_1 ?_
      refine J_goto F (tgt := 37) dX1_isHeldBy_33 (by decide) ?_
      exact J_retz F (Or.inr rfl) ⟨_, rfl, rfl, h⟩ dX1_isHeldBy_37
theorem dX1_letDie_0 : decode cX1_letDie 0 = .ok (.aload_n 0, 1) := by decide +kernel
theorem dX1_letDie_1 : decode cX1_letDie 1 = .ok (.getfield 17, 3) := by decide +kernel
theorem dX1_letDie_4 : decode cX1_letDie 4 = .ok (.iload_n 1, 1) := by decide +kernel
theorem dX1_letDie_5 : decode cX1_letDie 5 = .ok (.iconst 2, 1) := by decide +kernel
theorem dX1_letDie_6 : decode cX1_letDie 6 = .ok (.iastore, 1) := by decide +kernel
theorem dX1_letDie_7 : decode cX1_letDie 7 = .ok (.iconst 0, 1) := by decide +kernel
theorem dX1_letDie_8 : decode cX1_letDie 8 = .ok (.istore_n 2, 1) := by decide +kernel
theorem dX1_letDie_9 : decode cX1_letDie 9 = .ok (.iload_n 2, 1) := by decide +kernel
theorem dX1_letDie_10 : decode cX1_letDie 10 = .ok (.bipush 100, 2) := by decide +kernel
theorem dX1_letDie_12 : decode cX1_letDie 12 = .ok (.if_icmp .ge 49, 3) := by decide +kernel
theorem dX1_letDie_15 : decode cX1_letDie 15 = .ok (.iconst 0, 1) := by decide +kernel
theorem dX1_letDie_16 : decode cX1_letDie 16 = .ok (.istore_n 3, 1) := by decide +kernel
theorem dX1_letDie_17 : decode cX1_letDie 17 = .ok (.iload_n 3, 1) := by decide +kernel
theorem dX1_letDie_18 : decode cX1_letDie 18 = .ok (.aload_n 0, 1) := by decide +kernel
theorem dX1_letDie_19 : decode cX1_letDie 19 = .ok (.getfield 43, 3) := by decide +kernel
theorem dX1_letDie_22 : decode cX1_letDie 22 = .ok (.if_icmp .ge 33, 3) := by decide +kernel
theorem dX1_letDie_25 : decode cX1_letDie 25 = .ok (.aload_n 0, 1) := by decide +kernel
theorem dX1_letDie_26 : decode cX1_letDie 26 = .ok (.iload_n 2, 1) := by decide +kernel
theorem dX1_letDie_27 : decode cX1_letDie 27 = .ok (.iload_n 3, 1) := by decide +kernel
theorem dX1_letDie_28 : decode cX1_letDie 28 = .ok (.iload_n 1, 1) := by decide +kernel
theorem dX1_letDie_29 : decode cX1_letDie 29 = .ok (.invokevirtual 142, 3) := by decide +kernel
theorem dX1_letDie_32 : decode cX1_letDie 32 = .ok (.ifCond .eq 17, 3) := by decide +kernel
theorem dX1_letDie_35 : decode cX1_letDie 35 = .ok (.aload_n 0, 1) := by decide +kernel
theorem dX1_letDie_36 : decode cX1_letDie 36 = .ok (.getfield 36, 3) := by decide +kernel
theorem dX1_letDie_39 : decode cX1_letDie 39 = .ok (.iload_n 2, 1) := by decide +kernel
theorem dX1_letDie_40 : decode cX1_letDie 40 = .ok (.dup2, 1) := by decide +kernel
theorem dX1_letDie_41 : decode cX1_letDie 41 = .ok (.iaload, 1) := by decide +kernel
theorem dX1_letDie_42 : decode cX1_letDie 42 = .ok (.iconst 1, 1) := by decide +kernel
theorem dX1_letDie_43 : decode cX1_letDie 43 = .ok (.iload_n 3, 1) := by decide +kernel
theorem dX1_letDie_44 : decode cX1_letDie 44 = .ok (.ishl, 1) := by decide +kernel
theorem dX1_letDie_45 : decode cX1_letDie 45 = .ok (.iconst (-1), 1) := by decide +kernel
theorem dX1_letDie_46 : decode cX1_letDie 46 = .ok (.ixor, 1) := by decide +kernel
theorem dX1_letDie_47 : decode cX1_letDie 47 = .ok (.iand, 1) := by decide +kernel
theorem dX1_letDie_48 : decode cX1_letDie 48 = .ok (.iastore, 1) := by decide +kernel
theorem dX1_letDie_49 : decode cX1_letDie 49 = .ok (.iinc 3 1, 3) := by decide +kernel
theorem dX1_letDie_52 : decode cX1_letDie 52 = .ok (.goto (-35), 3) := by decide +kernel
theorem dX1_letDie_55 : decode cX1_letDie 55 = .ok (.iinc 2 1, 3) := by decide +kernel
theorem dX1_letDie_58 : decode cX1_letDie 58 = .ok (.goto (-49), 3) := by decide +kernel
theorem dX1_letDie_61 : decode cX1_letDie 61 = .ok (.aload_n 0, 1) := by decide +kernel
theorem dX1_letDie_62 : decode cX1_letDie 62 = .ok (.iconst 1, 1) := by decide +kernel
theorem dX1_letDie_63 : decode cX1_letDie 63 = .ok (.invokevirtual 85, 3) := by decide +kernel
theorem dX1_letDie_66 : decode cX1_letDie 66 = .ok (.invokestatic 137, 3) := by decide +kernel
theorem dX1_letDie_69 : decode cX1_letDie 69 = .ok (.ireturn, 1) := by decide +kernel
set_option maxRecDepth 20000 in
set_option maxHeartbeats 4000000 in
theorem wk_X1_letDie_61 {p : Program} {l : Launch} {e : Env} {s : State} {m : MethodId} {args : Array Value} {below : List Frame} {meth : Method} {c : Code} {G : Gp} {σ : St} {a0 : Nat}  {Q : Int32 → St → Prop} (F : FX p s m args meth c cX1_letDie 4 (some .int) RX1 G) (y0 : lay a0 = (1, 0))  (h : wp_X1_letDie_61 σ a0 Q) : J p l e (rmF 3 69) s m args below meth c 4 G (MQ below (QQ G (qI Q)) args s 0 0 (fr G)) 0 0 61 [(0, .ref (gb G + a0))] [] σ := by
  unfold wp_X1_letDie_61 at h
  refine J_aln F 0 dX1_letDie_61 rfl rfl ?_
  refine J_ic F dX1_letDie_62 ki_1 ?_
  refine J_callVi F (As := [.int (nI 1)]) (st := []) (C_X1_nodesThatAre l G a0 (nI 1) y0 h) (ci := 1) y0 (by decide) rfl rfl lm_X1_85 li_X1_nodesThatAre ls_X1_nodesThatAre ini_X1 lc_X1_nodesThatAre hd_X1_nodesThatAre (by decide) (Nat.le_of_ble_eq_true rfl) (by decide) rfl dX1_letDie_63 (fun r_1 σ_2 hh => ?_)
  clear h
  obtain ⟨e9, h⟩ := hh
  subst σ_2
  refine J_callSi F (As := [.int r_1]) (st := []) (C_J6_bitCount_0f7a4 l G r_1  h) lm_X1_137 li_J6_bitCount_0f7a4 ini_J6 lc_J6_bitCount_0f7a4 hd_J6_bitCount_0f7a4 (by decide) (Nat.le_of_ble_eq_true rfl) (by decide) rfl dX1_letDie_66 (fun r_3 σ_4 hh => ?_)
  clear h
  obtain ⟨e9, h⟩ := hh
  subst σ_4
  exact J_reti F ⟨_, rfl, h⟩ dX1_letDie_69
set_option maxRecDepth 20000 in
set_option maxHeartbeats 4000000 in
theorem wk_X1_letDie_17 {p : Program} {l : Launch} {e : Env} {s : State} {m : MethodId} {args : Array Value} {below : List Frame} {meth : Method} {c : Code} {G : Gp} {a0 : Nat} {x1 : Int32} {x2 : Int32} {ih9 : St → Int32 → Prop} {Q : Int32 → St → Prop} (F : FX p s m args meth c cX1_letDie 4 (some .int) RX1 G) (y0 : lay a0 = (1, 0)) (i9 : ∀ (σ : St) (x2 : Int32), ih9 σ x2 → J p l e (rmF 3 69) s m args below meth c 4 G (MQ below (QQ G (qI Q)) args s 0 0 (fr G)) 0 0 9 [(0, .ref (gb G + a0)), (1, .int x1), (2, .int x2)] [] σ) : ∀ (n9 : Nat) (σ : St) (x3 : Int32), LP2 (wp_X1_letDie_17 a0 x1 x2 ih9 Q) n9 σ x3 → J p l e (rmF 3 69) s m args below meth c 4 G (MQ below (QQ G (qI Q)) args s 0 0 (fr G)) 0 0 17 [(0, .ref (gb G + a0)), (1, .int x1), (2, .int x2), (3, .int x3)] [] σ := by
  intro n9
  induction n9 with
  | zero => intro σ x3 h; exact h.elim
  | succ n9 i17 =>
    intro σ x3 h
    have h : wp_X1_letDie_17 a0 x1 x2 ih9 Q (LP2 (wp_X1_letDie_17 a0 x1 x2 ih9 Q) n9) σ x3 := h
    unfold wp_X1_letDie_17 at h
    refine J_iln F 3 dX1_letDie_17 rfl rfl ?_
    refine J_aln F 0 dX1_letDie_18 rfl rfl ?_
    refine J_gfi F (ci := 1) 9 rfl inX1 y0 (by decide) (by decide) rfl lf_X1_43 rfl dX1_letDie_19 ?_
    refine J_cge F (tgt := 55) dX1_letDie_22 (by decide) (fun c_5 => ?_) (fun c_5 => ?_)
    · have h := h.1 c_5
      obtain ⟨x2_6, ex2_6⟩ : ∃ z : Int32, z = x2 + (nI 1) := ⟨_, rfl⟩
      have h := h x2_6 ex2_6
      refine J_iinc F (v := x2_6) (L' := [(2, .int x2_6), (0, .ref (gb G + a0)), (1, .int x1), (3, .int x3)]) 2 dX1_letDie_55 rfl (by rw [ki_1, ex2_6]) (by decide) rfl ?_
      refine J_goto F (tgt := 9) dX1_letDie_58 (by decide) ?_
      refine J_sub [1, 2, 0] rfl ?_
      exact i9 _ _ h
    · have h := h.2 c_5
      refine J_aln F 0 dX1_letDie_25 rfl rfl ?_
      refine J_iln F 2 dX1_letDie_26 rfl rfl ?_
      refine J_iln F 3 dX1_letDie_27 rfl rfl ?_
      refine J_iln F 1 dX1_letDie_28 rfl rfl ?_
      refine J_callVi F (As := [.int x2, .int x3, .int x1]) (st := []) (C_X1_isHeldBy l G a0 x2 x3 x1 y0 h) (ci := 1) y0 (by decide) rfl rfl lm_X1_142 li_X1_isHeldBy ls_X1_isHeldBy ini_X1 lc_X1_isHeldBy hd_X1_isHeldBy (by decide) (Nat.le_of_ble_eq_true rfl) (by decide) rfl dX1_letDie_29 (fun r_7 σ_8 hh => ?_)
      clear h
      obtain ⟨e9, h⟩ := hh
      subst σ_8
      refine J_zeq F (tgt := 49) dX1_letDie_32 (by decide) (fun c_9 => ?_) (fun c_9 => ?_)
      · have h := h.1 c_9
        obtain ⟨x3_10, ex3_10⟩ : ∃ z : Int32, z = x3 + (nI 1) := ⟨_, rfl⟩
        have h := h x3_10 ex3_10
        refine J_iinc F (v := x3_10) (L' := [(3, .int x3_10), (0, .ref (gb G + a0)), (1, .int x1), (2, .int x2)]) 3 dX1_letDie_49 rfl (by rw [ki_1, ex3_10]) (by decide) rfl ?_
        refine J_goto F (tgt := 17) dX1_letDie_52 (by decide) ?_
        refine J_sub [1, 2, 3, 0] rfl ?_
        exact i17 _ _ h
      · have h := h.2 c_9
        refine J_aln F 0 dX1_letDie_35 rfl rfl ?_
        refine J_gfr F (ci := 1) 7 rfl inX1 y0 (by decide) (by decide) rfl lf_X1_36 rfl dX1_letDie_36 ?_
        refine J_iln F 2 dX1_letDie_39 rfl rfl ?_
        refine J_dup2 F dX1_letDie_40 rfl rfl ?_
        obtain ⟨h_11, h⟩ := h
        refine J_iald F (lay_net y0).2.2.2.2.2.2.2.1 h_11 dX1_letDie_41 ?_
        refine J_ic F dX1_letDie_42 ki_1 ?_
        refine J_iln F 3 dX1_letDie_43 rfl rfl ?_
        refine J_ishl F dX1_letDie_44 ?_
        refine J_ic F dX1_letDie_45 ki_m1 ?_
        refine J_ixor F dX1_letDie_46 ?_
        refine J_iand F dX1_letDie_47 ?_
        obtain ⟨h_12, h⟩ := h
        refine J_iast F (lay_net y0).2.2.2.2.2.2.2.1 h_12 dX1_letDie_48 ?_
        refine J_st (fun σ_13 eσ_13 => ?_)
        have h := h σ_13 eσ_13
        obtain ⟨x3_14, ex3_14⟩ : ∃ z : Int32, z = x3 + (nI 1) := ⟨_, rfl⟩
        have h := h x3_14 ex3_14
        refine J_iinc F (v := x3_14) (L' := [(3, .int x3_14), (0, .ref (gb G + a0)), (1, .int x1), (2, .int x2)]) 3 dX1_letDie_49 rfl (by rw [ki_1, ex3_14]) (by decide) rfl ?_
        refine J_goto F (tgt := 17) dX1_letDie_52 (by decide) ?_
        refine J_sub [1, 2, 3, 0] rfl ?_
        exact i17 _ _ h
set_option maxRecDepth 20000 in
set_option maxHeartbeats 4000000 in
theorem wk_X1_letDie_9 {p : Program} {l : Launch} {e : Env} {s : State} {m : MethodId} {args : Array Value} {below : List Frame} {meth : Method} {c : Code} {G : Gp} {a0 : Nat} {x1 : Int32}  {Q : Int32 → St → Prop} (F : FX p s m args meth c cX1_letDie 4 (some .int) RX1 G) (y0 : lay a0 = (1, 0))  : ∀ (n9 : Nat) (σ : St) (x2 : Int32), LP2 (wp_X1_letDie_9 a0 x1 Q) n9 σ x2 → J p l e (rmF 3 69) s m args below meth c 4 G (MQ below (QQ G (qI Q)) args s 0 0 (fr G)) 0 0 9 [(0, .ref (gb G + a0)), (1, .int x1), (2, .int x2)] [] σ := by
  intro n9
  induction n9 with
  | zero => intro σ x2 h; exact h.elim
  | succ n9 i9 =>
    intro σ x2 h
    have h : wp_X1_letDie_9 a0 x1 Q (LP2 (wp_X1_letDie_9 a0 x1 Q) n9) σ x2 := h
    unfold wp_X1_letDie_9 at h
    refine J_iln F 2 dX1_letDie_9 rfl rfl ?_
    refine J_bi F dX1_letDie_10 kb_100 ?_
    refine J_cge F (tgt := 61) dX1_letDie_12 (by decide) (fun c_15 => ?_) (fun c_15 => ?_)
    · have h := h.1 c_15
      refine J_sub [0] rfl ?_
      exact wk_X1_letDie_61 F y0 h
    · have h := h.2 c_15
      refine J_ic F dX1_letDie_15 ki_0 ?_
      refine J_isn F (L' := [(3, .int (nI 0)), (0, .ref (gb G + a0)), (1, .int x1), (2, .int x2)]) dX1_letDie_16 rfl (by decide) rfl ?_
      refine J_sub [1, 2, 3, 0] rfl ?_
      obtain ⟨n9, h⟩ := h
      exact wk_X1_letDie_17 F y0 i9 n9 _ _ h
set_option maxRecDepth 20000 in
set_option maxHeartbeats 4000000 in
theorem C_X1_letDie (l : Launch) (G : Gp) (a0 : Nat) (x1 : Int32) (y0 : lay a0 = (1, 0)) {σ : St} {Q : Int32 → St → Prop} (h : wp_X1_letDie σ a0 x1 Q) : Cn l yX1_letDie cX1_letDie 4 (some .int) 3 69 G [.ref (gb G + a0), .int x1] σ (qI Q) := by
  refine Cn_of (L := [(0, .ref (gb G + a0)), (1, .int x1)]) RX1 (by decide) rfl (Nat.le_of_ble_eq_true rfl) rfl ?_
  intro p e s m below meth c F
  unfold wp_X1_letDie at h
  refine J_aln F 0 dX1_letDie_0 rfl rfl ?_
  refine J_gfr F (ci := 1) 1 rfl inX1 y0 (by decide) (by decide) rfl lf_X1_17 rfl dX1_letDie_1 ?_
  refine J_iln F 1 dX1_letDie_4 rfl rfl ?_
  refine J_ic F dX1_letDie_5 ki_2 ?_
  obtain ⟨h_16, h⟩ := h
  refine J_iast F (lay_net y0).2.1 h_16 dX1_letDie_6 ?_
  refine J_st (fun σ_17 eσ_17 => ?_)
  have h := h σ_17 eσ_17
  refine J_ic F dX1_letDie_7 ki_0 ?_
  refine J_isn F (L' := [(2, .int (nI 0)), (0, .ref (gb G + a0)), (1, .int x1)]) dX1_letDie_8 rfl (by decide) rfl ?_
  refine J_sub [1, 2, 0] rfl ?_
  obtain ⟨n9, h⟩ := h
  exact wk_X1_letDie_9 F y0 n9 _ _ h
theorem dX1_tidyAll_0 : decode cX1_tidyAll 0 = .ok (.iconst 0, 1) := by decide +kernel
theorem dX1_tidyAll_1 : decode cX1_tidyAll 1 = .ok (.istore_n 1, 1) := by decide +kernel
theorem dX1_tidyAll_2 : decode cX1_tidyAll 2 = .ok (.iconst 0, 1) := by decide +kernel
theorem dX1_tidyAll_3 : decode cX1_tidyAll 3 = .ok (.istore_n 2, 1) := by decide +kernel
theorem dX1_tidyAll_4 : decode cX1_tidyAll 4 = .ok (.iload_n 2, 1) := by decide +kernel
theorem dX1_tidyAll_5 : decode cX1_tidyAll 5 = .ok (.aload_n 0, 1) := by decide +kernel
theorem dX1_tidyAll_6 : decode cX1_tidyAll 6 = .ok (.getfield 43, 3) := by decide +kernel
theorem dX1_tidyAll_9 : decode cX1_tidyAll 9 = .ok (.if_icmp .ge 42, 3) := by decide +kernel
theorem dX1_tidyAll_12 : decode cX1_tidyAll 12 = .ok (.iload_n 1, 1) := by decide +kernel
theorem dX1_tidyAll_13 : decode cX1_tidyAll 13 = .ok (.aload_n 0, 1) := by decide +kernel
theorem dX1_tidyAll_14 : decode cX1_tidyAll 14 = .ok (.getfield 11, 3) := by decide +kernel
theorem dX1_tidyAll_17 : decode cX1_tidyAll 17 = .ok (.iload_n 2, 1) := by decide +kernel
theorem dX1_tidyAll_18 : decode cX1_tidyAll 18 = .ok (.aaload, 1) := by decide +kernel
theorem dX1_tidyAll_19 : decode cX1_tidyAll 19 = .ok (.invokevirtual 146, 3) := by decide +kernel
theorem dX1_tidyAll_22 : decode cX1_tidyAll 22 = .ok (.iadd, 1) := by decide +kernel
theorem dX1_tidyAll_23 : decode cX1_tidyAll 23 = .ok (.istore_n 1, 1) := by decide +kernel
theorem dX1_tidyAll_24 : decode cX1_tidyAll 24 = .ok (.aload_n 0, 1) := by decide +kernel
theorem dX1_tidyAll_25 : decode cX1_tidyAll 25 = .ok (.getfield 11, 3) := by decide +kernel
theorem dX1_tidyAll_28 : decode cX1_tidyAll 28 = .ok (.iload_n 2, 1) := by decide +kernel
theorem dX1_tidyAll_29 : decode cX1_tidyAll 29 = .ok (.aaload, 1) := by decide +kernel
theorem dX1_tidyAll_30 : decode cX1_tidyAll 30 = .ok (.invokevirtual 149, 3) := by decide +kernel
theorem dX1_tidyAll_33 : decode cX1_tidyAll 33 = .ok (.iload_n 1, 1) := by decide +kernel
theorem dX1_tidyAll_34 : decode cX1_tidyAll 34 = .ok (.aload_n 0, 1) := by decide +kernel
theorem dX1_tidyAll_35 : decode cX1_tidyAll 35 = .ok (.getfield 11, 3) := by decide +kernel
theorem dX1_tidyAll_38 : decode cX1_tidyAll 38 = .ok (.iload_n 2, 1) := by decide +kernel
theorem dX1_tidyAll_39 : decode cX1_tidyAll 39 = .ok (.aaload, 1) := by decide +kernel
theorem dX1_tidyAll_40 : decode cX1_tidyAll 40 = .ok (.invokevirtual 146, 3) := by decide +kernel
theorem dX1_tidyAll_43 : decode cX1_tidyAll 43 = .ok (.isub, 1) := by decide +kernel
theorem dX1_tidyAll_44 : decode cX1_tidyAll 44 = .ok (.istore_n 1, 1) := by decide +kernel
theorem dX1_tidyAll_45 : decode cX1_tidyAll 45 = .ok (.iinc 2 1, 3) := by decide +kernel
theorem dX1_tidyAll_48 : decode cX1_tidyAll 48 = .ok (.goto (-44), 3) := by decide +kernel
theorem dX1_tidyAll_51 : decode cX1_tidyAll 51 = .ok (.iload_n 1, 1) := by decide +kernel
theorem dX1_tidyAll_52 : decode cX1_tidyAll 52 = .ok (.ireturn, 1) := by decide +kernel
set_option maxRecDepth 20000 in
set_option maxHeartbeats 4000000 in
theorem wk_X1_tidyAll_4 {p : Program} {l : Launch} {e : Env} {s : State} {m : MethodId} {args : Array Value} {below : List Frame} {meth : Method} {c : Code} {G : Gp} {a0 : Nat}  {Q : Int32 → St → Prop} (F : FX p s m args meth c cX1_tidyAll 3 (some .int) RX1 G) (y0 : lay a0 = (1, 0))  : ∀ (n9 : Nat) (σ : St) (x1 : Int32) (x2 : Int32), LP3 (wp_X1_tidyAll_4 a0 Q) n9 σ x1 x2 → J p l e (rmF 4 94) s m args below meth c 3 G (MQ below (QQ G (qI Q)) args s 0 0 (fr G)) 0 0 4 [(0, .ref (gb G + a0)), (1, .int x1), (2, .int x2)] [] σ := by
  intro n9
  induction n9 with
  | zero => intro σ x1 x2 h; exact h.elim
  | succ n9 i4 =>
    intro σ x1 x2 h
    have h : wp_X1_tidyAll_4 a0 Q (LP3 (wp_X1_tidyAll_4 a0 Q) n9) σ x1 x2 := h
    unfold wp_X1_tidyAll_4 at h
    refine J_iln F 2 dX1_tidyAll_4 rfl rfl ?_
    refine J_aln F 0 dX1_tidyAll_5 rfl rfl ?_
    refine J_gfi F (ci := 1) 9 rfl inX1 y0 (by decide) (by decide) rfl lf_X1_43 rfl dX1_tidyAll_6 ?_
    refine J_cge F (tgt := 51) dX1_tidyAll_9 (by decide) (fun c_1 => ?_) (fun c_1 => ?_)
    · have h := h.1 c_1
      refine J_iln F 1 dX1_tidyAll_51 rfl rfl ?_
      exact J_reti F ⟨_, rfl, h⟩ dX1_tidyAll_52
    · have h := h.2 c_1
      refine J_iln F 1 dX1_tidyAll_12 rfl rfl ?_
      refine J_aln F 0 dX1_tidyAll_13 rfl rfl ?_
      refine J_gfr F (ci := 1) 0 rfl inX1 y0 (by decide) (by decide) rfl lf_X1_11 rfl dX1_tidyAll_14 ?_
      refine J_iln F 2 dX1_tidyAll_17 rfl rfl ?_
      obtain ⟨h_2, h⟩ := h
      refine J_aldS F (lay_net y0).1 h_2 dX1_tidyAll_18 ?_
      refine J_callVi F (As := []) (st := [.int x1]) (C_X4_zonesOfAll l G (a0 + 1 + 8 + 4 * Int32.toNatClampNeg x2) (lay_sp y0 h_2) h) (ci := 4) (lay_sp y0 h_2) (by decide) rfl rfl lm_X1_146 li_X4_zonesOfAll ls_X4_zonesOfAll ini_X4 lc_X4_zonesOfAll hd_X4_zonesOfAll (by decide) (Nat.le_of_ble_eq_true rfl) (by decide) rfl dX1_tidyAll_19 (fun r_3 σ_4 hh => ?_)
      clear h
      obtain ⟨e9, h⟩ := hh
      subst σ_4
      refine J_iadd F dX1_tidyAll_22 ?_
      refine J_top (fun x1_5 ex1_5 => ?_)
      have h := h x1_5 ex1_5
      refine J_isn F (L' := [(1, .int x1_5), (0, .ref (gb G + a0)), (2, .int x2)]) dX1_tidyAll_23 rfl (by decide) rfl ?_
      refine J_aln F 1 dX1_tidyAll_24 rfl rfl ?_
      refine J_gfr F (ci := 1) 0 rfl inX1 y0 (by decide) (by decide) rfl lf_X1_11 rfl dX1_tidyAll_25 ?_
      refine J_iln F 2 dX1_tidyAll_28 rfl rfl ?_
      obtain ⟨h_6, h⟩ := h
      refine J_aldS F (lay_net y0).1 h_6 dX1_tidyAll_29 ?_
      refine J_callVv F (As := []) (st := []) (C_X4_tidyUp l G (a0 + 1 + 8 + 4 * Int32.toNatClampNeg x2) (lay_sp y0 h_6) h) (ci := 4) (lay_sp y0 h_6) (by decide) rfl rfl lm_X1_149 li_X4_tidyUp ls_X4_tidyUp ini_X4 lc_X4_tidyUp hd_X4_tidyUp (by decide) (Nat.le_of_ble_eq_true rfl) (by decide) rfl dX1_tidyAll_30 (fun σ_7 h => ?_)
      refine J_iln F 0 dX1_tidyAll_33 rfl rfl ?_
      refine J_aln F 1 dX1_tidyAll_34 rfl rfl ?_
      refine J_gfr F (ci := 1) 0 rfl inX1 y0 (by decide) (by decide) rfl lf_X1_11 rfl dX1_tidyAll_35 ?_
      refine J_iln F 2 dX1_tidyAll_38 rfl rfl ?_
      obtain ⟨h_8, h⟩ := h
      refine J_aldS F (lay_net y0).1 h_8 dX1_tidyAll_39 ?_
      refine J_callVi F (As := []) (st := [.int x1_5]) (C_X4_zonesOfAll l G (a0 + 1 + 8 + 4 * Int32.toNatClampNeg x2) (lay_sp y0 h_8) h) (ci := 4) (lay_sp y0 h_8) (by decide) rfl rfl lm_X1_146 li_X4_zonesOfAll ls_X4_zonesOfAll ini_X4 lc_X4_zonesOfAll hd_X4_zonesOfAll (by decide) (Nat.le_of_ble_eq_true rfl) (by decide) rfl dX1_tidyAll_40 (fun r_9 σ_10 hh => ?_)
      clear h
      obtain ⟨e9, h⟩ := hh
      subst σ_10
      refine J_isub F dX1_tidyAll_43 ?_
      refine J_top (fun x1_11 ex1_11 => ?_)
      have h := h x1_11 ex1_11
      refine J_isn F (L' := [(1, .int x1_11), (0, .ref (gb G + a0)), (2, .int x2)]) dX1_tidyAll_44 rfl (by decide) rfl ?_
      obtain ⟨x2_12, ex2_12⟩ : ∃ z : Int32, z = x2 + (nI 1) := ⟨_, rfl⟩
      have h := h x2_12 ex2_12
      refine J_iinc F (v := x2_12) (L' := [(2, .int x2_12), (1, .int x1_11), (0, .ref (gb G + a0))]) 2 dX1_tidyAll_45 rfl (by rw [ki_1, ex2_12]) (by decide) rfl ?_
      refine J_goto F (tgt := 4) dX1_tidyAll_48 (by decide) ?_
      refine J_sub [2, 1, 0] rfl ?_
      exact i4 _ _ _ h
set_option maxRecDepth 20000 in
set_option maxHeartbeats 4000000 in
theorem C_X1_tidyAll (l : Launch) (G : Gp) (a0 : Nat) (y0 : lay a0 = (1, 0)) {σ : St} {Q : Int32 → St → Prop} (h : wp_X1_tidyAll σ a0 Q) : Cn l yX1_tidyAll cX1_tidyAll 3 (some .int) 4 94 G [.ref (gb G + a0)] σ (qI Q) := by
  refine Cn_of (L := [(0, .ref (gb G + a0))]) RX1 (by decide) rfl (Nat.le_of_ble_eq_true rfl) rfl ?_
  intro p e s m below meth c F
  unfold wp_X1_tidyAll at h
  refine J_ic F dX1_tidyAll_0 ki_0 ?_
  refine J_isn F (L' := [(1, .int (nI 0)), (0, .ref (gb G + a0))]) dX1_tidyAll_1 rfl (by decide) rfl ?_
  refine J_ic F dX1_tidyAll_2 ki_0 ?_
  refine J_isn F (L' := [(2, .int (nI 0)), (1, .int (nI 0)), (0, .ref (gb G + a0))]) dX1_tidyAll_3 rfl (by decide) rfl ?_
  refine J_sub [2, 1, 0] rfl ?_
  obtain ⟨n9, h⟩ := h
  exact wk_X1_tidyAll_4 F y0 n9 _ _ _ h
theorem dX1_cutOut_0 : decode cX1_cutOut 0 = .ok (.aload_n 0, 1) := by decide +kernel
theorem dX1_cutOut_1 : decode cX1_cutOut 1 = .ok (.getfield 33, 3) := by decide +kernel
theorem dX1_cutOut_4 : decode cX1_cutOut 4 = .ok (.iload_n 1, 1) := by decide +kernel
theorem dX1_cutOut_5 : decode cX1_cutOut 5 = .ok (.iaload, 1) := by decide +kernel
theorem dX1_cutOut_6 : decode cX1_cutOut 6 = .ok (.istore_n 2, 1) := by decide +kernel
theorem dX1_cutOut_7 : decode cX1_cutOut 7 = .ok (.aload_n 0, 1) := by decide +kernel
theorem dX1_cutOut_8 : decode cX1_cutOut 8 = .ok (.getfield 33, 3) := by decide +kernel
theorem dX1_cutOut_11 : decode cX1_cutOut 11 = .ok (.iload_n 1, 1) := by decide +kernel
theorem dX1_cutOut_12 : decode cX1_cutOut 12 = .ok (.iconst (-1), 1) := by decide +kernel
theorem dX1_cutOut_13 : decode cX1_cutOut 13 = .ok (.iastore, 1) := by decide +kernel
theorem dX1_cutOut_14 : decode cX1_cutOut 14 = .ok (.aload_n 0, 1) := by decide +kernel
theorem dX1_cutOut_15 : decode cX1_cutOut 15 = .ok (.getfield 36, 3) := by decide +kernel
theorem dX1_cutOut_18 : decode cX1_cutOut 18 = .ok (.iload_n 1, 1) := by decide +kernel
theorem dX1_cutOut_19 : decode cX1_cutOut 19 = .ok (.iconst 0, 1) := by decide +kernel
theorem dX1_cutOut_20 : decode cX1_cutOut 20 = .ok (.iastore, 1) := by decide +kernel
theorem dX1_cutOut_21 : decode cX1_cutOut 21 = .ok (.iload_n 2, 1) := by decide +kernel
theorem dX1_cutOut_22 : decode cX1_cutOut 22 = .ok (.ireturn, 1) := by decide +kernel
set_option maxRecDepth 20000 in
set_option maxHeartbeats 4000000 in
theorem C_X1_cutOut (l : Launch) (G : Gp) (a0 : Nat) (x1 : Int32) (y0 : lay a0 = (1, 0)) {σ : St} {Q : Int32 → St → Prop} (h : wp_X1_cutOut σ a0 x1 Q) : Cn l yX1_cutOut cX1_cutOut 3 (some .int) 0 0 G [.ref (gb G + a0), .int x1] σ (qI Q) := by
  refine Cn_of (L := [(0, .ref (gb G + a0)), (1, .int x1)]) RX1 (by decide) rfl (Nat.le_of_ble_eq_true rfl) rfl ?_
  intro p e s m below meth c F
  unfold wp_X1_cutOut at h
  refine J_aln F 0 dX1_cutOut_0 rfl rfl ?_
  refine J_gfr F (ci := 1) 6 rfl inX1 y0 (by decide) (by decide) rfl lf_X1_33 rfl dX1_cutOut_1 ?_
  refine J_iln F 1 dX1_cutOut_4 rfl rfl ?_
  obtain ⟨h_1, h⟩ := h
  refine J_iald F (lay_net y0).2.2.2.2.2.2.1 h_1 dX1_cutOut_5 ?_
  refine J_top (fun x2_2 ex2_2 => ?_)
  have h := h x2_2 ex2_2
  refine J_isn F (L' := [(2, .int x2_2), (0, .ref (gb G + a0)), (1, .int x1)]) dX1_cutOut_6 rfl (by decide) rfl ?_
  refine J_aln F 1 dX1_cutOut_7 rfl rfl ?_
  refine J_gfr F (ci := 1) 6 rfl inX1 y0 (by decide) (by decide) rfl lf_X1_33 rfl dX1_cutOut_8 ?_
  refine J_iln F 2 dX1_cutOut_11 rfl rfl ?_
  refine J_ic F dX1_cutOut_12 ki_m1 ?_
  obtain ⟨h_3, h⟩ := h
  refine J_iast F (lay_net y0).2.2.2.2.2.2.1 h_3 dX1_cutOut_13 ?_
  refine J_st (fun σ_4 eσ_4 => ?_)
  have h := h σ_4 eσ_4
  refine J_aln F 1 dX1_cutOut_14 rfl rfl ?_
  refine J_gfr F (ci := 1) 7 rfl inX1 y0 (by decide) (by decide) rfl lf_X1_36 rfl dX1_cutOut_15 ?_
  refine J_iln F 2 dX1_cutOut_18 rfl rfl ?_
  refine J_ic F dX1_cutOut_19 ki_0 ?_
  obtain ⟨h_5, h⟩ := h
  refine J_iast F (lay_net y0).2.2.2.2.2.2.2.1 h_5 dX1_cutOut_20 ?_
  refine J_st (fun σ_6 eσ_6 => ?_)
  have h := h σ_6 eσ_6
  refine J_iln F 0 dX1_cutOut_21 rfl rfl ?_
  exact J_reti F ⟨_, rfl, h⟩ dX1_cutOut_22
theorem dX1_mendAll_0 : decode cX1_mendAll 0 = .ok (.iconst 0, 1) := by decide +kernel
theorem dX1_mendAll_1 : decode cX1_mendAll 1 = .ok (.istore_n 1, 1) := by decide +kernel
theorem dX1_mendAll_2 : decode cX1_mendAll 2 = .ok (.iconst 0, 1) := by decide +kernel
theorem dX1_mendAll_3 : decode cX1_mendAll 3 = .ok (.istore_n 2, 1) := by decide +kernel
theorem dX1_mendAll_4 : decode cX1_mendAll 4 = .ok (.iload_n 2, 1) := by decide +kernel
theorem dX1_mendAll_5 : decode cX1_mendAll 5 = .ok (.bipush 100, 2) := by decide +kernel
theorem dX1_mendAll_7 : decode cX1_mendAll 7 = .ok (.if_icmp .ge 50, 3) := by decide +kernel
theorem dX1_mendAll_10 : decode cX1_mendAll 10 = .ok (.aload_n 0, 1) := by decide +kernel
theorem dX1_mendAll_11 : decode cX1_mendAll 11 = .ok (.getfield 36, 3) := by decide +kernel
theorem dX1_mendAll_14 : decode cX1_mendAll 14 = .ok (.iload_n 2, 1) := by decide +kernel
theorem dX1_mendAll_15 : decode cX1_mendAll 15 = .ok (.iaload, 1) := by decide +kernel
theorem dX1_mendAll_16 : decode cX1_mendAll 16 = .ok (.ifCond .eq 35, 3) := by decide +kernel
theorem dX1_mendAll_19 : decode cX1_mendAll 19 = .ok (.aload_n 0, 1) := by decide +kernel
theorem dX1_mendAll_20 : decode cX1_mendAll 20 = .ok (.iload_n 2, 1) := by decide +kernel
theorem dX1_mendAll_21 : decode cX1_mendAll 21 = .ok (.invokevirtual 88, 3) := by decide +kernel
theorem dX1_mendAll_24 : decode cX1_mendAll 24 = .ok (.aload_n 0, 1) := by decide +kernel
theorem dX1_mendAll_25 : decode cX1_mendAll 25 = .ok (.getfield 36, 3) := by decide +kernel
theorem dX1_mendAll_28 : decode cX1_mendAll 28 = .ok (.iload_n 2, 1) := by decide +kernel
theorem dX1_mendAll_29 : decode cX1_mendAll 29 = .ok (.iaload, 1) := by decide +kernel
theorem dX1_mendAll_30 : decode cX1_mendAll 30 = .ok (.iconst (-1), 1) := by decide +kernel
theorem dX1_mendAll_31 : decode cX1_mendAll 31 = .ok (.ixor, 1) := by decide +kernel
theorem dX1_mendAll_32 : decode cX1_mendAll 32 = .ok (.iand, 1) := by decide +kernel
theorem dX1_mendAll_33 : decode cX1_mendAll 33 = .ok (.istore_n 3, 1) := by decide +kernel
theorem dX1_mendAll_34 : decode cX1_mendAll 34 = .ok (.aload_n 0, 1) := by decide +kernel
theorem dX1_mendAll_35 : decode cX1_mendAll 35 = .ok (.getfield 36, 3) := by decide +kernel
theorem dX1_mendAll_38 : decode cX1_mendAll 38 = .ok (.iload_n 2, 1) := by decide +kernel
theorem dX1_mendAll_39 : decode cX1_mendAll 39 = .ok (.dup2, 1) := by decide +kernel
theorem dX1_mendAll_40 : decode cX1_mendAll 40 = .ok (.iaload, 1) := by decide +kernel
theorem dX1_mendAll_41 : decode cX1_mendAll 41 = .ok (.iload_n 3, 1) := by decide +kernel
theorem dX1_mendAll_42 : decode cX1_mendAll 42 = .ok (.ior, 1) := by decide +kernel
theorem dX1_mendAll_43 : decode cX1_mendAll 43 = .ok (.iastore, 1) := by decide +kernel
theorem dX1_mendAll_44 : decode cX1_mendAll 44 = .ok (.iload_n 1, 1) := by decide +kernel
theorem dX1_mendAll_45 : decode cX1_mendAll 45 = .ok (.iload_n 3, 1) := by decide +kernel
theorem dX1_mendAll_46 : decode cX1_mendAll 46 = .ok (.invokestatic 137, 3) := by decide +kernel
theorem dX1_mendAll_49 : decode cX1_mendAll 49 = .ok (.iadd, 1) := by decide +kernel
theorem dX1_mendAll_50 : decode cX1_mendAll 50 = .ok (.istore_n 1, 1) := by decide +kernel
theorem dX1_mendAll_51 : decode cX1_mendAll 51 = .ok (.iinc 2 1, 3) := by decide +kernel
theorem dX1_mendAll_54 : decode cX1_mendAll 54 = .ok (.goto (-50), 3) := by decide +kernel
theorem dX1_mendAll_57 : decode cX1_mendAll 57 = .ok (.iload_n 1, 1) := by decide +kernel
theorem dX1_mendAll_58 : decode cX1_mendAll 58 = .ok (.ireturn, 1) := by decide +kernel
set_option maxRecDepth 20000 in
set_option maxHeartbeats 4000000 in
theorem wk_X1_mendAll_4 {p : Program} {l : Launch} {e : Env} {s : State} {m : MethodId} {args : Array Value} {below : List Frame} {meth : Method} {c : Code} {G : Gp} {a0 : Nat}  {Q : Int32 → St → Prop} (F : FX p s m args meth c cX1_mendAll 4 (some .int) RX1 G) (y0 : lay a0 = (1, 0))  : ∀ (n9 : Nat) (σ : St) (x1 : Int32) (x2 : Int32), LP3 (wp_X1_mendAll_4 a0 Q) n9 σ x1 x2 → J p l e (rmF 3 70) s m args below meth c 4 G (MQ below (QQ G (qI Q)) args s 0 0 (fr G)) 0 0 4 [(0, .ref (gb G + a0)), (1, .int x1), (2, .int x2)] [] σ := by
  intro n9
  induction n9 with
  | zero => intro σ x1 x2 h; exact h.elim
  | succ n9 i4 =>
    intro σ x1 x2 h
    have h : wp_X1_mendAll_4 a0 Q (LP3 (wp_X1_mendAll_4 a0 Q) n9) σ x1 x2 := h
    unfold wp_X1_mendAll_4 at h
    refine J_iln F 2 dX1_mendAll_4 rfl rfl ?_
    refine J_bi F dX1_mendAll_5 kb_100 ?_
    refine J_cge F (tgt := 57) dX1_mendAll_7 (by decide) (fun c_1 => ?_) (fun c_1 => ?_)
    · have h := h.1 c_1
      refine J_iln F 1 dX1_mendAll_57 rfl rfl ?_
      exact J_reti F ⟨_, rfl, h⟩ dX1_mendAll_58
    · have h := h.2 c_1
      refine J_aln F 0 dX1_mendAll_10 rfl rfl ?_
      refine J_gfr F (ci := 1) 7 rfl inX1 y0 (by decide) (by decide) rfl lf_X1_36 rfl dX1_mendAll_11 ?_
      refine J_iln F 2 dX1_mendAll_14 rfl rfl ?_
      obtain ⟨h_2, h⟩ := h
      refine J_iald F (lay_net y0).2.2.2.2.2.2.2.1 h_2 dX1_mendAll_15 ?_
      refine J_zeq F (tgt := 51) dX1_mendAll_16 (by decide) (fun c_3 => ?_) (fun c_3 => ?_)
      · have h := h.1 c_3
        obtain ⟨x2_4, ex2_4⟩ : ∃ z : Int32, z = x2 + (nI 1) := ⟨_, rfl⟩
        have h := h x2_4 ex2_4
        refine J_iinc F (v := x2_4) (L' := [(2, .int x2_4), (0, .ref (gb G + a0)), (1, .int x1)]) 2 dX1_mendAll_51 rfl (by rw [ki_1, ex2_4]) (by decide) rfl ?_
        refine J_goto F (tgt := 4) dX1_mendAll_54 (by decide) ?_
        refine J_sub [1, 2, 0] rfl ?_
        exact i4 _ _ _ h
      · have h := h.2 c_3
        refine J_aln F 0 dX1_mendAll_19 rfl rfl ?_
        refine J_iln F 2 dX1_mendAll_20 rfl rfl ?_
        refine J_callVi F (As := [.int x2]) (st := []) (C_X1_realitiesWithin l G a0 x2 y0 h) (ci := 1) y0 (by decide) rfl rfl lm_X1_88 li_X1_realitiesWithin ls_X1_realitiesWithin ini_X1 lc_X1_realitiesWithin hd_X1_realitiesWithin (by decide) (Nat.le_of_ble_eq_true rfl) (by decide) rfl dX1_mendAll_21 (fun r_5 σ_6 hh => ?_)
        clear h
        obtain ⟨e9, h⟩ := hh
        subst σ_6
        refine J_aln F 0 dX1_mendAll_24 rfl rfl ?_
        refine J_gfr F (ci := 1) 7 rfl inX1 y0 (by decide) (by decide) rfl lf_X1_36 rfl dX1_mendAll_25 ?_
        refine J_iln F 2 dX1_mendAll_28 rfl rfl ?_
        obtain ⟨h_7, h⟩ := h
        refine J_iald F (lay_net y0).2.2.2.2.2.2.2.1 h_7 dX1_mendAll_29 ?_
        refine J_ic F dX1_mendAll_30 ki_m1 ?_
        refine J_ixor F dX1_mendAll_31 ?_
        refine J_iand F dX1_mendAll_32 ?_
        refine J_top (fun x3_8 ex3_8 => ?_)
        have h := h x3_8 ex3_8
        refine J_isn F (L' := [(3, .int x3_8), (0, .ref (gb G + a0)), (1, .int x1), (2, .int x2)]) dX1_mendAll_33 rfl (by decide) rfl ?_
        refine J_aln F 1 dX1_mendAll_34 rfl rfl ?_
        refine J_gfr F (ci := 1) 7 rfl inX1 y0 (by decide) (by decide) rfl lf_X1_36 rfl dX1_mendAll_35 ?_
        refine J_iln F 3 dX1_mendAll_38 rfl rfl ?_
        refine J_dup2 F dX1_mendAll_39 rfl rfl ?_
        obtain ⟨h_9, h⟩ := h
        refine J_iald F (lay_net y0).2.2.2.2.2.2.2.1 h_9 dX1_mendAll_40 ?_
        refine J_iln F 0 dX1_mendAll_41 rfl rfl ?_
        refine J_ior F dX1_mendAll_42 ?_
        obtain ⟨h_10, h⟩ := h
        refine J_iast F (lay_net y0).2.2.2.2.2.2.2.1 h_10 dX1_mendAll_43 ?_
        refine J_st (fun σ_11 eσ_11 => ?_)
        have h := h σ_11 eσ_11
        refine J_iln F 2 dX1_mendAll_44 rfl rfl ?_
        refine J_iln F 0 dX1_mendAll_45 rfl rfl ?_
        refine J_callSi F (As := [.int x3_8]) (st := [.int x1]) (C_J6_bitCount_0f7a4 l G x3_8  h) lm_X1_137 li_J6_bitCount_0f7a4 ini_J6 lc_J6_bitCount_0f7a4 hd_J6_bitCount_0f7a4 (by decide) (Nat.le_of_ble_eq_true rfl) (by decide) rfl dX1_mendAll_46 (fun r_12 σ_13 hh => ?_)
        clear h
        obtain ⟨e9, h⟩ := hh
        subst σ_13
        refine J_iadd F dX1_mendAll_49 ?_
        refine J_top (fun x1_14 ex1_14 => ?_)
        have h := h x1_14 ex1_14
        refine J_isn F (L' := [(1, .int x1_14), (3, .int x3_8), (0, .ref (gb G + a0)), (2, .int x2)]) dX1_mendAll_50 rfl (by decide) rfl ?_
        obtain ⟨x2_15, ex2_15⟩ : ∃ z : Int32, z = x2 + (nI 1) := ⟨_, rfl⟩
        have h := h x2_15 ex2_15
        refine J_iinc F (v := x2_15) (L' := [(2, .int x2_15), (1, .int x1_14), (3, .int x3_8), (0, .ref (gb G + a0))]) 3 dX1_mendAll_51 rfl (by rw [ki_1, ex2_15]) (by decide) rfl ?_
        refine J_goto F (tgt := 4) dX1_mendAll_54 (by decide) ?_
        refine J_sub [3, 1, 0] rfl ?_
        exact i4 _ _ _ h
set_option maxRecDepth 20000 in
set_option maxHeartbeats 4000000 in
theorem C_X1_mendAll (l : Launch) (G : Gp) (a0 : Nat) (y0 : lay a0 = (1, 0)) {σ : St} {Q : Int32 → St → Prop} (h : wp_X1_mendAll σ a0 Q) : Cn l yX1_mendAll cX1_mendAll 4 (some .int) 3 70 G [.ref (gb G + a0)] σ (qI Q) := by
  refine Cn_of (L := [(0, .ref (gb G + a0))]) RX1 (by decide) rfl (Nat.le_of_ble_eq_true rfl) rfl ?_
  intro p e s m below meth c F
  unfold wp_X1_mendAll at h
  refine J_ic F dX1_mendAll_0 ki_0 ?_
  refine J_isn F (L' := [(1, .int (nI 0)), (0, .ref (gb G + a0))]) dX1_mendAll_1 rfl (by decide) rfl ?_
  refine J_ic F dX1_mendAll_2 ki_0 ?_
  refine J_isn F (L' := [(2, .int (nI 0)), (1, .int (nI 0)), (0, .ref (gb G + a0))]) dX1_mendAll_3 rfl (by decide) rfl ?_
  refine J_sub [2, 1, 0] rfl ?_
  obtain ⟨n9, h⟩ := h
  exact wk_X1_mendAll_4 F y0 n9 _ _ _ h
theorem dX1_perform_0 : decode cX1_perform 0 = .ok (.aload_n 1, 1) := by decide +kernel
theorem dX1_perform_1 : decode cX1_perform 1 = .ok (.getfield 63, 3) := by decide +kernel
theorem dX1_perform_4 : decode cX1_perform 4 = .ok (.astore_n 2, 1) := by decide +kernel
theorem dX1_perform_5 : decode cX1_perform 5 = .ok (.aload_n 1, 1) := by decide +kernel
theorem dX1_perform_6 : decode cX1_perform 6 = .ok (.getfield 68, 3) := by decide +kernel
theorem dX1_perform_9 : decode cX1_perform 9 = .ok (.tableswitch 186 0 9 #[55, 63, 74, 91, 122, 130, 122, 138, 143, 178], 55) := by decide +kernel
theorem dX1_perform_64 : decode cX1_perform 64 = .ok (.aload_n 0, 1) := by decide +kernel
theorem dX1_perform_65 : decode cX1_perform 65 = .ok (.aload_n 2, 1) := by decide +kernel
theorem dX1_perform_66 : decode cX1_perform 66 = .ok (.iconst 0, 1) := by decide +kernel
theorem dX1_perform_67 : decode cX1_perform 67 = .ok (.iaload, 1) := by decide +kernel
theorem dX1_perform_68 : decode cX1_perform 68 = .ok (.invokevirtual 101, 3) := by decide +kernel
theorem dX1_perform_71 : decode cX1_perform 71 = .ok (.ireturn, 1) := by decide +kernel
theorem dX1_perform_72 : decode cX1_perform 72 = .ok (.aload_n 0, 1) := by decide +kernel
theorem dX1_perform_73 : decode cX1_perform 73 = .ok (.aload_n 2, 1) := by decide +kernel
theorem dX1_perform_74 : decode cX1_perform 74 = .ok (.iconst 0, 1) := by decide +kernel
theorem dX1_perform_75 : decode cX1_perform 75 = .ok (.iaload, 1) := by decide +kernel
theorem dX1_perform_76 : decode cX1_perform 76 = .ok (.aload_n 2, 1) := by decide +kernel
theorem dX1_perform_77 : decode cX1_perform 77 = .ok (.iconst 1, 1) := by decide +kernel
theorem dX1_perform_78 : decode cX1_perform 78 = .ok (.iaload, 1) := by decide +kernel
theorem dX1_perform_79 : decode cX1_perform 79 = .ok (.invokevirtual 104, 3) := by decide +kernel
theorem dX1_perform_82 : decode cX1_perform 82 = .ok (.ireturn, 1) := by decide +kernel
theorem dX1_perform_83 : decode cX1_perform 83 = .ok (.aload_n 0, 1) := by decide +kernel
theorem dX1_perform_84 : decode cX1_perform 84 = .ok (.aload_n 2, 1) := by decide +kernel
theorem dX1_perform_85 : decode cX1_perform 85 = .ok (.iconst 0, 1) := by decide +kernel
theorem dX1_perform_86 : decode cX1_perform 86 = .ok (.iaload, 1) := by decide +kernel
theorem dX1_perform_87 : decode cX1_perform 87 = .ok (.aload_n 2, 1) := by decide +kernel
theorem dX1_perform_88 : decode cX1_perform 88 = .ok (.iconst 1, 1) := by decide +kernel
theorem dX1_perform_89 : decode cX1_perform 89 = .ok (.iaload, 1) := by decide +kernel
theorem dX1_perform_90 : decode cX1_perform 90 = .ok (.aload_n 2, 1) := by decide +kernel
theorem dX1_perform_91 : decode cX1_perform 91 = .ok (.iconst 2, 1) := by decide +kernel
theorem dX1_perform_92 : decode cX1_perform 92 = .ok (.iaload, 1) := by decide +kernel
theorem dX1_perform_93 : decode cX1_perform 93 = .ok (.aload_n 2, 1) := by decide +kernel
theorem dX1_perform_94 : decode cX1_perform 94 = .ok (.iconst 3, 1) := by decide +kernel
theorem dX1_perform_95 : decode cX1_perform 95 = .ok (.iaload, 1) := by decide +kernel
theorem dX1_perform_96 : decode cX1_perform 96 = .ok (.invokevirtual 107, 3) := by decide +kernel
theorem dX1_perform_99 : decode cX1_perform 99 = .ok (.ireturn, 1) := by decide +kernel
theorem dX1_perform_100 : decode cX1_perform 100 = .ok (.aload_n 0, 1) := by decide +kernel
theorem dX1_perform_101 : decode cX1_perform 101 = .ok (.aload_n 2, 1) := by decide +kernel
theorem dX1_perform_102 : decode cX1_perform 102 = .ok (.iconst 0, 1) := by decide +kernel
theorem dX1_perform_103 : decode cX1_perform 103 = .ok (.iaload, 1) := by decide +kernel
theorem dX1_perform_104 : decode cX1_perform 104 = .ok (.aload_n 2, 1) := by decide +kernel
theorem dX1_perform_105 : decode cX1_perform 105 = .ok (.iconst 1, 1) := by decide +kernel
theorem dX1_perform_106 : decode cX1_perform 106 = .ok (.iaload, 1) := by decide +kernel
theorem dX1_perform_107 : decode cX1_perform 107 = .ok (.aload_n 0, 1) := by decide +kernel
theorem dX1_perform_108 : decode cX1_perform 108 = .ok (.aload_n 2, 1) := by decide +kernel
theorem dX1_perform_109 : decode cX1_perform 109 = .ok (.iconst 0, 1) := by decide +kernel
theorem dX1_perform_110 : decode cX1_perform 110 = .ok (.iaload, 1) := by decide +kernel
theorem dX1_perform_111 : decode cX1_perform 111 = .ok (.aload_n 2, 1) := by decide +kernel
theorem dX1_perform_112 : decode cX1_perform 112 = .ok (.iconst 1, 1) := by decide +kernel
theorem dX1_perform_113 : decode cX1_perform 113 = .ok (.iaload, 1) := by decide +kernel
theorem dX1_perform_114 : decode cX1_perform 114 = .ok (.invokevirtual 75, 3) := by decide +kernel
theorem dX1_perform_117 : decode cX1_perform 117 = .ok (.aload_n 0, 1) := by decide +kernel
theorem dX1_perform_118 : decode cX1_perform 118 = .ok (.aload_n 2, 1) := by decide +kernel
theorem dX1_perform_119 : decode cX1_perform 119 = .ok (.iconst 0, 1) := by decide +kernel
theorem dX1_perform_120 : decode cX1_perform 120 = .ok (.iaload, 1) := by decide +kernel
theorem dX1_perform_121 : decode cX1_perform 121 = .ok (.aload_n 2, 1) := by decide +kernel
theorem dX1_perform_122 : decode cX1_perform 122 = .ok (.iconst 1, 1) := by decide +kernel
theorem dX1_perform_123 : decode cX1_perform 123 = .ok (.iaload, 1) := by decide +kernel
theorem dX1_perform_124 : decode cX1_perform 124 = .ok (.invokevirtual 78, 3) := by decide +kernel
theorem dX1_perform_127 : decode cX1_perform 127 = .ok (.invokevirtual 107, 3) := by decide +kernel
theorem dX1_perform_130 : decode cX1_perform 130 = .ok (.ireturn, 1) := by decide +kernel
theorem dX1_perform_131 : decode cX1_perform 131 = .ok (.aload_n 0, 1) := by decide +kernel
theorem dX1_perform_132 : decode cX1_perform 132 = .ok (.aload_n 2, 1) := by decide +kernel
theorem dX1_perform_133 : decode cX1_perform 133 = .ok (.iconst 0, 1) := by decide +kernel
theorem dX1_perform_134 : decode cX1_perform 134 = .ok (.iaload, 1) := by decide +kernel
theorem dX1_perform_135 : decode cX1_perform 135 = .ok (.invokevirtual 111, 3) := by decide +kernel
theorem dX1_perform_138 : decode cX1_perform 138 = .ok (.ireturn, 1) := by decide +kernel
theorem dX1_perform_139 : decode cX1_perform 139 = .ok (.aload_n 0, 1) := by decide +kernel
theorem dX1_perform_140 : decode cX1_perform 140 = .ok (.aload_n 2, 1) := by decide +kernel
theorem dX1_perform_141 : decode cX1_perform 141 = .ok (.iconst 0, 1) := by decide +kernel
theorem dX1_perform_142 : decode cX1_perform 142 = .ok (.iaload, 1) := by decide +kernel
theorem dX1_perform_143 : decode cX1_perform 143 = .ok (.invokevirtual 114, 3) := by decide +kernel
theorem dX1_perform_146 : decode cX1_perform 146 = .ok (.ireturn, 1) := by decide +kernel
theorem dX1_perform_147 : decode cX1_perform 147 = .ok (.aload_n 0, 1) := by decide +kernel
theorem dX1_perform_148 : decode cX1_perform 148 = .ok (.invokevirtual 117, 3) := by decide +kernel
theorem dX1_perform_151 : decode cX1_perform 151 = .ok (.ireturn, 1) := by decide +kernel
theorem dX1_perform_152 : decode cX1_perform 152 = .ok (.aload_n 0, 1) := by decide +kernel
theorem dX1_perform_153 : decode cX1_perform 153 = .ok (.getfield 33, 3) := by decide +kernel
theorem dX1_perform_156 : decode cX1_perform 156 = .ok (.aload_n 2, 1) := by decide +kernel
theorem dX1_perform_157 : decode cX1_perform 157 = .ok (.iconst 0, 1) := by decide +kernel
theorem dX1_perform_158 : decode cX1_perform 158 = .ok (.iaload, 1) := by decide +kernel
theorem dX1_perform_159 : decode cX1_perform 159 = .ok (.aload_n 2, 1) := by decide +kernel
theorem dX1_perform_160 : decode cX1_perform 160 = .ok (.iconst 1, 1) := by decide +kernel
theorem dX1_perform_161 : decode cX1_perform 161 = .ok (.iaload, 1) := by decide +kernel
theorem dX1_perform_162 : decode cX1_perform 162 = .ok (.iastore, 1) := by decide +kernel
theorem dX1_perform_163 : decode cX1_perform 163 = .ok (.aload_n 0, 1) := by decide +kernel
theorem dX1_perform_164 : decode cX1_perform 164 = .ok (.getfield 36, 3) := by decide +kernel
theorem dX1_perform_167 : decode cX1_perform 167 = .ok (.aload_n 2, 1) := by decide +kernel
theorem dX1_perform_168 : decode cX1_perform 168 = .ok (.iconst 0, 1) := by decide +kernel
theorem dX1_perform_169 : decode cX1_perform 169 = .ok (.iaload, 1) := by decide +kernel
theorem dX1_perform_170 : decode cX1_perform 170 = .ok (.aload_n 0, 1) := by decide +kernel
theorem dX1_perform_171 : decode cX1_perform 171 = .ok (.aload_n 2, 1) := by decide +kernel
theorem dX1_perform_172 : decode cX1_perform 172 = .ok (.iconst 0, 1) := by decide +kernel
theorem dX1_perform_173 : decode cX1_perform 173 = .ok (.iaload, 1) := by decide +kernel
theorem dX1_perform_174 : decode cX1_perform 174 = .ok (.invokevirtual 88, 3) := by decide +kernel
theorem dX1_perform_177 : decode cX1_perform 177 = .ok (.iastore, 1) := by decide +kernel
theorem dX1_perform_178 : decode cX1_perform 178 = .ok (.aload_n 0, 1) := by decide +kernel
theorem dX1_perform_179 : decode cX1_perform 179 = .ok (.getfield 36, 3) := by decide +kernel
theorem dX1_perform_182 : decode cX1_perform 182 = .ok (.aload_n 2, 1) := by decide +kernel
theorem dX1_perform_183 : decode cX1_perform 183 = .ok (.iconst 0, 1) := by decide +kernel
theorem dX1_perform_184 : decode cX1_perform 184 = .ok (.iaload, 1) := by decide +kernel
theorem dX1_perform_185 : decode cX1_perform 185 = .ok (.iaload, 1) := by decide +kernel
theorem dX1_perform_186 : decode cX1_perform 186 = .ok (.ireturn, 1) := by decide +kernel
theorem dX1_perform_187 : decode cX1_perform 187 = .ok (.aload_n 0, 1) := by decide +kernel
theorem dX1_perform_188 : decode cX1_perform 188 = .ok (.aload_n 2, 1) := by decide +kernel
theorem dX1_perform_189 : decode cX1_perform 189 = .ok (.iconst 0, 1) := by decide +kernel
theorem dX1_perform_190 : decode cX1_perform 190 = .ok (.iaload, 1) := by decide +kernel
theorem dX1_perform_191 : decode cX1_perform 191 = .ok (.invokevirtual 120, 3) := by decide +kernel
theorem dX1_perform_194 : decode cX1_perform 194 = .ok (.ireturn, 1) := by decide +kernel
theorem dX1_perform_195 : decode cX1_perform 195 = .ok (.aload_n 0, 1) := by decide +kernel
theorem dX1_perform_196 : decode cX1_perform 196 = .ok (.invokevirtual 123, 3) := by decide +kernel
theorem dX1_perform_199 : decode cX1_perform 199 = .ok (.ireturn, 1) := by decide +kernel
set_option maxRecDepth 20000 in
set_option maxHeartbeats 4000000 in
theorem wk_X1_perform_131 {p : Program} {l : Launch} {e : Env} {s : State} {m : MethodId} {args : Array Value} {below : List Frame} {meth : Method} {c : Code} {G : Gp} {σ : St} {a0 : Nat}  {Q : Int32 → St → Prop} (F : FX p s m args meth c cX1_perform 3 (some .int) RX1 G) (y0 : lay a0 = (1, 0))  (h : wp_X1_perform_131 σ a0 Q) : J p l e (rmF 6 142) s m args below meth c 3 G (MQ below (QQ G (qI Q)) args s 0 0 (fr G)) 0 0 131 [(0, .ref (gb G + a0)), (2, .ref (gb G + 5))] [] σ := by
  unfold wp_X1_perform_131 at h
  refine J_aln F 0 dX1_perform_131 rfl rfl ?_
  refine J_aln F 1 dX1_perform_132 rfl rfl ?_
  refine J_ic F dX1_perform_133 ki_0 ?_
  refine J_ialdc F ly_5 (by decide) (by decide) dX1_perform_134 ?_
  refine J_callVi F (As := [.int (σ 5 0)]) (st := []) (C_X1_letGo l G a0 (σ 5 0) y0 h) (ci := 1) y0 (by decide) rfl rfl lm_X1_111 li_X1_letGo ls_X1_letGo ini_X1 lc_X1_letGo hd_X1_letGo (by decide) (Nat.le_of_ble_eq_true rfl) (by decide) rfl dX1_perform_135 (fun r_1 σ_2 h => ?_)
  exact J_reti F ⟨_, rfl, h⟩ dX1_perform_138
set_option maxRecDepth 20000 in
set_option maxHeartbeats 4000000 in
theorem C_X1_perform (l : Launch) (G : Gp) (a0 : Nat) (y0 : lay a0 = (1, 0)) {σ : St} {Q : Int32 → St → Prop} (h : wp_X1_perform σ a0 Q) : Cn l yX1_perform cX1_perform 3 (some .int) 6 142 G [.ref (gb G + a0), .ref (gb G + 4)] σ (qI Q) := by
  refine Cn_of (L := [(0, .ref (gb G + a0)), (1, .ref (gb G + 4))]) RX1 (by decide) rfl (Nat.le_of_ble_eq_true rfl) rfl ?_
  intro p e s m below meth c F
  unfold wp_X1_perform at h
  refine J_aln F 1 dX1_perform_0 rfl rfl ?_
  refine J_gfa F (ci := 0) 0 rfl inX0 ly_4 (by decide) (by decide) rfl lf_X1_63 rfl dX1_perform_1 ?_
  refine J_asn F (L' := [(2, .ref (gb G + 5)), (0, .ref (gb G + a0)), (1, .ref (gb G + 4))]) dX1_perform_4 rfl (by decide) rfl ?_
  refine J_aln F 2 dX1_perform_5 rfl rfl ?_
  refine J_gfi F (ci := 0) 1 rfl inX0 ly_4 (by decide) (by decide) rfl lf_X1_68 rfl dX1_perform_6 ?_
  refine J_top (fun q_4 eq_4 => ?_)
  have h := h q_4 eq_4
  refine J_case (v := nI 0) (fun c_5 => ?_) (fun c_5 => ?_)
  · have h := h.1 c_5
    refine J_tabIn F (off := 55) (tgt := 64) dX1_perform_9 (by decide) (by decide) (by decide) (by decide) ?_
    refine J_aln F 1 dX1_perform_64 rfl rfl ?_
    refine J_aln F 0 dX1_perform_65 rfl rfl ?_
    refine J_ic F dX1_perform_66 ki_0 ?_
    refine J_ialdc F ly_5 (by decide) (by decide) dX1_perform_67 ?_
    refine J_callVi F (As := [.int (σ 5 0)]) (st := []) (C_X1_startAnew l G a0 (σ 5 0) y0 h) (ci := 1) y0 (by decide) rfl rfl lm_X1_101 li_X1_startAnew ls_X1_startAnew ini_X1 lc_X1_startAnew hd_X1_startAnew (by decide) (Nat.le_of_ble_eq_true rfl) (by decide) rfl dX1_perform_68 (fun r_6 σ_7 h => ?_)
    exact J_reti F ⟨_, rfl, h⟩ dX1_perform_71
  · have h := h.2 c_5
    refine J_case (v := nI 1) (fun c_8 => ?_) (fun c_8 => ?_)
    · have h := h.1 c_8
      refine J_tabIn F (off := 63) (tgt := 72) dX1_perform_9 (by decide) (by decide) (by decide) (by decide) ?_
      refine J_aln F 1 dX1_perform_72 rfl rfl ?_
      refine J_aln F 0 dX1_perform_73 rfl rfl ?_
      refine J_ic F dX1_perform_74 ki_0 ?_
      refine J_ialdc F ly_5 (by decide) (by decide) dX1_perform_75 ?_
      refine J_aln F 0 dX1_perform_76 rfl rfl ?_
      refine J_ic F dX1_perform_77 ki_1 ?_
      refine J_ialdc F ly_5 (by decide) (by decide) dX1_perform_78 ?_
      refine J_callVi F (As := [.int (σ 5 0), .int (σ 5 1)]) (st := []) (C_X1_addLandmark l G a0 (σ 5 0) (σ 5 1) y0 h) (ci := 1) y0 (by decide) rfl rfl lm_X1_104 li_X1_addLandmark ls_X1_addLandmark ini_X1 lc_X1_addLandmark hd_X1_addLandmark (by decide) (Nat.le_of_ble_eq_true rfl) (by decide) rfl dX1_perform_79 (fun r_9 σ_10 h => ?_)
      exact J_reti F ⟨_, rfl, h⟩ dX1_perform_82
    · have h := h.2 c_8
      refine J_case (v := nI 2) (fun c_11 => ?_) (fun c_11 => ?_)
      · have h := h.1 c_11
        refine J_tabIn F (off := 74) (tgt := 83) dX1_perform_9 (by decide) (by decide) (by decide) (by decide) ?_
        refine J_aln F 1 dX1_perform_83 rfl rfl ?_
        refine J_aln F 0 dX1_perform_84 rfl rfl ?_
        refine J_ic F dX1_perform_85 ki_0 ?_
        refine J_ialdc F ly_5 (by decide) (by decide) dX1_perform_86 ?_
        refine J_aln F 0 dX1_perform_87 rfl rfl ?_
        refine J_ic F dX1_perform_88 ki_1 ?_
        refine J_ialdc F ly_5 (by decide) (by decide) dX1_perform_89 ?_
        refine J_aln F 0 dX1_perform_90 rfl rfl ?_
        refine J_ic F dX1_perform_91 ki_2 ?_
        refine J_ialdc F ly_5 (by decide) (by decide) dX1_perform_92 ?_
        refine J_aln F 0 dX1_perform_93 rfl rfl ?_
        refine J_ic F dX1_perform_94 ki_3 ?_
        refine J_ialdc F ly_5 (by decide) (by decide) dX1_perform_95 ?_
        refine J_callVi F (As := [.int (σ 5 0), .int (σ 5 1), .int (σ 5 2), .int (σ 5 3)]) (st := []) (C_X1_letIn l G a0 (σ 5 0) (σ 5 1) (σ 5 2) (σ 5 3) y0 h) (ci := 1) y0 (by decide) rfl rfl lm_X1_107 li_X1_letIn ls_X1_letIn ini_X1 lc_X1_letIn hd_X1_letIn (by decide) (Nat.le_of_ble_eq_true rfl) (by decide) rfl dX1_perform_96 (fun r_12 σ_13 h => ?_)
        exact J_reti F ⟨_, rfl, h⟩ dX1_perform_99
      · have h := h.2 c_11
        refine J_case (v := nI 3) (fun c_14 => ?_) (fun c_14 => ?_)
        · have h := h.1 c_14
          refine J_tabIn F (off := 91) (tgt := 100) dX1_perform_9 (by decide) (by decide) (by decide) (by decide) ?_
          refine J_aln F 1 dX1_perform_100 rfl rfl ?_
          refine J_aln F 0 dX1_perform_101 rfl rfl ?_
          refine J_ic F dX1_perform_102 ki_0 ?_
          refine J_ialdc F ly_5 (by decide) (by decide) dX1_perform_103 ?_
          refine J_aln F 0 dX1_perform_104 rfl rfl ?_
          refine J_ic F dX1_perform_105 ki_1 ?_
          refine J_ialdc F ly_5 (by decide) (by decide) dX1_perform_106 ?_
          refine J_aln F 1 dX1_perform_107 rfl rfl ?_
          refine J_aln F 0 dX1_perform_108 rfl rfl ?_
          refine J_ic F dX1_perform_109 ki_0 ?_
          refine J_ialdc F ly_5 (by decide) (by decide) dX1_perform_110 ?_
          refine J_aln F 0 dX1_perform_111 rfl rfl ?_
          refine J_ic F dX1_perform_112 ki_1 ?_
          refine J_ialdc F ly_5 (by decide) (by decide) dX1_perform_113 ?_
          refine J_callVi F (As := [.int (σ 5 0), .int (σ 5 1)]) (st := [.int (σ 5 1), .int (σ 5 0), .ref (gb G + a0)]) (C_X1_nearX l G a0 (σ 5 0) (σ 5 1) y0 h) (ci := 1) y0 (by decide) rfl rfl lm_X1_75 li_X1_nearX ls_X1_nearX ini_X1 lc_X1_nearX hd_X1_nearX (by decide) (Nat.le_of_ble_eq_true rfl) (by decide) rfl dX1_perform_114 (fun r_15 σ_16 hh => ?_)
          clear h
          obtain ⟨e9, h⟩ := hh
          subst σ_16
          refine J_aln F 1 dX1_perform_117 rfl rfl ?_
          refine J_aln F 0 dX1_perform_118 rfl rfl ?_
          refine J_ic F dX1_perform_119 ki_0 ?_
          refine J_ialdc F ly_5 (by decide) (by decide) dX1_perform_120 ?_
          refine J_aln F 0 dX1_perform_121 rfl rfl ?_
          refine J_ic F dX1_perform_122 ki_1 ?_
          refine J_ialdc F ly_5 (by decide) (by decide) dX1_perform_123 ?_
          refine J_callVi F (As := [.int (σ 5 0), .int (σ 5 1)]) (st := [.int r_15, .int (σ 5 1), .int (σ 5 0), .ref (gb G + a0)]) (C_X1_nearY l G a0 (σ 5 0) (σ 5 1) y0 h) (ci := 1) y0 (by decide) rfl rfl lm_X1_78 li_X1_nearY ls_X1_nearY ini_X1 lc_X1_nearY hd_X1_nearY (by decide) (Nat.le_of_ble_eq_true rfl) (by decide) rfl dX1_perform_124 (fun r_17 σ_18 hh => ?_)
          clear h
          obtain ⟨e9, h⟩ := hh
          subst σ_18
          refine J_callVi F (As := [.int (σ 5 0), .int (σ 5 1), .int r_15, .int r_17]) (st := []) (C_X1_letIn l G a0 (σ 5 0) (σ 5 1) r_15 r_17 y0 h) (ci := 1) y0 (by decide) rfl rfl lm_X1_107 li_X1_letIn ls_X1_letIn ini_X1 lc_X1_letIn hd_X1_letIn (by decide) (Nat.le_of_ble_eq_true rfl) (by decide) rfl dX1_perform_127 (fun r_19 σ_20 h => ?_)
          exact J_reti F ⟨_, rfl, h⟩ dX1_perform_130
        · have h := h.2 c_14
          refine J_case (v := nI 4) (fun c_21 => ?_) (fun c_21 => ?_)
          · have h := h.1 c_21
            refine J_tabIn F (off := 122) (tgt := 131) dX1_perform_9 (by decide) (by decide) (by decide) (by decide) ?_
            refine J_sub [1, 0] rfl ?_
            exact wk_X1_perform_131 F y0 h
          · have h := h.2 c_21
            refine J_case (v := nI 5) (fun c_22 => ?_) (fun c_22 => ?_)
            · have h := h.1 c_22
              refine J_tabIn F (off := 130) (tgt := 139) dX1_perform_9 (by decide) (by decide) (by decide) (by decide) ?_
              refine J_aln F 1 dX1_perform_139 rfl rfl ?_
              refine J_aln F 0 dX1_perform_140 rfl rfl ?_
              refine J_ic F dX1_perform_141 ki_0 ?_
              refine J_ialdc F ly_5 (by decide) (by decide) dX1_perform_142 ?_
              refine J_callVi F (As := [.int (σ 5 0)]) (st := []) (C_X1_letDie l G a0 (σ 5 0) y0 h) (ci := 1) y0 (by decide) rfl rfl lm_X1_114 li_X1_letDie ls_X1_letDie ini_X1 lc_X1_letDie hd_X1_letDie (by decide) (Nat.le_of_ble_eq_true rfl) (by decide) rfl dX1_perform_143 (fun r_23 σ_24 h => ?_)
              exact J_reti F ⟨_, rfl, h⟩ dX1_perform_146
            · have h := h.2 c_22
              refine J_case (v := nI 6) (fun c_25 => ?_) (fun c_25 => ?_)
              · have h := h.1 c_25
                refine J_tabIn F (off := 122) (tgt := 131) dX1_perform_9 (by decide) (by decide) (by decide) (by decide) ?_
                refine J_sub [1, 0] rfl ?_
                exact wk_X1_perform_131 F y0 h
              · have h := h.2 c_25
                refine J_case (v := nI 7) (fun c_26 => ?_) (fun c_26 => ?_)
                · have h := h.1 c_26
                  refine J_tabIn F (off := 138) (tgt := 147) dX1_perform_9 (by decide) (by decide) (by decide) (by decide) ?_
                  refine J_aln F 1 dX1_perform_147 rfl rfl ?_
                  refine J_callVi F (As := []) (st := []) (C_X1_tidyAll l G a0 y0 h) (ci := 1) y0 (by decide) rfl rfl lm_X1_117 li_X1_tidyAll ls_X1_tidyAll ini_X1 lc_X1_tidyAll hd_X1_tidyAll (by decide) (Nat.le_of_ble_eq_true rfl) (by decide) rfl dX1_perform_148 (fun r_27 σ_28 h => ?_)
                  exact J_reti F ⟨_, rfl, h⟩ dX1_perform_151
                · have h := h.2 c_26
                  refine J_case (v := nI 8) (fun c_29 => ?_) (fun c_29 => ?_)
                  · have h := h.1 c_29
                    refine J_tabIn F (off := 143) (tgt := 152) dX1_perform_9 (by decide) (by decide) (by decide) (by decide) ?_
                    refine J_aln F 1 dX1_perform_152 rfl rfl ?_
                    refine J_gfr F (ci := 1) 6 rfl inX1 y0 (by decide) (by decide) rfl lf_X1_33 rfl dX1_perform_153 ?_
                    refine J_aln F 0 dX1_perform_156 rfl rfl ?_
                    refine J_ic F dX1_perform_157 ki_0 ?_
                    refine J_ialdc F ly_5 (by decide) (by decide) dX1_perform_158 ?_
                    refine J_aln F 0 dX1_perform_159 rfl rfl ?_
                    refine J_ic F dX1_perform_160 ki_1 ?_
                    refine J_ialdc F ly_5 (by decide) (by decide) dX1_perform_161 ?_
                    obtain ⟨h_30, h⟩ := h
                    refine J_iast F (lay_net y0).2.2.2.2.2.2.1 h_30 dX1_perform_162 ?_
                    refine J_st (fun σ_31 eσ_31 => ?_)
                    have h := h σ_31 eσ_31
                    refine J_aln F 1 dX1_perform_163 rfl rfl ?_
                    refine J_gfr F (ci := 1) 7 rfl inX1 y0 (by decide) (by decide) rfl lf_X1_36 rfl dX1_perform_164 ?_
                    refine J_aln F 0 dX1_perform_167 rfl rfl ?_
                    refine J_ic F dX1_perform_168 ki_0 ?_
                    refine J_ialdc F ly_5 (by decide) (by decide) dX1_perform_169 ?_
                    refine J_aln F 1 dX1_perform_170 rfl rfl ?_
                    refine J_aln F 0 dX1_perform_171 rfl rfl ?_
                    refine J_ic F dX1_perform_172 ki_0 ?_
                    refine J_ialdc F ly_5 (by decide) (by decide) dX1_perform_173 ?_
                    refine J_callVi F (As := [.int (σ_31 5 0)]) (st := [.int (σ_31 5 0), .ref (gb G + (a0 + 8))]) (C_X1_realitiesWithin l G a0 (σ_31 5 0) y0 h) (ci := 1) y0 (by decide) rfl rfl lm_X1_88 li_X1_realitiesWithin ls_X1_realitiesWithin ini_X1 lc_X1_realitiesWithin hd_X1_realitiesWithin (by decide) (Nat.le_of_ble_eq_true rfl) (by decide) rfl dX1_perform_174 (fun r_32 σ_33 hh => ?_)
                    clear h
                    obtain ⟨e9, h⟩ := hh
                    subst σ_33
                    obtain ⟨h_34, h⟩ := h
                    refine J_iast F (lay_net y0).2.2.2.2.2.2.2.1 h_34 dX1_perform_177 ?_
                    refine J_st (fun σ_35 eσ_35 => ?_)
                    have h := h σ_35 eσ_35
                    refine J_aln F 1 dX1_perform_178 rfl rfl ?_
                    refine J_gfr F (ci := 1) 7 rfl inX1 y0 (by decide) (by decide) rfl lf_X1_36 rfl dX1_perform_179 ?_
                    refine J_aln F 0 dX1_perform_182 rfl rfl ?_
                    refine J_ic F dX1_perform_183 ki_0 ?_
                    refine J_ialdc F ly_5 (by decide) (by decide) dX1_perform_184 ?_
                    obtain ⟨h_36, h⟩ := h
                    refine J_iald F (lay_net y0).2.2.2.2.2.2.2.1 h_36 dX1_perform_185 ?_
                    exact J_reti F ⟨_, rfl, h⟩ dX1_perform_186
                  · have h := h.2 c_29
                    refine J_case (v := nI 9) (fun c_37 => ?_) (fun c_37 => ?_)
                    · have h := h.1 c_37
                      refine J_tabIn F (off := 178) (tgt := 187) dX1_perform_9 (by decide) (by decide) (by decide) (by decide) ?_
                      refine J_aln F 1 dX1_perform_187 rfl rfl ?_
                      refine J_aln F 0 dX1_perform_188 rfl rfl ?_
                      refine J_ic F dX1_perform_189 ki_0 ?_
                      refine J_ialdc F ly_5 (by decide) (by decide) dX1_perform_190 ?_
                      refine J_callVi F (As := [.int (σ 5 0)]) (st := []) (C_X1_cutOut l G a0 (σ 5 0) y0 h) (ci := 1) y0 (by decide) rfl rfl lm_X1_120 li_X1_cutOut ls_X1_cutOut ini_X1 lc_X1_cutOut hd_X1_cutOut (by decide) (Nat.le_of_ble_eq_true rfl) (by decide) rfl dX1_perform_191 (fun r_38 σ_39 h => ?_)
                      exact J_reti F ⟨_, rfl, h⟩ dX1_perform_194
                    · have h := h.2 c_37
                      refine J_tabOut F (tgt := 195) dX1_perform_9 (tab_out 0 9 (fun k h1 h2 => by rcases (show k = 0 ∨ k = 1 ∨ k = 2 ∨ k = 3 ∨ k = 4 ∨ k = 5 ∨ k = 6 ∨ k = 7 ∨ k = 8 ∨ k = 9 by omega) with rfl | rfl | rfl | rfl | rfl | rfl | rfl | rfl | rfl | rfl <;> assumption)) (by decide) ?_
                      refine J_aln F 1 dX1_perform_195 rfl rfl ?_
                      refine J_callVi F (As := []) (st := []) (C_X1_mendAll l G a0 y0 h) (ci := 1) y0 (by decide) rfl rfl lm_X1_123 li_X1_mendAll ls_X1_mendAll ini_X1 lc_X1_mendAll hd_X1_mendAll (by decide) (Nat.le_of_ble_eq_true rfl) (by decide) rfl dX1_perform_196 (fun r_40 σ_41 h => ?_)
                      exact J_reti F ⟨_, rfl, h⟩ dX1_perform_199
theorem dX1_apart_0 : decode cX1_apart 0 = .ok (.iload_n 1, 1) := by decide +kernel
theorem dX1_apart_1 : decode cX1_apart 1 = .ok (.ifCond .lt 19, 3) := by decide +kernel
theorem dX1_apart_4 : decode cX1_apart 4 = .ok (.iload_n 1, 1) := by decide +kernel
theorem dX1_apart_5 : decode cX1_apart 5 = .ok (.bipush 10, 2) := by decide +kernel
theorem dX1_apart_7 : decode cX1_apart 7 = .ok (.if_icmp .ge 13, 3) := by decide +kernel
theorem dX1_apart_10 : decode cX1_apart 10 = .ok (.iload_n 2, 1) := by decide +kernel
theorem dX1_apart_11 : decode cX1_apart 11 = .ok (.ifCond .lt 9, 3) := by decide +kernel
theorem dX1_apart_14 : decode cX1_apart 14 = .ok (.iload_n 2, 1) := by decide +kernel
theorem dX1_apart_15 : decode cX1_apart 15 = .ok (.bipush 10, 2) := by decide +kernel
theorem dX1_apart_17 : decode cX1_apart 17 = .ok (.if_icmp .lt 5, 3) := by decide +kernel
theorem dX1_apart_20 : decode cX1_apart 20 = .ok (.iconst 0, 1) := by decide +kernel
theorem dX1_apart_21 : decode cX1_apart 21 = .ok (.ireturn, 1) := by decide +kernel
theorem dX1_apart_22 : decode cX1_apart 22 = .ok (.aload_n 0, 1) := by decide +kernel
theorem dX1_apart_23 : decode cX1_apart 23 = .ok (.getfield 21, 3) := by decide +kernel
theorem dX1_apart_26 : decode cX1_apart 26 = .ok (.iload_n 1, 1) := by decide +kernel
theorem dX1_apart_27 : decode cX1_apart 27 = .ok (.iaload, 1) := by decide +kernel
theorem dX1_apart_28 : decode cX1_apart 28 = .ok (.aload_n 0, 1) := by decide +kernel
theorem dX1_apart_29 : decode cX1_apart 29 = .ok (.getfield 21, 3) := by decide +kernel
theorem dX1_apart_32 : decode cX1_apart 32 = .ok (.iload_n 2, 1) := by decide +kernel
theorem dX1_apart_33 : decode cX1_apart 33 = .ok (.iaload, 1) := by decide +kernel
theorem dX1_apart_34 : decode cX1_apart 34 = .ok (.isub, 1) := by decide +kernel
theorem dX1_apart_35 : decode cX1_apart 35 = .ok (.invokestatic 152, 3) := by decide +kernel
theorem dX1_apart_38 : decode cX1_apart 38 = .ok (.aload_n 0, 1) := by decide +kernel
theorem dX1_apart_39 : decode cX1_apart 39 = .ok (.getfield 24, 3) := by decide +kernel
theorem dX1_apart_42 : decode cX1_apart 42 = .ok (.iload_n 1, 1) := by decide +kernel
theorem dX1_apart_43 : decode cX1_apart 43 = .ok (.iaload, 1) := by decide +kernel
theorem dX1_apart_44 : decode cX1_apart 44 = .ok (.aload_n 0, 1) := by decide +kernel
theorem dX1_apart_45 : decode cX1_apart 45 = .ok (.getfield 24, 3) := by decide +kernel
theorem dX1_apart_48 : decode cX1_apart 48 = .ok (.iload_n 2, 1) := by decide +kernel
theorem dX1_apart_49 : decode cX1_apart 49 = .ok (.iaload, 1) := by decide +kernel
theorem dX1_apart_50 : decode cX1_apart 50 = .ok (.isub, 1) := by decide +kernel
theorem dX1_apart_51 : decode cX1_apart 51 = .ok (.invokestatic 152, 3) := by decide +kernel
theorem dX1_apart_54 : decode cX1_apart 54 = .ok (.iadd, 1) := by decide +kernel
theorem dX1_apart_55 : decode cX1_apart 55 = .ok (.ireturn, 1) := by decide +kernel
set_option maxRecDepth 20000 in
set_option maxHeartbeats 4000000 in
theorem C_X1_apart (l : Launch) (G : Gp) (a0 : Nat) (x1 : Int32) (x2 : Int32) (y0 : lay a0 = (1, 0)) {σ : St} {Q : Int32 → Prop} (h : wp_X1_apart σ a0 x1 x2 Q) : Cn l yX1_apart cX1_apart 3 (some .int) 1 21 G [.ref (gb G + a0), .int x1, .int x2] σ (qI (fun r σ' => σ' = σ ∧ Q r)) := by
  refine Cn_of (L := [(0, .ref (gb G + a0)), (1, .int x1), (2, .int x2)]) RX1 (by decide) rfl (Nat.le_of_ble_eq_true rfl) rfl ?_
  intro p e s m below meth c F
  unfold wp_X1_apart at h
  refine J_iln F 1 dX1_apart_0 rfl rfl ?_
  refine J_zlt F (tgt := 20) dX1_apart_1 (by decide) (fun c_1 => ?_) (fun c_1 => ?_)
  · have h := h.1 c_1
    refine J_ic F dX1_apart_20 ki_0 ?_
    exact J_reti F ⟨_, rfl, rfl, h⟩ dX1_apart_21
  · have h := h.2 c_1
    refine J_iln F 1 dX1_apart_4 rfl rfl ?_
    refine J_bi F dX1_apart_5 kb_10 ?_
    refine J_cge F (tgt := 20) dX1_apart_7 (by decide) (fun c_2 => ?_) (fun c_2 => ?_)
    · have h := h.1 c_2
      refine J_ic F dX1_apart_20 ki_0 ?_
      exact J_reti F ⟨_, rfl, rfl, h⟩ dX1_apart_21
    · have h := h.2 c_2
      refine J_iln F 2 dX1_apart_10 rfl rfl ?_
      refine J_zlt F (tgt := 20) dX1_apart_11 (by decide) (fun c_3 => ?_) (fun c_3 => ?_)
      · have h := h.1 c_3
        refine J_ic F dX1_apart_20 ki_0 ?_
        exact J_reti F ⟨_, rfl, rfl, h⟩ dX1_apart_21
      · have h := h.2 c_3
        refine J_iln F 2 dX1_apart_14 rfl rfl ?_
        refine J_bi F dX1_apart_15 kb_10 ?_
        refine J_clt F (tgt := 22) dX1_apart_17 (by decide) (fun c_4 => ?_) (fun c_4 => ?_)
        · have h := h.1 c_4
          refine J_aln F 0 dX1_apart_22 rfl rfl ?_
          refine J_gfr F (ci := 1) 2 rfl inX1 y0 (by decide) (by decide) rfl lf_X1_21 rfl dX1_apart_23 ?_
          refine J_iln F 1 dX1_apart_26 rfl rfl ?_
          obtain ⟨h_5, h⟩ := h
          refine J_iald F (lay_net y0).2.2.1 h_5 dX1_apart_27 ?_
          refine J_aln F 0 dX1_apart_28 rfl rfl ?_
          refine J_gfr F (ci := 1) 2 rfl inX1 y0 (by decide) (by decide) rfl lf_X1_21 rfl dX1_apart_29 ?_
          refine J_iln F 2 dX1_apart_32 rfl rfl ?_
          obtain ⟨h_6, h⟩ := h
          refine J_iald F (lay_net y0).2.2.1 h_6 dX1_apart_33 ?_
          refine J_isub F dX1_apart_34 ?_
          refine J_mabs F lm_X1_152 st_abs ini_Math co_abs (by decide) (Nat.le_of_ble_eq_true rfl) (by decide) dX1_apart_35 ?_
          refine J_aln F 0 dX1_apart_38 rfl rfl ?_
          refine J_gfr F (ci := 1) 3 rfl inX1 y0 (by decide) (by decide) rfl lf_X1_24 rfl dX1_apart_39 ?_
          refine J_iln F 1 dX1_apart_42 rfl rfl ?_
          obtain ⟨h_7, h⟩ := h
          refine J_iald F (lay_net y0).2.2.2.1 h_7 dX1_apart_43 ?_
          refine J_aln F 0 dX1_apart_44 rfl rfl ?_
          refine J_gfr F (ci := 1) 3 rfl inX1 y0 (by decide) (by decide) rfl lf_X1_24 rfl dX1_apart_45 ?_
          refine J_iln F 2 dX1_apart_48 rfl rfl ?_
          obtain ⟨h_8, h⟩ := h
          refine J_iald F (lay_net y0).2.2.2.1 h_8 dX1_apart_49 ?_
          refine J_isub F dX1_apart_50 ?_
          refine J_mabs F lm_X1_152 st_abs ini_Math co_abs (by decide) (Nat.le_of_ble_eq_true rfl) (by decide) dX1_apart_51 ?_
          refine J_iadd F dX1_apart_54 ?_
          exact J_reti F ⟨_, rfl, rfl, h⟩ dX1_apart_55
        · have h := h.2 c_4
          refine J_ic F dX1_apart_20 ki_0 ?_
          exact J_reti F ⟨_, rfl, rfl, h⟩ dX1_apart_21
theorem dX1_isHeldByNoneBut_0 : decode cX1_isHeldByNoneBut 0 = .ok (.iconst 0, 1) := by decide +kernel
theorem dX1_isHeldByNoneBut_1 : decode cX1_isHeldByNoneBut 1 = .ok (.istore_n 3, 1) := by decide +kernel
theorem dX1_isHeldByNoneBut_2 : decode cX1_isHeldByNoneBut 2 = .ok (.iload_n 3, 1) := by decide +kernel
theorem dX1_isHeldByNoneBut_3 : decode cX1_isHeldByNoneBut 3 = .ok (.aload_n 0, 1) := by decide +kernel
theorem dX1_isHeldByNoneBut_4 : decode cX1_isHeldByNoneBut 4 = .ok (.getfield 43, 3) := by decide +kernel
theorem dX1_isHeldByNoneBut_7 : decode cX1_isHeldByNoneBut 7 = .ok (.if_icmp .ge 30, 3) := by decide +kernel
theorem dX1_isHeldByNoneBut_10 : decode cX1_isHeldByNoneBut 10 = .ok (.aload_n 0, 1) := by decide +kernel
theorem dX1_isHeldByNoneBut_11 : decode cX1_isHeldByNoneBut 11 = .ok (.iload_n 1, 1) := by decide +kernel
theorem dX1_isHeldByNoneBut_12 : decode cX1_isHeldByNoneBut 12 = .ok (.iload_n 3, 1) := by decide +kernel
theorem dX1_isHeldByNoneBut_13 : decode cX1_isHeldByNoneBut 13 = .ok (.invokevirtual 176, 3) := by decide +kernel
theorem dX1_isHeldByNoneBut_16 : decode cX1_isHeldByNoneBut 16 = .ok (.ifCond .eq 15, 3) := by decide +kernel
theorem dX1_isHeldByNoneBut_19 : decode cX1_isHeldByNoneBut 19 = .ok (.aload_n 0, 1) := by decide +kernel
theorem dX1_isHeldByNoneBut_20 : decode cX1_isHeldByNoneBut 20 = .ok (.iload_n 1, 1) := by decide +kernel
theorem dX1_isHeldByNoneBut_21 : decode cX1_isHeldByNoneBut 21 = .ok (.iload_n 3, 1) := by decide +kernel
theorem dX1_isHeldByNoneBut_22 : decode cX1_isHeldByNoneBut 22 = .ok (.iload_n 2, 1) := by decide +kernel
theorem dX1_isHeldByNoneBut_23 : decode cX1_isHeldByNoneBut 23 = .ok (.invokevirtual 142, 3) := by decide +kernel
theorem dX1_isHeldByNoneBut_26 : decode cX1_isHeldByNoneBut 26 = .ok (.ifCond .ne 5, 3) := by decide +kernel
theorem dX1_isHeldByNoneBut_29 : decode cX1_isHeldByNoneBut 29 = .ok (.iconst 0, 1) := by decide +kernel
theorem dX1_isHeldByNoneBut_30 : decode cX1_isHeldByNoneBut 30 = .ok (.ireturn, 1) := by decide +kernel
theorem dX1_isHeldByNoneBut_31 : decode cX1_isHeldByNoneBut 31 = .ok (.iinc 3 1, 3) := by decide +kernel
theorem dX1_isHeldByNoneBut_34 : decode cX1_isHeldByNoneBut 34 = .ok (.goto (-32), 3) := by decide +kernel
theorem dX1_isHeldByNoneBut_37 : decode cX1_isHeldByNoneBut 37 = .ok (.aload_n 0, 1) := by decide +kernel
theorem dX1_isHeldByNoneBut_38 : decode cX1_isHeldByNoneBut 38 = .ok (.getfield 36, 3) := by decide +kernel
theorem dX1_isHeldByNoneBut_41 : decode cX1_isHeldByNoneBut 41 = .ok (.iload_n 1, 1) := by decide +kernel
theorem dX1_isHeldByNoneBut_42 : decode cX1_isHeldByNoneBut 42 = .ok (.iaload, 1) := by decide +kernel
theorem dX1_isHeldByNoneBut_43 : decode cX1_isHeldByNoneBut 43 = .ok (.ifCond .eq 7, 3) := by decide +kernel
theorem dX1_isHeldByNoneBut_46 : decode cX1_isHeldByNoneBut 46 = .ok (.iconst 1, 1) := by decide +kernel
theorem dX1_isHeldByNoneBut_47 : decode cX1_isHeldByNoneBut 47 = .ok (.goto 4, 3) := by decide +kernel
theorem dX1_isHeldByNoneBut_50 : decode cX1_isHeldByNoneBut 50 = .ok (.iconst 0, 1) := by decide +kernel
theorem dX1_isHeldByNoneBut_51 : decode cX1_isHeldByNoneBut 51 = .ok (.ireturn, 1) := by decide +kernel
set_option maxRecDepth 20000 in
set_option maxHeartbeats 4000000 in
theorem wk_X1_isHeldByNoneBut_37 {p : Program} {l : Launch} {e : Env} {s : State} {m : MethodId} {args : Array Value} {below : List Frame} {meth : Method} {c : Code} {G : Gp} {σ : St} {a0 : Nat} {x1 : Int32}  {Q : Int32 → Prop} (F : FX p s m args meth c cX1_isHeldByNoneBut 4 (some .boolean) RX1 G) (y0 : lay a0 = (1, 0))  (h : wp_X1_isHeldByNoneBut_37 σ a0 x1 Q) : J p l e (rmF 3 69) s m args below meth c 4 G (MQ below (QQ G (qI (fun r σ' => σ' = σ ∧ Q r))) args s 0 0 (fr G)) 0 0 37 [(0, .ref (gb G + a0)), (1, .int x1)] [] σ := by
  unfold wp_X1_isHeldByNoneBut_37 at h
  refine J_aln F 0 dX1_isHeldByNoneBut_37 rfl rfl ?_
  refine J_gfr F (ci := 1) 7 rfl inX1 y0 (by decide) (by decide) rfl lf_X1_36 rfl dX1_isHeldByNoneBut_38 ?_
  refine J_iln F 1 dX1_isHeldByNoneBut_41 rfl rfl ?_
  obtain ⟨h_1, h⟩ := h
  refine J_iald F (lay_net y0).2.2.2.2.2.2.2.1 h_1 dX1_isHeldByNoneBut_42 ?_
  refine J_zeq F (tgt := 50) dX1_isHeldByNoneBut_43 (by decide) (fun c_2 => ?_) (fun c_2 => ?_)
  · have h := h.1 c_2
    refine J_ic F dX1_isHeldByNoneBut_50 ki_0 ?_
    exact J_retz F (Or.inl rfl) ⟨_, rfl, rfl, h⟩ dX1_isHeldByNoneBut_51
  · have h := h.2 c_2
    refine J_ic F dX1_isHeldByNoneBut_46 ki_1 ?_
    refine J_goto F (tgt := 51) dX1_isHeldByNoneBut_47 (by decide) ?_
    exact J_retz F (Or.inr rfl) ⟨_, rfl, rfl, h⟩ dX1_isHeldByNoneBut_51
set_option maxRecDepth 20000 in
set_option maxHeartbeats 4000000 in
theorem wk_X1_isHeldByNoneBut_2 {p : Program} {l : Launch} {e : Env} {s : State} {m : MethodId} {args : Array Value} {below : List Frame} {meth : Method} {c : Code} {G : Gp} {σ : St} {a0 : Nat} {x1 : Int32} {x2 : Int32}  {Q : Int32 → Prop} (F : FX p s m args meth c cX1_isHeldByNoneBut 4 (some .boolean) RX1 G) (y0 : lay a0 = (1, 0))  : ∀ (n9 : Nat) (x3 : Int32), LP1 (wp_X1_isHeldByNoneBut_2 σ a0 x1 x2 Q) n9 x3 → J p l e (rmF 3 69) s m args below meth c 4 G (MQ below (QQ G (qI (fun r σ' => σ' = σ ∧ Q r))) args s 0 0 (fr G)) 0 0 2 [(0, .ref (gb G + a0)), (1, .int x1), (2, .int x2), (3, .int x3)] [] σ := by
  intro n9
  induction n9 with
  | zero => intro x3 h; exact h.elim
  | succ n9 i2 =>
    intro x3 h
    have h : wp_X1_isHeldByNoneBut_2 σ a0 x1 x2 Q (LP1 (wp_X1_isHeldByNoneBut_2 σ a0 x1 x2 Q) n9) x3 := h
    unfold wp_X1_isHeldByNoneBut_2 at h
    refine J_iln F 3 dX1_isHeldByNoneBut_2 rfl rfl ?_
    refine J_aln F 0 dX1_isHeldByNoneBut_3 rfl rfl ?_
    refine J_gfi F (ci := 1) 9 rfl inX1 y0 (by decide) (by decide) rfl lf_X1_43 rfl dX1_isHeldByNoneBut_4 ?_
    refine J_cge F (tgt := 37) dX1_isHeldByNoneBut_7 (by decide) (fun c_3 => ?_) (fun c_3 => ?_)
    · have h := h.1 c_3
      refine J_sub [0, 1] rfl ?_
      exact wk_X1_isHeldByNoneBut_37 F y0 h
    · have h := h.2 c_3
      refine J_aln F 0 dX1_isHeldByNoneBut_10 rfl rfl ?_
      refine J_iln F 1 dX1_isHeldByNoneBut_11 rfl rfl ?_
      refine J_iln F 3 dX1_isHeldByNoneBut_12 rfl rfl ?_
      refine J_callVi F (As := [.int x1, .int x3]) (st := []) (C_X1_isHeld l G a0 x1 x3 y0 h) (ci := 1) y0 (by decide) rfl rfl lm_X1_176 li_X1_isHeld ls_X1_isHeld ini_X1 lc_X1_isHeld hd_X1_isHeld (by decide) (Nat.le_of_ble_eq_true rfl) (by decide) rfl dX1_isHeldByNoneBut_13 (fun r_4 σ_5 hh => ?_)
      clear h
      obtain ⟨e9, h⟩ := hh
      subst σ_5
      refine J_zeq F (tgt := 31) dX1_isHeldByNoneBut_16 (by decide) (fun c_6 => ?_) (fun c_6 => ?_)
      · have h := h.1 c_6
        obtain ⟨x3_7, ex3_7⟩ : ∃ z : Int32, z = x3 + (nI 1) := ⟨_, rfl⟩
        have h := h x3_7 ex3_7
        refine J_iinc F (v := x3_7) (L' := [(3, .int x3_7), (0, .ref (gb G + a0)), (1, .int x1), (2, .int x2)]) 3 dX1_isHeldByNoneBut_31 rfl (by rw [ki_1, ex3_7]) (by decide) rfl ?_
        refine J_goto F (tgt := 2) dX1_isHeldByNoneBut_34 (by decide) ?_
        refine J_sub [1, 2, 3, 0] rfl ?_
        exact i2 _ h
      · have h := h.2 c_6
        refine J_aln F 0 dX1_isHeldByNoneBut_19 rfl rfl ?_
        refine J_iln F 1 dX1_isHeldByNoneBut_20 rfl rfl ?_
        refine J_iln F 3 dX1_isHeldByNoneBut_21 rfl rfl ?_
        refine J_iln F 2 dX1_isHeldByNoneBut_22 rfl rfl ?_
        refine J_callVi F (As := [.int x1, .int x3, .int x2]) (st := []) (C_X1_isHeldBy l G a0 x1 x3 x2 y0 h) (ci := 1) y0 (by decide) rfl rfl lm_X1_142 li_X1_isHeldBy ls_X1_isHeldBy ini_X1 lc_X1_isHeldBy hd_X1_isHeldBy (by decide) (Nat.le_of_ble_eq_true rfl) (by decide) rfl dX1_isHeldByNoneBut_23 (fun r_8 σ_9 hh => ?_)
        clear h
        obtain ⟨e9, h⟩ := hh
        subst σ_9
        refine J_zne F (tgt := 31) dX1_isHeldByNoneBut_26 (by decide) (fun c_10 => ?_) (fun c_10 => ?_)
        · have h := h.1 c_10
          obtain ⟨x3_11, ex3_11⟩ : ∃ z : Int32, z = x3 + (nI 1) := ⟨_, rfl⟩
          have h := h x3_11 ex3_11
          refine J_iinc F (v := x3_11) (L' := [(3, .int x3_11), (0, .ref (gb G + a0)), (1, .int x1), (2, .int x2)]) 3 dX1_isHeldByNoneBut_31 rfl (by rw [ki_1, ex3_11]) (by decide) rfl ?_
          refine J_goto F (tgt := 2) dX1_isHeldByNoneBut_34 (by decide) ?_
          refine J_sub [1, 2, 3, 0] rfl ?_
          exact i2 _ h
        · have h := h.2 c_10
          refine J_ic F dX1_isHeldByNoneBut_29 ki_0 ?_
          exact J_retz F (Or.inl rfl) ⟨_, rfl, rfl, h⟩ dX1_isHeldByNoneBut_30
set_option maxRecDepth 20000 in
set_option maxHeartbeats 4000000 in
theorem C_X1_isHeldByNoneBut (l : Launch) (G : Gp) (a0 : Nat) (x1 : Int32) (x2 : Int32) (y0 : lay a0 = (1, 0)) {σ : St} {Q : Int32 → Prop} (h : wp_X1_isHeldByNoneBut σ a0 x1 x2 Q) : Cn l yX1_isHeldByNoneBut cX1_isHeldByNoneBut 4 (some .boolean) 3 69 G [.ref (gb G + a0), .int x1, .int x2] σ (qI (fun r σ' => σ' = σ ∧ Q r)) := by
  refine Cn_of (L := [(0, .ref (gb G + a0)), (1, .int x1), (2, .int x2)]) RX1 (by decide) rfl (Nat.le_of_ble_eq_true rfl) rfl ?_
  intro p e s m below meth c F
  unfold wp_X1_isHeldByNoneBut at h
  refine J_ic F dX1_isHeldByNoneBut_0 ki_0 ?_
  refine J_isn F (L' := [(3, .int (nI 0)), (0, .ref (gb G + a0)), (1, .int x1), (2, .int x2)]) dX1_isHeldByNoneBut_1 rfl (by decide) rfl ?_
  refine J_sub [1, 2, 3, 0] rfl ?_
  obtain ⟨n9, h⟩ := h
  exact wk_X1_isHeldByNoneBut_2 F y0 n9 _ h
theorem dX1_loadOf_0 : decode cX1_loadOf 0 = .ok (.iconst 0, 1) := by decide +kernel
theorem dX1_loadOf_1 : decode cX1_loadOf 1 = .ok (.istore_n 3, 1) := by decide +kernel
theorem dX1_loadOf_2 : decode cX1_loadOf 2 = .ok (.iconst 0, 1) := by decide +kernel
theorem dX1_loadOf_3 : decode cX1_loadOf 3 = .ok (.istore 4, 2) := by decide +kernel
theorem dX1_loadOf_5 : decode cX1_loadOf 5 = .ok (.iload 4, 2) := by decide +kernel
theorem dX1_loadOf_7 : decode cX1_loadOf 7 = .ok (.bipush 100, 2) := by decide +kernel
theorem dX1_loadOf_9 : decode cX1_loadOf 9 = .ok (.if_icmp .ge 23, 3) := by decide +kernel
theorem dX1_loadOf_12 : decode cX1_loadOf 12 = .ok (.aload_n 0, 1) := by decide +kernel
theorem dX1_loadOf_13 : decode cX1_loadOf 13 = .ok (.iload 4, 2) := by decide +kernel
theorem dX1_loadOf_15 : decode cX1_loadOf 15 = .ok (.iload_n 2, 1) := by decide +kernel
theorem dX1_loadOf_16 : decode cX1_loadOf 16 = .ok (.iload_n 1, 1) := by decide +kernel
theorem dX1_loadOf_17 : decode cX1_loadOf 17 = .ok (.invokevirtual 142, 3) := by decide +kernel
theorem dX1_loadOf_20 : decode cX1_loadOf 20 = .ok (.ifCond .eq 6, 3) := by decide +kernel
theorem dX1_loadOf_23 : decode cX1_loadOf 23 = .ok (.iinc 3 1, 3) := by decide +kernel
theorem dX1_loadOf_26 : decode cX1_loadOf 26 = .ok (.iinc 4 1, 3) := by decide +kernel
theorem dX1_loadOf_29 : decode cX1_loadOf 29 = .ok (.goto (-24), 3) := by decide +kernel
theorem dX1_loadOf_32 : decode cX1_loadOf 32 = .ok (.iload_n 3, 1) := by decide +kernel
theorem dX1_loadOf_33 : decode cX1_loadOf 33 = .ok (.ireturn, 1) := by decide +kernel
set_option maxRecDepth 20000 in
set_option maxHeartbeats 4000000 in
theorem wk_X1_loadOf_5 {p : Program} {l : Launch} {e : Env} {s : State} {m : MethodId} {args : Array Value} {below : List Frame} {meth : Method} {c : Code} {G : Gp} {σ : St} {a0 : Nat} {x1 : Int32} {x2 : Int32}  {Q : Int32 → Prop} (F : FX p s m args meth c cX1_loadOf 5 (some .int) RX1 G) (y0 : lay a0 = (1, 0))  : ∀ (n9 : Nat) (x3 : Int32) (x4 : Int32), LP2 (wp_X1_loadOf_5 σ a0 x1 x2 Q) n9 x3 x4 → J p l e (rmF 3 69) s m args below meth c 5 G (MQ below (QQ G (qI (fun r σ' => σ' = σ ∧ Q r))) args s 0 0 (fr G)) 0 0 5 [(0, .ref (gb G + a0)), (1, .int x1), (2, .int x2), (3, .int x3), (4, .int x4)] [] σ := by
  intro n9
  induction n9 with
  | zero => intro x3 x4 h; exact h.elim
  | succ n9 i5 =>
    intro x3 x4 h
    have h : wp_X1_loadOf_5 σ a0 x1 x2 Q (LP2 (wp_X1_loadOf_5 σ a0 x1 x2 Q) n9) x3 x4 := h
    unfold wp_X1_loadOf_5 at h
    refine J_il F 4 dX1_loadOf_5 rfl ?_
    refine J_bi F dX1_loadOf_7 kb_100 ?_
    refine J_cge F (tgt := 32) dX1_loadOf_9 (by decide) (fun c_1 => ?_) (fun c_1 => ?_)
    · have h := h.1 c_1
      refine J_iln F 3 dX1_loadOf_32 rfl rfl ?_
      exact J_reti F ⟨_, rfl, rfl, h⟩ dX1_loadOf_33
    · have h := h.2 c_1
      refine J_aln F 0 dX1_loadOf_12 rfl rfl ?_
      refine J_il F 4 dX1_loadOf_13 rfl ?_
      refine J_iln F 2 dX1_loadOf_15 rfl rfl ?_
      refine J_iln F 1 dX1_loadOf_16 rfl rfl ?_
      refine J_callVi F (As := [.int x4, .int x2, .int x1]) (st := []) (C_X1_isHeldBy l G a0 x4 x2 x1 y0 h) (ci := 1) y0 (by decide) rfl rfl lm_X1_142 li_X1_isHeldBy ls_X1_isHeldBy ini_X1 lc_X1_isHeldBy hd_X1_isHeldBy (by decide) (Nat.le_of_ble_eq_true rfl) (by decide) rfl dX1_loadOf_17 (fun r_2 σ_3 hh => ?_)
      clear h
      obtain ⟨e9, h⟩ := hh
      subst σ_3
      refine J_zeq F (tgt := 26) dX1_loadOf_20 (by decide) (fun c_4 => ?_) (fun c_4 => ?_)
      · have h := h.1 c_4
        obtain ⟨x4_5, ex4_5⟩ : ∃ z : Int32, z = x4 + (nI 1) := ⟨_, rfl⟩
        have h := h x4_5 ex4_5
        refine J_iinc F (v := x4_5) (L' := [(4, .int x4_5), (0, .ref (gb G + a0)), (1, .int x1), (2, .int x2), (3, .int x3)]) 4 dX1_loadOf_26 rfl (by rw [ki_1, ex4_5]) (by decide) rfl ?_
        refine J_goto F (tgt := 5) dX1_loadOf_29 (by decide) ?_
        refine J_sub [1, 2, 3, 4, 0] rfl ?_
        exact i5 _ _ h
      · have h := h.2 c_4
        obtain ⟨x3_6, ex3_6⟩ : ∃ z : Int32, z = x3 + (nI 1) := ⟨_, rfl⟩
        have h := h x3_6 ex3_6
        refine J_iinc F (v := x3_6) (L' := [(3, .int x3_6), (0, .ref (gb G + a0)), (1, .int x1), (2, .int x2), (4, .int x4)]) 3 dX1_loadOf_23 rfl (by rw [ki_1, ex3_6]) (by decide) rfl ?_
        obtain ⟨x4_7, ex4_7⟩ : ∃ z : Int32, z = x4 + (nI 1) := ⟨_, rfl⟩
        have h := h x4_7 ex4_7
        refine J_iinc F (v := x4_7) (L' := [(4, .int x4_7), (3, .int x3_6), (0, .ref (gb G + a0)), (1, .int x1), (2, .int x2)]) 4 dX1_loadOf_26 rfl (by rw [ki_1, ex4_7]) (by decide) rfl ?_
        refine J_goto F (tgt := 5) dX1_loadOf_29 (by decide) ?_
        refine J_sub [2, 3, 4, 1, 0] rfl ?_
        exact i5 _ _ h
set_option maxRecDepth 20000 in
set_option maxHeartbeats 4000000 in
theorem C_X1_loadOf (l : Launch) (G : Gp) (a0 : Nat) (x1 : Int32) (x2 : Int32) (y0 : lay a0 = (1, 0)) {σ : St} {Q : Int32 → Prop} (h : wp_X1_loadOf σ a0 x1 x2 Q) : Cn l yX1_loadOf cX1_loadOf 5 (some .int) 3 69 G [.ref (gb G + a0), .int x1, .int x2] σ (qI (fun r σ' => σ' = σ ∧ Q r)) := by
  refine Cn_of (L := [(0, .ref (gb G + a0)), (1, .int x1), (2, .int x2)]) RX1 (by decide) rfl (Nat.le_of_ble_eq_true rfl) rfl ?_
  intro p e s m below meth c F
  unfold wp_X1_loadOf at h
  refine J_ic F dX1_loadOf_0 ki_0 ?_
  refine J_isn F (L' := [(3, .int (nI 0)), (0, .ref (gb G + a0)), (1, .int x1), (2, .int x2)]) dX1_loadOf_1 rfl (by decide) rfl ?_
  refine J_ic F dX1_loadOf_2 ki_0 ?_
  refine J_is F (L' := [(4, .int (nI 0)), (3, .int (nI 0)), (0, .ref (gb G + a0)), (1, .int x1), (2, .int x2)]) dX1_loadOf_3 (by decide) rfl ?_
  refine J_sub [2, 3, 4, 1, 0] rfl ?_
  obtain ⟨n9, h⟩ := h
  exact wk_X1_loadOf_5 F y0 n9 _ _ h
theorem dX1_copiesHeldIn_0 : decode cX1_copiesHeldIn 0 = .ok (.iconst 0, 1) := by decide +kernel
theorem dX1_copiesHeldIn_1 : decode cX1_copiesHeldIn 1 = .ok (.istore_n 2, 1) := by decide +kernel
theorem dX1_copiesHeldIn_2 : decode cX1_copiesHeldIn 2 = .ok (.iconst 0, 1) := by decide +kernel
theorem dX1_copiesHeldIn_3 : decode cX1_copiesHeldIn 3 = .ok (.istore_n 3, 1) := by decide +kernel
theorem dX1_copiesHeldIn_4 : decode cX1_copiesHeldIn 4 = .ok (.iload_n 3, 1) := by decide +kernel
theorem dX1_copiesHeldIn_5 : decode cX1_copiesHeldIn 5 = .ok (.bipush 100, 2) := by decide +kernel
theorem dX1_copiesHeldIn_7 : decode cX1_copiesHeldIn 7 = .ok (.if_icmp .ge 21, 3) := by decide +kernel
theorem dX1_copiesHeldIn_10 : decode cX1_copiesHeldIn 10 = .ok (.aload_n 0, 1) := by decide +kernel
theorem dX1_copiesHeldIn_11 : decode cX1_copiesHeldIn 11 = .ok (.iload_n 3, 1) := by decide +kernel
theorem dX1_copiesHeldIn_12 : decode cX1_copiesHeldIn 12 = .ok (.iload_n 1, 1) := by decide +kernel
theorem dX1_copiesHeldIn_13 : decode cX1_copiesHeldIn 13 = .ok (.invokevirtual 176, 3) := by decide +kernel
theorem dX1_copiesHeldIn_16 : decode cX1_copiesHeldIn 16 = .ok (.ifCond .eq 6, 3) := by decide +kernel
theorem dX1_copiesHeldIn_19 : decode cX1_copiesHeldIn 19 = .ok (.iinc 2 1, 3) := by decide +kernel
theorem dX1_copiesHeldIn_22 : decode cX1_copiesHeldIn 22 = .ok (.iinc 3 1, 3) := by decide +kernel
theorem dX1_copiesHeldIn_25 : decode cX1_copiesHeldIn 25 = .ok (.goto (-21), 3) := by decide +kernel
theorem dX1_copiesHeldIn_28 : decode cX1_copiesHeldIn 28 = .ok (.iload_n 2, 1) := by decide +kernel
theorem dX1_copiesHeldIn_29 : decode cX1_copiesHeldIn 29 = .ok (.ireturn, 1) := by decide +kernel
set_option maxRecDepth 20000 in
set_option maxHeartbeats 4000000 in
theorem wk_X1_copiesHeldIn_4 {p : Program} {l : Launch} {e : Env} {s : State} {m : MethodId} {args : Array Value} {below : List Frame} {meth : Method} {c : Code} {G : Gp} {σ : St} {a0 : Nat} {x1 : Int32}  {Q : Int32 → Prop} (F : FX p s m args meth c cX1_copiesHeldIn 4 (some .int) RX1 G) (y0 : lay a0 = (1, 0))  : ∀ (n9 : Nat) (x2 : Int32) (x3 : Int32), LP2 (wp_X1_copiesHeldIn_4 σ a0 x1 Q) n9 x2 x3 → J p l e (rmF 1 22) s m args below meth c 4 G (MQ below (QQ G (qI (fun r σ' => σ' = σ ∧ Q r))) args s 0 0 (fr G)) 0 0 4 [(0, .ref (gb G + a0)), (1, .int x1), (2, .int x2), (3, .int x3)] [] σ := by
  intro n9
  induction n9 with
  | zero => intro x2 x3 h; exact h.elim
  | succ n9 i4 =>
    intro x2 x3 h
    have h : wp_X1_copiesHeldIn_4 σ a0 x1 Q (LP2 (wp_X1_copiesHeldIn_4 σ a0 x1 Q) n9) x2 x3 := h
    unfold wp_X1_copiesHeldIn_4 at h
    refine J_iln F 3 dX1_copiesHeldIn_4 rfl rfl ?_
    refine J_bi F dX1_copiesHeldIn_5 kb_100 ?_
    refine J_cge F (tgt := 28) dX1_copiesHeldIn_7 (by decide) (fun c_1 => ?_) (fun c_1 => ?_)
    · have h := h.1 c_1
      refine J_iln F 2 dX1_copiesHeldIn_28 rfl rfl ?_
      exact J_reti F ⟨_, rfl, rfl, h⟩ dX1_copiesHeldIn_29
    · have h := h.2 c_1
      refine J_aln F 0 dX1_copiesHeldIn_10 rfl rfl ?_
      refine J_iln F 3 dX1_copiesHeldIn_11 rfl rfl ?_
      refine J_iln F 1 dX1_copiesHeldIn_12 rfl rfl ?_
      refine J_callVi F (As := [.int x3, .int x1]) (st := []) (C_X1_isHeld l G a0 x3 x1 y0 h) (ci := 1) y0 (by decide) rfl rfl lm_X1_176 li_X1_isHeld ls_X1_isHeld ini_X1 lc_X1_isHeld hd_X1_isHeld (by decide) (Nat.le_of_ble_eq_true rfl) (by decide) rfl dX1_copiesHeldIn_13 (fun r_2 σ_3 hh => ?_)
      clear h
      obtain ⟨e9, h⟩ := hh
      subst σ_3
      refine J_zeq F (tgt := 22) dX1_copiesHeldIn_16 (by decide) (fun c_4 => ?_) (fun c_4 => ?_)
      · have h := h.1 c_4
        obtain ⟨x3_5, ex3_5⟩ : ∃ z : Int32, z = x3 + (nI 1) := ⟨_, rfl⟩
        have h := h x3_5 ex3_5
        refine J_iinc F (v := x3_5) (L' := [(3, .int x3_5), (0, .ref (gb G + a0)), (1, .int x1), (2, .int x2)]) 3 dX1_copiesHeldIn_22 rfl (by rw [ki_1, ex3_5]) (by decide) rfl ?_
        refine J_goto F (tgt := 4) dX1_copiesHeldIn_25 (by decide) ?_
        refine J_sub [1, 2, 3, 0] rfl ?_
        exact i4 _ _ h
      · have h := h.2 c_4
        obtain ⟨x2_6, ex2_6⟩ : ∃ z : Int32, z = x2 + (nI 1) := ⟨_, rfl⟩
        have h := h x2_6 ex2_6
        refine J_iinc F (v := x2_6) (L' := [(2, .int x2_6), (0, .ref (gb G + a0)), (1, .int x1), (3, .int x3)]) 2 dX1_copiesHeldIn_19 rfl (by rw [ki_1, ex2_6]) (by decide) rfl ?_
        obtain ⟨x3_7, ex3_7⟩ : ∃ z : Int32, z = x3 + (nI 1) := ⟨_, rfl⟩
        have h := h x3_7 ex3_7
        refine J_iinc F (v := x3_7) (L' := [(3, .int x3_7), (2, .int x2_6), (0, .ref (gb G + a0)), (1, .int x1)]) 3 dX1_copiesHeldIn_22 rfl (by rw [ki_1, ex3_7]) (by decide) rfl ?_
        refine J_goto F (tgt := 4) dX1_copiesHeldIn_25 (by decide) ?_
        refine J_sub [2, 3, 1, 0] rfl ?_
        exact i4 _ _ h
set_option maxRecDepth 20000 in
set_option maxHeartbeats 4000000 in
theorem C_X1_copiesHeldIn (l : Launch) (G : Gp) (a0 : Nat) (x1 : Int32) (y0 : lay a0 = (1, 0)) {σ : St} {Q : Int32 → Prop} (h : wp_X1_copiesHeldIn σ a0 x1 Q) : Cn l yX1_copiesHeldIn cX1_copiesHeldIn 4 (some .int) 1 22 G [.ref (gb G + a0), .int x1] σ (qI (fun r σ' => σ' = σ ∧ Q r)) := by
  refine Cn_of (L := [(0, .ref (gb G + a0)), (1, .int x1)]) RX1 (by decide) rfl (Nat.le_of_ble_eq_true rfl) rfl ?_
  intro p e s m below meth c F
  unfold wp_X1_copiesHeldIn at h
  refine J_ic F dX1_copiesHeldIn_0 ki_0 ?_
  refine J_isn F (L' := [(2, .int (nI 0)), (0, .ref (gb G + a0)), (1, .int x1)]) dX1_copiesHeldIn_1 rfl (by decide) rfl ?_
  refine J_ic F dX1_copiesHeldIn_2 ki_0 ?_
  refine J_isn F (L' := [(3, .int (nI 0)), (2, .int (nI 0)), (0, .ref (gb G + a0)), (1, .int x1)]) dX1_copiesHeldIn_3 rfl (by decide) rfl ?_
  refine J_sub [2, 3, 1, 0] rfl ?_
  obtain ⟨n9, h⟩ := h
  exact wk_X1_copiesHeldIn_4 F y0 n9 _ _ h
theorem dX1_keysStored_0 : decode cX1_keysStored 0 = .ok (.iconst 0, 1) := by decide +kernel
theorem dX1_keysStored_1 : decode cX1_keysStored 1 = .ok (.istore_n 1, 1) := by decide +kernel
theorem dX1_keysStored_2 : decode cX1_keysStored 2 = .ok (.iconst 0, 1) := by decide +kernel
theorem dX1_keysStored_3 : decode cX1_keysStored 3 = .ok (.istore_n 2, 1) := by decide +kernel
theorem dX1_keysStored_4 : decode cX1_keysStored 4 = .ok (.iload_n 2, 1) := by decide +kernel
theorem dX1_keysStored_5 : decode cX1_keysStored 5 = .ok (.bipush 100, 2) := by decide +kernel
theorem dX1_keysStored_7 : decode cX1_keysStored 7 = .ok (.if_icmp .ge 22, 3) := by decide +kernel
theorem dX1_keysStored_10 : decode cX1_keysStored 10 = .ok (.aload_n 0, 1) := by decide +kernel
theorem dX1_keysStored_11 : decode cX1_keysStored 11 = .ok (.getfield 33, 3) := by decide +kernel
theorem dX1_keysStored_14 : decode cX1_keysStored 14 = .ok (.iload_n 2, 1) := by decide +kernel
theorem dX1_keysStored_15 : decode cX1_keysStored 15 = .ok (.iaload, 1) := by decide +kernel
theorem dX1_keysStored_16 : decode cX1_keysStored 16 = .ok (.iconst (-1), 1) := by decide +kernel
theorem dX1_keysStored_17 : decode cX1_keysStored 17 = .ok (.if_icmp .eq 6, 3) := by decide +kernel
theorem dX1_keysStored_20 : decode cX1_keysStored 20 = .ok (.iinc 1 1, 3) := by decide +kernel
theorem dX1_keysStored_23 : decode cX1_keysStored 23 = .ok (.iinc 2 1, 3) := by decide +kernel
theorem dX1_keysStored_26 : decode cX1_keysStored 26 = .ok (.goto (-22), 3) := by decide +kernel
theorem dX1_keysStored_29 : decode cX1_keysStored 29 = .ok (.iload_n 1, 1) := by decide +kernel
theorem dX1_keysStored_30 : decode cX1_keysStored 30 = .ok (.ireturn, 1) := by decide +kernel
set_option maxRecDepth 20000 in
set_option maxHeartbeats 4000000 in
theorem wk_X1_keysStored_4 {p : Program} {l : Launch} {e : Env} {s : State} {m : MethodId} {args : Array Value} {below : List Frame} {meth : Method} {c : Code} {G : Gp} {σ : St} {a0 : Nat}  {Q : Int32 → Prop} (F : FX p s m args meth c cX1_keysStored 3 (some .int) RX1 G) (y0 : lay a0 = (1, 0))  : ∀ (n9 : Nat) (x1 : Int32) (x2 : Int32), LP2 (wp_X1_keysStored_4 σ a0 Q) n9 x1 x2 → J p l e (rmF 0 0) s m args below meth c 3 G (MQ below (QQ G (qI (fun r σ' => σ' = σ ∧ Q r))) args s 0 0 (fr G)) 0 0 4 [(0, .ref (gb G + a0)), (1, .int x1), (2, .int x2)] [] σ := by
  intro n9
  induction n9 with
  | zero => intro x1 x2 h; exact h.elim
  | succ n9 i4 =>
    intro x1 x2 h
    have h : wp_X1_keysStored_4 σ a0 Q (LP2 (wp_X1_keysStored_4 σ a0 Q) n9) x1 x2 := h
    unfold wp_X1_keysStored_4 at h
    refine J_iln F 2 dX1_keysStored_4 rfl rfl ?_
    refine J_bi F dX1_keysStored_5 kb_100 ?_
    refine J_cge F (tgt := 29) dX1_keysStored_7 (by decide) (fun c_1 => ?_) (fun c_1 => ?_)
    · have h := h.1 c_1
      refine J_iln F 1 dX1_keysStored_29 rfl rfl ?_
      exact J_reti F ⟨_, rfl, rfl, h⟩ dX1_keysStored_30
    · have h := h.2 c_1
      refine J_aln F 0 dX1_keysStored_10 rfl rfl ?_
      refine J_gfr F (ci := 1) 6 rfl inX1 y0 (by decide) (by decide) rfl lf_X1_33 rfl dX1_keysStored_11 ?_
      refine J_iln F 2 dX1_keysStored_14 rfl rfl ?_
      obtain ⟨h_2, h⟩ := h
      refine J_iald F (lay_net y0).2.2.2.2.2.2.1 h_2 dX1_keysStored_15 ?_
      refine J_ic F dX1_keysStored_16 ki_m1 ?_
      refine J_ceq F (tgt := 23) dX1_keysStored_17 (by decide) (fun c_3 => ?_) (fun c_3 => ?_)
      · have h := h.1 c_3
        obtain ⟨x2_4, ex2_4⟩ : ∃ z : Int32, z = x2 + (nI 1) := ⟨_, rfl⟩
        have h := h x2_4 ex2_4
        refine J_iinc F (v := x2_4) (L' := [(2, .int x2_4), (0, .ref (gb G + a0)), (1, .int x1)]) 2 dX1_keysStored_23 rfl (by rw [ki_1, ex2_4]) (by decide) rfl ?_
        refine J_goto F (tgt := 4) dX1_keysStored_26 (by decide) ?_
        refine J_sub [1, 2, 0] rfl ?_
        exact i4 _ _ h
      · have h := h.2 c_3
        obtain ⟨x1_5, ex1_5⟩ : ∃ z : Int32, z = x1 + (nI 1) := ⟨_, rfl⟩
        have h := h x1_5 ex1_5
        refine J_iinc F (v := x1_5) (L' := [(1, .int x1_5), (0, .ref (gb G + a0)), (2, .int x2)]) 1 dX1_keysStored_20 rfl (by rw [ki_1, ex1_5]) (by decide) rfl ?_
        obtain ⟨x2_6, ex2_6⟩ : ∃ z : Int32, z = x2 + (nI 1) := ⟨_, rfl⟩
        have h := h x2_6 ex2_6
        refine J_iinc F (v := x2_6) (L' := [(2, .int x2_6), (1, .int x1_5), (0, .ref (gb G + a0))]) 2 dX1_keysStored_23 rfl (by rw [ki_1, ex2_6]) (by decide) rfl ?_
        refine J_goto F (tgt := 4) dX1_keysStored_26 (by decide) ?_
        refine J_sub [2, 1, 0] rfl ?_
        exact i4 _ _ h
set_option maxRecDepth 20000 in
set_option maxHeartbeats 4000000 in
theorem C_X1_keysStored (l : Launch) (G : Gp) (a0 : Nat) (y0 : lay a0 = (1, 0)) {σ : St} {Q : Int32 → Prop} (h : wp_X1_keysStored σ a0 Q) : Cn l yX1_keysStored cX1_keysStored 3 (some .int) 0 0 G [.ref (gb G + a0)] σ (qI (fun r σ' => σ' = σ ∧ Q r)) := by
  refine Cn_of (L := [(0, .ref (gb G + a0))]) RX1 (by decide) rfl (Nat.le_of_ble_eq_true rfl) rfl ?_
  intro p e s m below meth c F
  unfold wp_X1_keysStored at h
  refine J_ic F dX1_keysStored_0 ki_0 ?_
  refine J_isn F (L' := [(1, .int (nI 0)), (0, .ref (gb G + a0))]) dX1_keysStored_1 rfl (by decide) rfl ?_
  refine J_ic F dX1_keysStored_2 ki_0 ?_
  refine J_isn F (L' := [(2, .int (nI 0)), (1, .int (nI 0)), (0, .ref (gb G + a0))]) dX1_keysStored_3 rfl (by decide) rfl ?_
  refine J_sub [2, 1, 0] rfl ?_
  obtain ⟨n9, h⟩ := h
  exact wk_X1_keysStored_4 F y0 n9 _ _ h
theorem dX1_keysSafe_0 : decode cX1_keysSafe 0 = .ok (.iconst 1, 1) := by decide +kernel
theorem dX1_keysSafe_1 : decode cX1_keysSafe 1 = .ok (.aload_n 0, 1) := by decide +kernel
theorem dX1_keysSafe_2 : decode cX1_keysSafe 2 = .ok (.getfield 43, 3) := by decide +kernel
theorem dX1_keysSafe_5 : decode cX1_keysSafe 5 = .ok (.ishl, 1) := by decide +kernel
theorem dX1_keysSafe_6 : decode cX1_keysSafe 6 = .ok (.iconst 1, 1) := by decide +kernel
theorem dX1_keysSafe_7 : decode cX1_keysSafe 7 = .ok (.isub, 1) := by decide +kernel
theorem dX1_keysSafe_8 : decode cX1_keysSafe 8 = .ok (.istore_n 1, 1) := by decide +kernel
theorem dX1_keysSafe_9 : decode cX1_keysSafe 9 = .ok (.iconst 0, 1) := by decide +kernel
theorem dX1_keysSafe_10 : decode cX1_keysSafe 10 = .ok (.istore_n 2, 1) := by decide +kernel
theorem dX1_keysSafe_11 : decode cX1_keysSafe 11 = .ok (.iconst 0, 1) := by decide +kernel
theorem dX1_keysSafe_12 : decode cX1_keysSafe 12 = .ok (.istore_n 3, 1) := by decide +kernel
theorem dX1_keysSafe_13 : decode cX1_keysSafe 13 = .ok (.iload_n 3, 1) := by decide +kernel
theorem dX1_keysSafe_14 : decode cX1_keysSafe 14 = .ok (.bipush 100, 2) := by decide +kernel
theorem dX1_keysSafe_16 : decode cX1_keysSafe 16 = .ok (.if_icmp .ge 22, 3) := by decide +kernel
theorem dX1_keysSafe_19 : decode cX1_keysSafe 19 = .ok (.aload_n 0, 1) := by decide +kernel
theorem dX1_keysSafe_20 : decode cX1_keysSafe 20 = .ok (.getfield 36, 3) := by decide +kernel
theorem dX1_keysSafe_23 : decode cX1_keysSafe 23 = .ok (.iload_n 3, 1) := by decide +kernel
theorem dX1_keysSafe_24 : decode cX1_keysSafe 24 = .ok (.iaload, 1) := by decide +kernel
theorem dX1_keysSafe_25 : decode cX1_keysSafe 25 = .ok (.iload_n 1, 1) := by decide +kernel
theorem dX1_keysSafe_26 : decode cX1_keysSafe 26 = .ok (.if_icmp .ne 6, 3) := by decide +kernel
theorem dX1_keysSafe_29 : decode cX1_keysSafe 29 = .ok (.iinc 2 1, 3) := by decide +kernel
theorem dX1_keysSafe_32 : decode cX1_keysSafe 32 = .ok (.iinc 3 1, 3) := by decide +kernel
theorem dX1_keysSafe_35 : decode cX1_keysSafe 35 = .ok (.goto (-22), 3) := by decide +kernel
theorem dX1_keysSafe_38 : decode cX1_keysSafe 38 = .ok (.iload_n 2, 1) := by decide +kernel
theorem dX1_keysSafe_39 : decode cX1_keysSafe 39 = .ok (.ireturn, 1) := by decide +kernel
set_option maxRecDepth 20000 in
set_option maxHeartbeats 4000000 in
theorem wk_X1_keysSafe_13 {p : Program} {l : Launch} {e : Env} {s : State} {m : MethodId} {args : Array Value} {below : List Frame} {meth : Method} {c : Code} {G : Gp} {σ : St} {a0 : Nat} {x1 : Int32}  {Q : Int32 → Prop} (F : FX p s m args meth c cX1_keysSafe 4 (some .int) RX1 G) (y0 : lay a0 = (1, 0))  : ∀ (n9 : Nat) (x2 : Int32) (x3 : Int32), LP2 (wp_X1_keysSafe_13 σ a0 x1 Q) n9 x2 x3 → J p l e (rmF 0 0) s m args below meth c 4 G (MQ below (QQ G (qI (fun r σ' => σ' = σ ∧ Q r))) args s 0 0 (fr G)) 0 0 13 [(0, .ref (gb G + a0)), (1, .int x1), (2, .int x2), (3, .int x3)] [] σ := by
  intro n9
  induction n9 with
  | zero => intro x2 x3 h; exact h.elim
  | succ n9 i13 =>
    intro x2 x3 h
    have h : wp_X1_keysSafe_13 σ a0 x1 Q (LP2 (wp_X1_keysSafe_13 σ a0 x1 Q) n9) x2 x3 := h
    unfold wp_X1_keysSafe_13 at h
    refine J_iln F 3 dX1_keysSafe_13 rfl rfl ?_
    refine J_bi F dX1_keysSafe_14 kb_100 ?_
    refine J_cge F (tgt := 38) dX1_keysSafe_16 (by decide) (fun c_1 => ?_) (fun c_1 => ?_)
    · have h := h.1 c_1
      refine J_iln F 2 dX1_keysSafe_38 rfl rfl ?_
      exact J_reti F ⟨_, rfl, rfl, h⟩ dX1_keysSafe_39
    · have h := h.2 c_1
      refine J_aln F 0 dX1_keysSafe_19 rfl rfl ?_
      refine J_gfr F (ci := 1) 7 rfl inX1 y0 (by decide) (by decide) rfl lf_X1_36 rfl dX1_keysSafe_20 ?_
      refine J_iln F 3 dX1_keysSafe_23 rfl rfl ?_
      obtain ⟨h_2, h⟩ := h
      refine J_iald F (lay_net y0).2.2.2.2.2.2.2.1 h_2 dX1_keysSafe_24 ?_
      refine J_iln F 1 dX1_keysSafe_25 rfl rfl ?_
      refine J_cne F (tgt := 32) dX1_keysSafe_26 (by decide) (fun c_3 => ?_) (fun c_3 => ?_)
      · have h := h.1 c_3
        obtain ⟨x3_4, ex3_4⟩ : ∃ z : Int32, z = x3 + (nI 1) := ⟨_, rfl⟩
        have h := h x3_4 ex3_4
        refine J_iinc F (v := x3_4) (L' := [(3, .int x3_4), (0, .ref (gb G + a0)), (1, .int x1), (2, .int x2)]) 3 dX1_keysSafe_32 rfl (by rw [ki_1, ex3_4]) (by decide) rfl ?_
        refine J_goto F (tgt := 13) dX1_keysSafe_35 (by decide) ?_
        refine J_sub [1, 2, 3, 0] rfl ?_
        exact i13 _ _ h
      · have h := h.2 c_3
        obtain ⟨x2_5, ex2_5⟩ : ∃ z : Int32, z = x2 + (nI 1) := ⟨_, rfl⟩
        have h := h x2_5 ex2_5
        refine J_iinc F (v := x2_5) (L' := [(2, .int x2_5), (0, .ref (gb G + a0)), (1, .int x1), (3, .int x3)]) 2 dX1_keysSafe_29 rfl (by rw [ki_1, ex2_5]) (by decide) rfl ?_
        obtain ⟨x3_6, ex3_6⟩ : ∃ z : Int32, z = x3 + (nI 1) := ⟨_, rfl⟩
        have h := h x3_6 ex3_6
        refine J_iinc F (v := x3_6) (L' := [(3, .int x3_6), (2, .int x2_5), (0, .ref (gb G + a0)), (1, .int x1)]) 3 dX1_keysSafe_32 rfl (by rw [ki_1, ex3_6]) (by decide) rfl ?_
        refine J_goto F (tgt := 13) dX1_keysSafe_35 (by decide) ?_
        refine J_sub [2, 3, 1, 0] rfl ?_
        exact i13 _ _ h
set_option maxRecDepth 20000 in
set_option maxHeartbeats 4000000 in
theorem C_X1_keysSafe (l : Launch) (G : Gp) (a0 : Nat) (y0 : lay a0 = (1, 0)) {σ : St} {Q : Int32 → Prop} (h : wp_X1_keysSafe σ a0 Q) : Cn l yX1_keysSafe cX1_keysSafe 4 (some .int) 0 0 G [.ref (gb G + a0)] σ (qI (fun r σ' => σ' = σ ∧ Q r)) := by
  refine Cn_of (L := [(0, .ref (gb G + a0))]) RX1 (by decide) rfl (Nat.le_of_ble_eq_true rfl) rfl ?_
  intro p e s m below meth c F
  unfold wp_X1_keysSafe at h
  refine J_ic F dX1_keysSafe_0 ki_1 ?_
  refine J_aln F 0 dX1_keysSafe_1 rfl rfl ?_
  refine J_gfi F (ci := 1) 9 rfl inX1 y0 (by decide) (by decide) rfl lf_X1_43 rfl dX1_keysSafe_2 ?_
  refine J_ishl F dX1_keysSafe_5 ?_
  refine J_ic F dX1_keysSafe_6 ki_1 ?_
  refine J_isub F dX1_keysSafe_7 ?_
  refine J_top (fun x1_7 ex1_7 => ?_)
  have h := h x1_7 ex1_7
  refine J_isn F (L' := [(1, .int x1_7), (0, .ref (gb G + a0))]) dX1_keysSafe_8 rfl (by decide) rfl ?_
  refine J_ic F dX1_keysSafe_9 ki_0 ?_
  refine J_isn F (L' := [(2, .int (nI 0)), (1, .int x1_7), (0, .ref (gb G + a0))]) dX1_keysSafe_10 rfl (by decide) rfl ?_
  refine J_ic F dX1_keysSafe_11 ki_0 ?_
  refine J_isn F (L' := [(3, .int (nI 0)), (2, .int (nI 0)), (1, .int x1_7), (0, .ref (gb G + a0))]) dX1_keysSafe_12 rfl (by decide) rfl ?_
  refine J_sub [3, 2, 1, 0] rfl ?_
  obtain ⟨n9, h⟩ := h
  exact wk_X1_keysSafe_13 F y0 n9 _ _ h
theorem dX1_copiesLost_0 : decode cX1_copiesLost 0 = .ok (.aload_n 0, 1) := by decide +kernel
theorem dX1_copiesLost_1 : decode cX1_copiesLost 1 = .ok (.invokevirtual 180, 3) := by decide +kernel
theorem dX1_copiesLost_4 : decode cX1_copiesLost 4 = .ok (.aload_n 0, 1) := by decide +kernel
theorem dX1_copiesLost_5 : decode cX1_copiesLost 5 = .ok (.getfield 43, 3) := by decide +kernel
theorem dX1_copiesLost_8 : decode cX1_copiesLost 8 = .ok (.imul, 1) := by decide +kernel
theorem dX1_copiesLost_9 : decode cX1_copiesLost 9 = .ok (.istore_n 1, 1) := by decide +kernel
theorem dX1_copiesLost_10 : decode cX1_copiesLost 10 = .ok (.iconst 0, 1) := by decide +kernel
theorem dX1_copiesLost_11 : decode cX1_copiesLost 11 = .ok (.istore_n 2, 1) := by decide +kernel
theorem dX1_copiesLost_12 : decode cX1_copiesLost 12 = .ok (.iload_n 2, 1) := by decide +kernel
theorem dX1_copiesLost_13 : decode cX1_copiesLost 13 = .ok (.bipush 100, 2) := by decide +kernel
theorem dX1_copiesLost_15 : decode cX1_copiesLost 15 = .ok (.if_icmp .ge 21, 3) := by decide +kernel
theorem dX1_copiesLost_18 : decode cX1_copiesLost 18 = .ok (.iload_n 1, 1) := by decide +kernel
theorem dX1_copiesLost_19 : decode cX1_copiesLost 19 = .ok (.aload_n 0, 1) := by decide +kernel
theorem dX1_copiesLost_20 : decode cX1_copiesLost 20 = .ok (.getfield 36, 3) := by decide +kernel
theorem dX1_copiesLost_23 : decode cX1_copiesLost 23 = .ok (.iload_n 2, 1) := by decide +kernel
theorem dX1_copiesLost_24 : decode cX1_copiesLost 24 = .ok (.iaload, 1) := by decide +kernel
theorem dX1_copiesLost_25 : decode cX1_copiesLost 25 = .ok (.invokestatic 137, 3) := by decide +kernel
theorem dX1_copiesLost_28 : decode cX1_copiesLost 28 = .ok (.isub, 1) := by decide +kernel
theorem dX1_copiesLost_29 : decode cX1_copiesLost 29 = .ok (.istore_n 1, 1) := by decide +kernel
theorem dX1_copiesLost_30 : decode cX1_copiesLost 30 = .ok (.iinc 2 1, 3) := by decide +kernel
theorem dX1_copiesLost_33 : decode cX1_copiesLost 33 = .ok (.goto (-21), 3) := by decide +kernel
theorem dX1_copiesLost_36 : decode cX1_copiesLost 36 = .ok (.iload_n 1, 1) := by decide +kernel
theorem dX1_copiesLost_37 : decode cX1_copiesLost 37 = .ok (.ireturn, 1) := by decide +kernel
set_option maxRecDepth 20000 in
set_option maxHeartbeats 4000000 in
theorem wk_X1_copiesLost_12 {p : Program} {l : Launch} {e : Env} {s : State} {m : MethodId} {args : Array Value} {below : List Frame} {meth : Method} {c : Code} {G : Gp} {σ : St} {a0 : Nat}  {Q : Int32 → Prop} (F : FX p s m args meth c cX1_copiesLost 3 (some .int) RX1 G) (y0 : lay a0 = (1, 0))  : ∀ (n9 : Nat) (x1 : Int32) (x2 : Int32), LP2 (wp_X1_copiesLost_12 σ a0 Q) n9 x1 x2 → J p l e (rmF 1 22) s m args below meth c 3 G (MQ below (QQ G (qI (fun r σ' => σ' = σ ∧ Q r))) args s 0 0 (fr G)) 0 0 12 [(0, .ref (gb G + a0)), (1, .int x1), (2, .int x2)] [] σ := by
  intro n9
  induction n9 with
  | zero => intro x1 x2 h; exact h.elim
  | succ n9 i12 =>
    intro x1 x2 h
    have h : wp_X1_copiesLost_12 σ a0 Q (LP2 (wp_X1_copiesLost_12 σ a0 Q) n9) x1 x2 := h
    unfold wp_X1_copiesLost_12 at h
    refine J_iln F 2 dX1_copiesLost_12 rfl rfl ?_
    refine J_bi F dX1_copiesLost_13 kb_100 ?_
    refine J_cge F (tgt := 36) dX1_copiesLost_15 (by decide) (fun c_1 => ?_) (fun c_1 => ?_)
    · have h := h.1 c_1
      refine J_iln F 1 dX1_copiesLost_36 rfl rfl ?_
      exact J_reti F ⟨_, rfl, rfl, h⟩ dX1_copiesLost_37
    · have h := h.2 c_1
      refine J_iln F 1 dX1_copiesLost_18 rfl rfl ?_
      refine J_aln F 0 dX1_copiesLost_19 rfl rfl ?_
      refine J_gfr F (ci := 1) 7 rfl inX1 y0 (by decide) (by decide) rfl lf_X1_36 rfl dX1_copiesLost_20 ?_
      refine J_iln F 2 dX1_copiesLost_23 rfl rfl ?_
      obtain ⟨h_2, h⟩ := h
      refine J_iald F (lay_net y0).2.2.2.2.2.2.2.1 h_2 dX1_copiesLost_24 ?_
      refine J_callSi F (As := [.int (σ (a0 + 8) (Int32.toNatClampNeg x2))]) (st := [.int x1]) (C_J6_bitCount_0f7a4 l G (σ (a0 + 8) (Int32.toNatClampNeg x2))  h) lm_X1_137 li_J6_bitCount_0f7a4 ini_J6 lc_J6_bitCount_0f7a4 hd_J6_bitCount_0f7a4 (by decide) (Nat.le_of_ble_eq_true rfl) (by decide) rfl dX1_copiesLost_25 (fun r_3 σ_4 hh => ?_)
      clear h
      obtain ⟨e9, h⟩ := hh
      subst σ_4
      refine J_isub F dX1_copiesLost_28 ?_
      refine J_top (fun x1_5 ex1_5 => ?_)
      have h := h x1_5 ex1_5
      refine J_isn F (L' := [(1, .int x1_5), (0, .ref (gb G + a0)), (2, .int x2)]) dX1_copiesLost_29 rfl (by decide) rfl ?_
      obtain ⟨x2_6, ex2_6⟩ : ∃ z : Int32, z = x2 + (nI 1) := ⟨_, rfl⟩
      have h := h x2_6 ex2_6
      refine J_iinc F (v := x2_6) (L' := [(2, .int x2_6), (1, .int x1_5), (0, .ref (gb G + a0))]) 2 dX1_copiesLost_30 rfl (by rw [ki_1, ex2_6]) (by decide) rfl ?_
      refine J_goto F (tgt := 12) dX1_copiesLost_33 (by decide) ?_
      refine J_sub [2, 1, 0] rfl ?_
      exact i12 _ _ h
set_option maxRecDepth 20000 in
set_option maxHeartbeats 4000000 in
theorem C_X1_copiesLost (l : Launch) (G : Gp) (a0 : Nat) (y0 : lay a0 = (1, 0)) {σ : St} {Q : Int32 → Prop} (h : wp_X1_copiesLost σ a0 Q) : Cn l yX1_copiesLost cX1_copiesLost 3 (some .int) 1 22 G [.ref (gb G + a0)] σ (qI (fun r σ' => σ' = σ ∧ Q r)) := by
  refine Cn_of (L := [(0, .ref (gb G + a0))]) RX1 (by decide) rfl (Nat.le_of_ble_eq_true rfl) rfl ?_
  intro p e s m below meth c F
  unfold wp_X1_copiesLost at h
  refine J_aln F 0 dX1_copiesLost_0 rfl rfl ?_
  refine J_callVi F (As := []) (st := []) (C_X1_keysStored l G a0 y0 h) (ci := 1) y0 (by decide) rfl rfl lm_X1_180 li_X1_keysStored ls_X1_keysStored ini_X1 lc_X1_keysStored hd_X1_keysStored (by decide) (Nat.le_of_ble_eq_true rfl) (by decide) rfl dX1_copiesLost_1 (fun r_7 σ_8 hh => ?_)
  clear h
  obtain ⟨e9, h⟩ := hh
  subst σ_8
  refine J_aln F 0 dX1_copiesLost_4 rfl rfl ?_
  refine J_gfi F (ci := 1) 9 rfl inX1 y0 (by decide) (by decide) rfl lf_X1_43 rfl dX1_copiesLost_5 ?_
  refine J_imul F dX1_copiesLost_8 ?_
  refine J_top (fun x1_9 ex1_9 => ?_)
  have h := h x1_9 ex1_9
  refine J_isn F (L' := [(1, .int x1_9), (0, .ref (gb G + a0))]) dX1_copiesLost_9 rfl (by decide) rfl ?_
  refine J_ic F dX1_copiesLost_10 ki_0 ?_
  refine J_isn F (L' := [(2, .int (nI 0)), (1, .int x1_9), (0, .ref (gb G + a0))]) dX1_copiesLost_11 rfl (by decide) rfl ?_
  refine J_sub [2, 1, 0] rfl ?_
  obtain ⟨n9, h⟩ := h
  exact wk_X1_copiesLost_12 F y0 n9 _ _ h
theorem dX2_keep_0 : decode cX2_keep 0 = .ok (.aload_n 0, 1) := by decide +kernel
theorem dX2_keep_1 : decode cX2_keep 1 = .ok (.getfield 11, 3) := by decide +kernel
theorem dX2_keep_4 : decode cX2_keep 4 = .ok (.aload_n 0, 1) := by decide +kernel
theorem dX2_keep_5 : decode cX2_keep 5 = .ok (.getfield 17, 3) := by decide +kernel
theorem dX2_keep_8 : decode cX2_keep 8 = .ok (.aload_n 0, 1) := by decide +kernel
theorem dX2_keep_9 : decode cX2_keep 9 = .ok (.getfield 21, 3) := by decide +kernel
theorem dX2_keep_12 : decode cX2_keep 12 = .ok (.iadd, 1) := by decide +kernel
theorem dX2_keep_13 : decode cX2_keep 13 = .ok (.bipush 8, 2) := by decide +kernel
theorem dX2_keep_15 : decode cX2_keep 15 = .ok (.irem, 1) := by decide +kernel
theorem dX2_keep_16 : decode cX2_keep 16 = .ok (.aaload, 1) := by decide +kernel
theorem dX2_keep_17 : decode cX2_keep 17 = .ok (.aload_n 1, 1) := by decide +kernel
theorem dX2_keep_18 : decode cX2_keep 18 = .ok (.invokevirtual 25, 3) := by decide +kernel
theorem dX2_keep_21 : decode cX2_keep 21 = .ok (.aload_n 0, 1) := by decide +kernel
theorem dX2_keep_22 : decode cX2_keep 22 = .ok (.getfield 21, 3) := by decide +kernel
theorem dX2_keep_25 : decode cX2_keep 25 = .ok (.bipush 8, 2) := by decide +kernel
theorem dX2_keep_27 : decode cX2_keep 27 = .ok (.if_icmp .ge 16, 3) := by decide +kernel
theorem dX2_keep_30 : decode cX2_keep 30 = .ok (.aload_n 0, 1) := by decide +kernel
theorem dX2_keep_31 : decode cX2_keep 31 = .ok (.dup, 1) := by decide +kernel
theorem dX2_keep_32 : decode cX2_keep 32 = .ok (.getfield 21, 3) := by decide +kernel
theorem dX2_keep_35 : decode cX2_keep 35 = .ok (.iconst 1, 1) := by decide +kernel
theorem dX2_keep_36 : decode cX2_keep 36 = .ok (.iadd, 1) := by decide +kernel
theorem dX2_keep_37 : decode cX2_keep 37 = .ok (.putfield 21, 3) := by decide +kernel
theorem dX2_keep_40 : decode cX2_keep 40 = .ok (.goto 16, 3) := by decide +kernel
theorem dX2_keep_43 : decode cX2_keep 43 = .ok (.aload_n 0, 1) := by decide +kernel
theorem dX2_keep_44 : decode cX2_keep 44 = .ok (.aload_n 0, 1) := by decide +kernel
theorem dX2_keep_45 : decode cX2_keep 45 = .ok (.getfield 17, 3) := by decide +kernel
theorem dX2_keep_48 : decode cX2_keep 48 = .ok (.iconst 1, 1) := by decide +kernel
theorem dX2_keep_49 : decode cX2_keep 49 = .ok (.iadd, 1) := by decide +kernel
theorem dX2_keep_50 : decode cX2_keep 50 = .ok (.bipush 8, 2) := by decide +kernel
theorem dX2_keep_52 : decode cX2_keep 52 = .ok (.irem, 1) := by decide +kernel
theorem dX2_keep_53 : decode cX2_keep 53 = .ok (.putfield 17, 3) := by decide +kernel
theorem dX2_keep_56 : decode cX2_keep 56 = .ok (.return_, 1) := by decide +kernel
set_option maxRecDepth 20000 in
set_option maxHeartbeats 4000000 in
theorem C_X2_keep (l : Launch) (G : Gp) (a1 : Nat) (y1 : lay a1 = (1, 0)) {σ : St} {Q : St → Prop} (h : wp_X2_keep σ a1 Q) : Cn l yX2_keep cX2_keep 2 none 3 107 G [.ref (gb G + 6), .ref (gb G + a1)] σ (qV Q) := by
  refine Cn_of (L := [(0, .ref (gb G + 6)), (1, .ref (gb G + a1))]) RX2 (by decide) rfl (Nat.le_of_ble_eq_true rfl) rfl ?_
  intro p e s m below meth c F
  unfold wp_X2_keep at h
  refine J_aln F 0 dX2_keep_0 rfl rfl ?_
  refine J_gfa F (ci := 2) 0 rfl inX2 ly_6 (by decide) (by decide) rfl lf_X2_11 rfl dX2_keep_1 ?_
  refine J_aln F 0 dX2_keep_4 rfl rfl ?_
  refine J_gfi F (ci := 2) 1 rfl inX2 ly_6 (by decide) (by decide) rfl lf_X2_17 rfl dX2_keep_5 ?_
  refine J_aln F 0 dX2_keep_8 rfl rfl ?_
  refine J_gfi F (ci := 2) 2 rfl inX2 ly_6 (by decide) (by decide) rfl lf_X2_21 rfl dX2_keep_9 ?_
  refine J_iadd F dX2_keep_12 ?_
  refine J_bi F dX2_keep_13 kb_8 ?_
  refine J_irem F dX2_keep_15 nz_8 ?_
  obtain ⟨h_1, h⟩ := h
  refine J_aldN F ly_7 h_1 dX2_keep_16 ?_
  refine J_aln F 1 dX2_keep_17 rfl rfl ?_
  refine J_callVv F (As := [.ref (gb G + a1)]) (st := []) (C_X1_copyFrom l G (8 + 21 * Int32.toNatClampNeg (((σ 6 1) + (σ 6 2)) - ((σ 6 1) + (σ 6 2)) / (nI 8) * (nI 8))) a1 (lay_pn h_1) y1 h) (ci := 1) (lay_pn h_1) (by decide) rfl rfl lm_X2_25 li_X1_copyFrom ls_X1_copyFrom ini_X1 lc_X1_copyFrom hd_X1_copyFrom (by decide) (Nat.le_of_ble_eq_true rfl) (by decide) rfl dX2_keep_18 (fun σ_2 h => ?_)
  refine J_aln F 0 dX2_keep_21 rfl rfl ?_
  refine J_gfi F (ci := 2) 2 rfl inX2 ly_6 (by decide) (by decide) rfl lf_X2_21 rfl dX2_keep_22 ?_
  refine J_bi F dX2_keep_25 kb_8 ?_
  refine J_cge F (tgt := 43) dX2_keep_27 (by decide) (fun c_3 => ?_) (fun c_3 => ?_)
  · have h := h.1 c_3
    refine J_aln F 0 dX2_keep_43 rfl rfl ?_
    refine J_aln F 0 dX2_keep_44 rfl rfl ?_
    refine J_gfi F (ci := 2) 1 rfl inX2 ly_6 (by decide) (by decide) rfl lf_X2_17 rfl dX2_keep_45 ?_
    refine J_ic F dX2_keep_48 ki_1 ?_
    refine J_iadd F dX2_keep_49 ?_
    refine J_bi F dX2_keep_50 kb_8 ?_
    refine J_irem F dX2_keep_52 nz_8 ?_
    refine J_pfi F (ci := 2) 1 rfl inX2 tyX2 tyX2_ok nmX2 ly_6 (by decide) (by decide) rfl lf_X2_17 rfl rfl (tyX2_ok 1 (by decide)) rfl rfl dX2_keep_53 ?_
    refine J_st (fun σ_4 eσ_4 => ?_)
    have h := h σ_4 eσ_4
    exact J_retv F ⟨rfl, h⟩ dX2_keep_56
  · have h := h.2 c_3
    refine J_aln F 0 dX2_keep_30 rfl rfl ?_
    refine J_dup F dX2_keep_31 rfl ?_
    refine J_gfi F (ci := 2) 2 rfl inX2 ly_6 (by decide) (by decide) rfl lf_X2_21 rfl dX2_keep_32 ?_
    refine J_ic F dX2_keep_35 ki_1 ?_
    refine J_iadd F dX2_keep_36 ?_
    refine J_pfi F (ci := 2) 2 rfl inX2 tyX2 tyX2_ok nmX2 ly_6 (by decide) (by decide) rfl lf_X2_21 rfl rfl (tyX2_ok 2 (by decide)) rfl rfl dX2_keep_37 ?_
    refine J_st (fun σ_5 eσ_5 => ?_)
    have h := h σ_5 eσ_5
    refine J_goto F (tgt := 56) dX2_keep_40 (by decide) ?_
    exact J_retv F ⟨rfl, h⟩ dX2_keep_56
theorem dX2_takeBack_0 : decode cX2_takeBack 0 = .ok (.aload_n 0, 1) := by decide +kernel
theorem dX2_takeBack_1 : decode cX2_takeBack 1 = .ok (.getfield 21, 3) := by decide +kernel
theorem dX2_takeBack_4 : decode cX2_takeBack 4 = .ok (.ifCond .le 34, 3) := by decide +kernel
theorem dX2_takeBack_7 : decode cX2_takeBack 7 = .ok (.aload_n 0, 1) := by decide +kernel
theorem dX2_takeBack_8 : decode cX2_takeBack 8 = .ok (.dup, 1) := by decide +kernel
theorem dX2_takeBack_9 : decode cX2_takeBack 9 = .ok (.getfield 21, 3) := by decide +kernel
theorem dX2_takeBack_12 : decode cX2_takeBack 12 = .ok (.iconst 1, 1) := by decide +kernel
theorem dX2_takeBack_13 : decode cX2_takeBack 13 = .ok (.isub, 1) := by decide +kernel
theorem dX2_takeBack_14 : decode cX2_takeBack 14 = .ok (.putfield 21, 3) := by decide +kernel
theorem dX2_takeBack_17 : decode cX2_takeBack 17 = .ok (.aload_n 1, 1) := by decide +kernel
theorem dX2_takeBack_18 : decode cX2_takeBack 18 = .ok (.aload_n 0, 1) := by decide +kernel
theorem dX2_takeBack_19 : decode cX2_takeBack 19 = .ok (.getfield 11, 3) := by decide +kernel
theorem dX2_takeBack_22 : decode cX2_takeBack 22 = .ok (.aload_n 0, 1) := by decide +kernel
theorem dX2_takeBack_23 : decode cX2_takeBack 23 = .ok (.getfield 17, 3) := by decide +kernel
theorem dX2_takeBack_26 : decode cX2_takeBack 26 = .ok (.aload_n 0, 1) := by decide +kernel
theorem dX2_takeBack_27 : decode cX2_takeBack 27 = .ok (.getfield 21, 3) := by decide +kernel
theorem dX2_takeBack_30 : decode cX2_takeBack 30 = .ok (.iadd, 1) := by decide +kernel
theorem dX2_takeBack_31 : decode cX2_takeBack 31 = .ok (.bipush 8, 2) := by decide +kernel
theorem dX2_takeBack_33 : decode cX2_takeBack 33 = .ok (.irem, 1) := by decide +kernel
theorem dX2_takeBack_34 : decode cX2_takeBack 34 = .ok (.aaload, 1) := by decide +kernel
theorem dX2_takeBack_35 : decode cX2_takeBack 35 = .ok (.invokevirtual 25, 3) := by decide +kernel
theorem dX2_takeBack_38 : decode cX2_takeBack 38 = .ok (.return_, 1) := by decide +kernel
set_option maxRecDepth 20000 in
set_option maxHeartbeats 4000000 in
theorem C_X2_takeBack (l : Launch) (G : Gp) (a1 : Nat) (y1 : lay a1 = (1, 0)) {σ : St} {Q : St → Prop} (h : wp_X2_takeBack σ a1 Q) : Cn l yX2_takeBack cX2_takeBack 2 none 3 107 G [.ref (gb G + 6), .ref (gb G + a1)] σ (qV Q) := by
  refine Cn_of (L := [(0, .ref (gb G + 6)), (1, .ref (gb G + a1))]) RX2 (by decide) rfl (Nat.le_of_ble_eq_true rfl) rfl ?_
  intro p e s m below meth c F
  unfold wp_X2_takeBack at h
  refine J_aln F 0 dX2_takeBack_0 rfl rfl ?_
  refine J_gfi F (ci := 2) 2 rfl inX2 ly_6 (by decide) (by decide) rfl lf_X2_21 rfl dX2_takeBack_1 ?_
  refine J_zle F (tgt := 38) dX2_takeBack_4 (by decide) (fun c_1 => ?_) (fun c_1 => ?_)
  · have h := h.1 c_1
    exact J_retv F ⟨rfl, h⟩ dX2_takeBack_38
  · have h := h.2 c_1
    refine J_aln F 0 dX2_takeBack_7 rfl rfl ?_
    refine J_dup F dX2_takeBack_8 rfl ?_
    refine J_gfi F (ci := 2) 2 rfl inX2 ly_6 (by decide) (by decide) rfl lf_X2_21 rfl dX2_takeBack_9 ?_
    refine J_ic F dX2_takeBack_12 ki_1 ?_
    refine J_isub F dX2_takeBack_13 ?_
    refine J_pfi F (ci := 2) 2 rfl inX2 tyX2 tyX2_ok nmX2 ly_6 (by decide) (by decide) rfl lf_X2_21 rfl rfl (tyX2_ok 2 (by decide)) rfl rfl dX2_takeBack_14 ?_
    refine J_st (fun σ_2 eσ_2 => ?_)
    have h := h σ_2 eσ_2
    refine J_aln F 1 dX2_takeBack_17 rfl rfl ?_
    refine J_aln F 0 dX2_takeBack_18 rfl rfl ?_
    refine J_gfa F (ci := 2) 0 rfl inX2 ly_6 (by decide) (by decide) rfl lf_X2_11 rfl dX2_takeBack_19 ?_
    refine J_aln F 0 dX2_takeBack_22 rfl rfl ?_
    refine J_gfi F (ci := 2) 1 rfl inX2 ly_6 (by decide) (by decide) rfl lf_X2_17 rfl dX2_takeBack_23 ?_
    refine J_aln F 0 dX2_takeBack_26 rfl rfl ?_
    refine J_gfi F (ci := 2) 2 rfl inX2 ly_6 (by decide) (by decide) rfl lf_X2_21 rfl dX2_takeBack_27 ?_
    refine J_iadd F dX2_takeBack_30 ?_
    refine J_bi F dX2_takeBack_31 kb_8 ?_
    refine J_irem F dX2_takeBack_33 nz_8 ?_
    obtain ⟨h_3, h⟩ := h
    refine J_aldN F ly_7 h_3 dX2_takeBack_34 ?_
    refine J_callVv F (As := [.ref (gb G + (8 + 21 * Int32.toNatClampNeg (((σ_2 6 1) + (σ_2 6 2)) - ((σ_2 6 1) + (σ_2 6 2)) / (nI 8) * (nI 8))))]) (st := []) (C_X1_copyFrom l G a1 (8 + 21 * Int32.toNatClampNeg (((σ_2 6 1) + (σ_2 6 2)) - ((σ_2 6 1) + (σ_2 6 2)) / (nI 8) * (nI 8))) y1 (lay_pn h_3) h) (ci := 1) y1 (by decide) rfl rfl lm_X2_25 li_X1_copyFrom ls_X1_copyFrom ini_X1 lc_X1_copyFrom hd_X1_copyFrom (by decide) (Nat.le_of_ble_eq_true rfl) (by decide) rfl dX2_takeBack_35 (fun σ_4 h => ?_)
    exact J_retv F ⟨rfl, h⟩ dX2_takeBack_38
theorem dX2_forget_0 : decode cX2_forget 0 = .ok (.aload_n 0, 1) := by decide +kernel
theorem dX2_forget_1 : decode cX2_forget 1 = .ok (.iconst 0, 1) := by decide +kernel
theorem dX2_forget_2 : decode cX2_forget 2 = .ok (.putfield 21, 3) := by decide +kernel
theorem dX2_forget_5 : decode cX2_forget 5 = .ok (.return_, 1) := by decide +kernel
set_option maxRecDepth 20000 in
set_option maxHeartbeats 4000000 in
theorem C_X2_forget (l : Launch) (G : Gp)   {σ : St} {Q : St → Prop} (h : wp_X2_forget σ  Q) : Cn l yX2_forget cX2_forget 1 none 0 0 G [.ref (gb G + 6)] σ (qV Q) := by
  refine Cn_of (L := [(0, .ref (gb G + 6))]) RX2 (by decide) rfl (Nat.le_of_ble_eq_true rfl) rfl ?_
  intro p e s m below meth c F
  unfold wp_X2_forget at h
  refine J_aln F 0 dX2_forget_0 rfl rfl ?_
  refine J_ic F dX2_forget_1 ki_0 ?_
  refine J_pfi F (ci := 2) 2 rfl inX2 tyX2 tyX2_ok nmX2 ly_6 (by decide) (by decide) rfl lf_X2_21 rfl rfl (tyX2_ok 2 (by decide)) rfl rfl dX2_forget_2 ?_
  refine J_st (fun σ_1 eσ_1 => ?_)
  have h := h σ_1 eσ_1
  exact J_retv F ⟨rfl, h⟩ dX2_forget_5
theorem dX6_append_0 : decode cX6_append 0 = .ok (.bipush 24, 2) := by decide +kernel
theorem dX6_append_2 : decode cX6_append 2 = .ok (.istore_n 2, 1) := by decide +kernel
theorem dX6_append_3 : decode cX6_append 3 = .ok (.iload_n 2, 1) := by decide +kernel
theorem dX6_append_4 : decode cX6_append 4 = .ok (.ifCond .lt 42, 3) := by decide +kernel
theorem dX6_append_7 : decode cX6_append 7 = .ok (.aload_n 0, 1) := by decide +kernel
theorem dX6_append_8 : decode cX6_append 8 = .ok (.getfield 15, 3) := by decide +kernel
theorem dX6_append_11 : decode cX6_append 11 = .ok (.sipush 400, 3) := by decide +kernel
theorem dX6_append_14 : decode cX6_append 14 = .ok (.if_icmp .ge 32, 3) := by decide +kernel
theorem dX6_append_17 : decode cX6_append 17 = .ok (.aload_n 0, 1) := by decide +kernel
theorem dX6_append_18 : decode cX6_append 18 = .ok (.getfield 9, 3) := by decide +kernel
theorem dX6_append_21 : decode cX6_append 21 = .ok (.aload_n 0, 1) := by decide +kernel
theorem dX6_append_22 : decode cX6_append 22 = .ok (.getfield 15, 3) := by decide +kernel
theorem dX6_append_25 : decode cX6_append 25 = .ok (.iload_n 1, 1) := by decide +kernel
theorem dX6_append_26 : decode cX6_append 26 = .ok (.iload_n 2, 1) := by decide +kernel
theorem dX6_append_27 : decode cX6_append 27 = .ok (.ishr, 1) := by decide +kernel
theorem dX6_append_28 : decode cX6_append 28 = .ok (.i2b, 1) := by decide +kernel
theorem dX6_append_29 : decode cX6_append 29 = .ok (.bastore, 1) := by decide +kernel
theorem dX6_append_30 : decode cX6_append 30 = .ok (.aload_n 0, 1) := by decide +kernel
theorem dX6_append_31 : decode cX6_append 31 = .ok (.dup, 1) := by decide +kernel
theorem dX6_append_32 : decode cX6_append 32 = .ok (.getfield 15, 3) := by decide +kernel
theorem dX6_append_35 : decode cX6_append 35 = .ok (.iconst 1, 1) := by decide +kernel
theorem dX6_append_36 : decode cX6_append 36 = .ok (.iadd, 1) := by decide +kernel
theorem dX6_append_37 : decode cX6_append 37 = .ok (.putfield 15, 3) := by decide +kernel
theorem dX6_append_40 : decode cX6_append 40 = .ok (.iinc 2 (-8), 3) := by decide +kernel
theorem dX6_append_43 : decode cX6_append 43 = .ok (.goto (-40), 3) := by decide +kernel
theorem dX6_append_46 : decode cX6_append 46 = .ok (.return_, 1) := by decide +kernel
set_option maxRecDepth 20000 in
set_option maxHeartbeats 4000000 in
theorem wk_X6_append_3 {p : Program} {l : Launch} {e : Env} {s : State} {m : MethodId} {args : Array Value} {below : List Frame} {meth : Method} {c : Code} {G : Gp} {x1 : Int32}  {Q : St → Prop} (F : FX p s m args meth c cX6_append 3 none RX6 G)   : ∀ (n9 : Nat) (σ : St) (x2 : Int32), LP2 (wp_X6_append_3 x1 Q) n9 σ x2 → J p l e (rmF 0 0) s m args below meth c 3 G (MQ below (QQ G (qV Q)) args s 0 0 (fr G)) 0 0 3 [(0, .ref (gb G + 1)), (1, .int x1), (2, .int x2)] [] σ := by
  intro n9
  induction n9 with
  | zero => intro σ x2 h; exact h.elim
  | succ n9 i3 =>
    intro σ x2 h
    have h : wp_X6_append_3 x1 Q (LP2 (wp_X6_append_3 x1 Q) n9) σ x2 := h
    unfold wp_X6_append_3 at h
    refine J_iln F 2 dX6_append_3 rfl rfl ?_
    refine J_zlt F (tgt := 46) dX6_append_4 (by decide) (fun c_1 => ?_) (fun c_1 => ?_)
    · have h := h.1 c_1
      exact J_retv F ⟨rfl, h⟩ dX6_append_46
    · have h := h.2 c_1
      refine J_aln F 0 dX6_append_7 rfl rfl ?_
      refine J_gfi F (ci := 6) 1 rfl inX6 ly_1 (by decide) (by decide) rfl lf_X6_15 rfl dX6_append_8 ?_
      refine J_si F dX6_append_11 ks_400 ?_
      refine J_cge F (tgt := 46) dX6_append_14 (by decide) (fun c_2 => ?_) (fun c_2 => ?_)
      · have h := h.1 c_2
        exact J_retv F ⟨rfl, h⟩ dX6_append_46
      · have h := h.2 c_2
        refine J_aln F 0 dX6_append_17 rfl rfl ?_
        refine J_gfa F (ci := 6) 0 rfl inX6 ly_1 (by decide) (by decide) rfl lf_X6_9 rfl dX6_append_18 ?_
        refine J_aln F 0 dX6_append_21 rfl rfl ?_
        refine J_gfi F (ci := 6) 1 rfl inX6 ly_1 (by decide) (by decide) rfl lf_X6_15 rfl dX6_append_22 ?_
        refine J_iln F 1 dX6_append_25 rfl rfl ?_
        refine J_iln F 2 dX6_append_26 rfl rfl ?_
        refine J_ishr F dX6_append_27 ?_
        refine J_i2b F dX6_append_28 ?_
        obtain ⟨h_3, h⟩ := h
        refine J_bast F ly_2 h_3 dX6_append_29 ?_
        refine J_st (fun σ_4 eσ_4 => ?_)
        have h := h σ_4 eσ_4
        refine J_aln F 0 dX6_append_30 rfl rfl ?_
        refine J_dup F dX6_append_31 rfl ?_
        refine J_gfi F (ci := 6) 1 rfl inX6 ly_1 (by decide) (by decide) rfl lf_X6_15 rfl dX6_append_32 ?_
        refine J_ic F dX6_append_35 ki_1 ?_
        refine J_iadd F dX6_append_36 ?_
        refine J_pfi F (ci := 6) 1 rfl inX6 tyX6 tyX6_ok nmX6 ly_1 (by decide) (by decide) rfl lf_X6_15 rfl rfl (tyX6_ok 1 (by decide)) rfl rfl dX6_append_37 ?_
        refine J_st (fun σ_5 eσ_5 => ?_)
        have h := h σ_5 eσ_5
        obtain ⟨x2_6, ex2_6⟩ : ∃ z : Int32, z = x2 + (-8) := ⟨_, rfl⟩
        have h := h x2_6 ex2_6
        refine J_iinc F (v := x2_6) (L' := [(2, .int x2_6), (0, .ref (gb G + 1)), (1, .int x1)]) 2 dX6_append_40 rfl (by rw [ki_m8, ex2_6]) (by decide) rfl ?_
        refine J_goto F (tgt := 3) dX6_append_43 (by decide) ?_
        refine J_sub [1, 2, 0] rfl ?_
        exact i3 _ _ h
set_option maxRecDepth 20000 in
set_option maxHeartbeats 4000000 in
theorem C_X6_append (l : Launch) (G : Gp) (x1 : Int32)  {σ : St} {Q : St → Prop} (h : wp_X6_append σ x1 Q) : Cn l yX6_append cX6_append 3 none 0 0 G [.ref (gb G + 1), .int x1] σ (qV Q) := by
  refine Cn_of (L := [(0, .ref (gb G + 1)), (1, .int x1)]) RX6 (by decide) rfl (Nat.le_of_ble_eq_true rfl) rfl ?_
  intro p e s m below meth c F
  unfold wp_X6_append at h
  refine J_bi F dX6_append_0 kb_24 ?_
  refine J_isn F (L' := [(2, .int (nI 24)), (0, .ref (gb G + 1)), (1, .int x1)]) dX6_append_2 rfl (by decide) rfl ?_
  refine J_sub [1, 2, 0] rfl ?_
  obtain ⟨n9, h⟩ := h
  exact wk_X6_append_3 F  n9 _ _ h
