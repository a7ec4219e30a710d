/-! THE CONSTRUCTORS (written by gen_ctor.py) -/
theorem lay_sps {k : Nat} (h : lay k = (1, 0)) : lay (k + 9) = (4, 0) ∧ lay (k + 13) = (4, 0) ∧ lay (k + 17) = (4, 0) := ⟨(lay_net h).2.2.2.2.2.2.2.2 0 (by decide), (lay_net h).2.2.2.2.2.2.2.2 1 (by decide), (lay_net h).2.2.2.2.2.2.2.2 2 (by decide)⟩
theorem vc_int (cA : ClassId) (n : Nat) : vp_cell cA (n, .inl (fun _ => 0)) = arrV cA n (fun _ => defaultValue .int) := rfl
theorem vc_byte (cA : ClassId) (n : Nat) : vp_cell cA (n, .inl (fun _ => 0)) = arrV cA n (fun _ => defaultValue .byte) := rfl
theorem st246 (j : Nat) : (0 : Int32) = st0 246 j := by
  unfold st0
  rw [if_neg (by decide), if_neg (by decide), if_neg (by decide), if_neg (by decide), if_neg (by decide +kernel), if_neg (by decide +kernel)]
  rfl
theorem st247 (j : Nat) : (0 : Int32) = st0 247 j := by
  unfold st0
  rw [if_neg (by decide), if_neg (by decide), if_neg (by decide), if_neg (by decide), if_neg (by decide +kernel), if_neg (by decide +kernel)]
  rfl
theorem st245 (j : Nat) : upd (fun _ => (0 : Int32)) (nI 37).toNatClampNeg (nI 1) j = st0 245 j := by
  have h : st0 245 j = if j = 37 then nI 1 else nI 0 := by
    unfold st0
    rw [if_neg (by decide), if_neg (by decide), if_neg (by decide), if_pos rfl]
  rw [h]
  unfold upd
  rw [show (nI 37).toNatClampNeg = 37 from rfl]
  split <;> rfl
def wz_0 : List Cond := [Cond.instanceMethod Lib.objectInit, Cond.code Lib.objectInit ⟨#[0xb1]⟩ 1 none, Cond.code yX6_init cX6_init 1 none, Cond.instanceMethod yX6_init, Cond.instantiable RX6 2, Cond.initialized RX6, Cond.methodLink RX6 3 Lib.objectInit, Cond.arrayClass .byte, Cond.fieldLink RX6 9 RX6 (TX6 0).2.1 (TX6 0).2.2.1, Cond.fieldLink RX6 15 RX6 (TX6 1).2.1 (TX6 1).2.2.1, Cond.code yX3_init cX3_init 2 none, Cond.instanceMethod yX3_init, Cond.instantiable RX3 5, Cond.initialized RX3, Cond.methodLink RX3 3 Lib.objectInit, Cond.fieldLink RX3 9 RX3 (TX3 1).2.1 (TX3 1).2.2.1, Cond.fieldLink RX3 15 RX3 (TX3 2).2.1 (TX3 2).2.2.1, Cond.fieldLink RX3 18 RX3 (TX3 3).2.1 (TX3 3).2.2.1, Cond.fieldLink RX3 21 RX3 (TX3 4).2.1 (TX3 4).2.2.1, Cond.fieldLink RX3 25 RX3 (TX3 0).2.1 (TX3 0).2.2.1, Cond.code yX0_init cX0_init 1 none, Cond.instanceMethod yX0_init, Cond.instantiable RX0 2, Cond.initialized RX0, Cond.methodLink RX0 3 Lib.objectInit, Cond.arrayClass .int, Cond.fieldLink RX0 9 RX0 (TX0 0).2.1 (TX0 0).2.2.1, Cond.fieldLink RX0 15 RX0 (TX0 1).2.1 (TX0 1).2.2.1, Cond.code yX4_init cX4_init 1 none, Cond.instanceMethod yX4_init, Cond.instantiable RX4 3, Cond.initialized RX4, Cond.methodLink RX4 3 Lib.objectInit, Cond.fieldLink RX4 9 RX4 (TX4 0).2.1 (TX4 0).2.2.1, Cond.fieldLink RX4 15 RX4 (TX4 1).2.1 (TX4 1).2.2.1, Cond.fieldLink RX4 18 RX4 (TX4 2).2.1 (TX4 2).2.2.1, Cond.code yX1_init cX1_init 2 none, Cond.instanceMethod yX1_init, Cond.instantiable RX1 10, Cond.initialized RX1]
theorem wy_0 : ∀ w ∈ wz_0, w ∈ TBL := tb_ch _ [157, 158, 163, 162, 160, 127, 164, 175, 165, 167, 180, 179, 177, 128, 181, 183, 185, 187, 188, 182, 205, 204, 202, 129, 206, 218, 207, 210, 237, 236, 234, 132, 238, 239, 241, 243, 230, 229, 227, 131] (by decide +kernel) (by decide +kernel)
theorem zO1 : Cond.instanceMethod Lib.objectInit ∈ TBL := wy_0 _ (List.mem_of_getElem? (i := 0) rfl)
theorem zO2 : Cond.code Lib.objectInit ⟨#[0xb1]⟩ 1 none ∈ TBL := wy_0 _ (List.mem_of_getElem? (i := 1) rfl)
theorem zk_X6 : Cond.code yX6_init cX6_init 1 none ∈ TBL := wy_0 _ (List.mem_of_getElem? (i := 2) rfl)
theorem zn_X6 : Cond.instanceMethod yX6_init ∈ TBL := wy_0 _ (List.mem_of_getElem? (i := 3) rfl)
theorem zj_X6 : Cond.instantiable RX6 2 ∈ TBL := wy_0 _ (List.mem_of_getElem? (i := 4) rfl)
theorem zy_X6 : Cond.initialized RX6 ∈ TBL := wy_0 _ (List.mem_of_getElem? (i := 5) rfl)
theorem zo_X6 : Cond.methodLink RX6 3 Lib.objectInit ∈ TBL := wy_0 _ (List.mem_of_getElem? (i := 6) rfl)
theorem za_byte : Cond.arrayClass .byte ∈ TBL := wy_0 _ (List.mem_of_getElem? (i := 7) rfl)
theorem zf_X6_9 : Cond.fieldLink RX6 9 RX6 (TX6 0).2.1 (TX6 0).2.2.1 ∈ TBL := wy_0 _ (List.mem_of_getElem? (i := 8) rfl)
theorem zf_X6_15 : Cond.fieldLink RX6 15 RX6 (TX6 1).2.1 (TX6 1).2.2.1 ∈ TBL := wy_0 _ (List.mem_of_getElem? (i := 9) rfl)
theorem zk_X3 : Cond.code yX3_init cX3_init 2 none ∈ TBL := wy_0 _ (List.mem_of_getElem? (i := 10) rfl)
theorem zn_X3 : Cond.instanceMethod yX3_init ∈ TBL := wy_0 _ (List.mem_of_getElem? (i := 11) rfl)
theorem zj_X3 : Cond.instantiable RX3 5 ∈ TBL := wy_0 _ (List.mem_of_getElem? (i := 12) rfl)
theorem zy_X3 : Cond.initialized RX3 ∈ TBL := wy_0 _ (List.mem_of_getElem? (i := 13) rfl)
theorem zo_X3 : Cond.methodLink RX3 3 Lib.objectInit ∈ TBL := wy_0 _ (List.mem_of_getElem? (i := 14) rfl)
theorem zf_X3_9 : Cond.fieldLink RX3 9 RX3 (TX3 1).2.1 (TX3 1).2.2.1 ∈ TBL := wy_0 _ (List.mem_of_getElem? (i := 15) rfl)
theorem zf_X3_15 : Cond.fieldLink RX3 15 RX3 (TX3 2).2.1 (TX3 2).2.2.1 ∈ TBL := wy_0 _ (List.mem_of_getElem? (i := 16) rfl)
theorem zf_X3_18 : Cond.fieldLink RX3 18 RX3 (TX3 3).2.1 (TX3 3).2.2.1 ∈ TBL := wy_0 _ (List.mem_of_getElem? (i := 17) rfl)
theorem zf_X3_21 : Cond.fieldLink RX3 21 RX3 (TX3 4).2.1 (TX3 4).2.2.1 ∈ TBL := wy_0 _ (List.mem_of_getElem? (i := 18) rfl)
theorem zf_X3_25 : Cond.fieldLink RX3 25 RX3 (TX3 0).2.1 (TX3 0).2.2.1 ∈ TBL := wy_0 _ (List.mem_of_getElem? (i := 19) rfl)
theorem zk_X0 : Cond.code yX0_init cX0_init 1 none ∈ TBL := wy_0 _ (List.mem_of_getElem? (i := 20) rfl)
theorem zn_X0 : Cond.instanceMethod yX0_init ∈ TBL := wy_0 _ (List.mem_of_getElem? (i := 21) rfl)
theorem zj_X0 : Cond.instantiable RX0 2 ∈ TBL := wy_0 _ (List.mem_of_getElem? (i := 22) rfl)
theorem zy_X0 : Cond.initialized RX0 ∈ TBL := wy_0 _ (List.mem_of_getElem? (i := 23) rfl)
theorem zo_X0 : Cond.methodLink RX0 3 Lib.objectInit ∈ TBL := wy_0 _ (List.mem_of_getElem? (i := 24) rfl)
theorem za_int : Cond.arrayClass .int ∈ TBL := wy_0 _ (List.mem_of_getElem? (i := 25) rfl)
theorem zf_X0_9 : Cond.fieldLink RX0 9 RX0 (TX0 0).2.1 (TX0 0).2.2.1 ∈ TBL := wy_0 _ (List.mem_of_getElem? (i := 26) rfl)
theorem zf_X0_15 : Cond.fieldLink RX0 15 RX0 (TX0 1).2.1 (TX0 1).2.2.1 ∈ TBL := wy_0 _ (List.mem_of_getElem? (i := 27) rfl)
theorem zk_X4 : Cond.code yX4_init cX4_init 1 none ∈ TBL := wy_0 _ (List.mem_of_getElem? (i := 28) rfl)
theorem zn_X4 : Cond.instanceMethod yX4_init ∈ TBL := wy_0 _ (List.mem_of_getElem? (i := 29) rfl)
theorem zj_X4 : Cond.instantiable RX4 3 ∈ TBL := wy_0 _ (List.mem_of_getElem? (i := 30) rfl)
theorem zy_X4 : Cond.initialized RX4 ∈ TBL := wy_0 _ (List.mem_of_getElem? (i := 31) rfl)
theorem zo_X4 : Cond.methodLink RX4 3 Lib.objectInit ∈ TBL := wy_0 _ (List.mem_of_getElem? (i := 32) rfl)
theorem zf_X4_9 : Cond.fieldLink RX4 9 RX4 (TX4 0).2.1 (TX4 0).2.2.1 ∈ TBL := wy_0 _ (List.mem_of_getElem? (i := 33) rfl)
theorem zf_X4_15 : Cond.fieldLink RX4 15 RX4 (TX4 1).2.1 (TX4 1).2.2.1 ∈ TBL := wy_0 _ (List.mem_of_getElem? (i := 34) rfl)
theorem zf_X4_18 : Cond.fieldLink RX4 18 RX4 (TX4 2).2.1 (TX4 2).2.2.1 ∈ TBL := wy_0 _ (List.mem_of_getElem? (i := 35) rfl)
theorem zk_X1 : Cond.code yX1_init cX1_init 2 none ∈ TBL := wy_0 _ (List.mem_of_getElem? (i := 36) rfl)
theorem zn_X1 : Cond.instanceMethod yX1_init ∈ TBL := wy_0 _ (List.mem_of_getElem? (i := 37) rfl)
theorem zj_X1 : Cond.instantiable RX1 10 ∈ TBL := wy_0 _ (List.mem_of_getElem? (i := 38) rfl)
theorem zy_X1 : Cond.initialized RX1 ∈ TBL := wy_0 _ (List.mem_of_getElem? (i := 39) rfl)
def wz_1 : List Cond := [Cond.methodLink RX1 3 Lib.objectInit, Cond.classLink RX1 9 RX4, Cond.fieldLink RX1 11 RX1 (TX1 0).2.1 (TX1 0).2.2.1, Cond.fieldLink RX1 17 RX1 (TX1 1).2.1 (TX1 1).2.2.1, Cond.fieldLink RX1 21 RX1 (TX1 2).2.1 (TX1 2).2.2.1, Cond.fieldLink RX1 24 RX1 (TX1 3).2.1 (TX1 3).2.2.1, Cond.fieldLink RX1 27 RX1 (TX1 4).2.1 (TX1 4).2.2.1, Cond.fieldLink RX1 30 RX1 (TX1 5).2.1 (TX1 5).2.2.1, Cond.fieldLink RX1 33 RX1 (TX1 6).2.1 (TX1 6).2.2.1, Cond.fieldLink RX1 36 RX1 (TX1 7).2.1 (TX1 7).2.2.1, Cond.fieldLink RX1 39 RX1 (TX1 8).2.1 (TX1 8).2.2.1, Cond.fieldLink RX1 43 RX1 (TX1 9).2.1 (TX1 9).2.2.1, Cond.code yX2_init cX2_init 2 none, Cond.instanceMethod yX2_init, Cond.instantiable RX2 3, Cond.initialized RX2, Cond.methodLink RX2 3 Lib.objectInit, Cond.classLink RX2 9 RX1, Cond.fieldLink RX2 11 RX2 (TX2 0).2.1 (TX2 0).2.2.1, Cond.fieldLink RX2 17 RX2 (TX2 1).2.1 (TX2 1).2.2.1, Cond.fieldLink RX2 21 RX2 (TX2 2).2.1 (TX2 2).2.2.1, Cond.methodLink RX2 24 yX1_init, Cond.code yX7_init cX7_init 1 none, Cond.instanceMethod yX7_init, Cond.instantiable RX7 5, Cond.initialized RX7, Cond.methodLink RX7 3 Lib.objectInit, Cond.fieldLink RX7 9 RX7 (TX7 0).2.1 (TX7 0).2.2.1, Cond.fieldLink RX7 15 RX7 (TX7 1).2.1 (TX7 1).2.2.1, Cond.fieldLink RX7 18 RX7 (TX7 2).2.1 (TX7 2).2.2.1, Cond.fieldLink RX7 21 RX7 (TX7 3).2.1 (TX7 3).2.2.1, Cond.fieldLink RX7 25 RX7 (TX7 4).2.1 (TX7 4).2.2.1, Cond.code yX5_init cX5_init 2 none, Cond.instanceMethod yX5_init, Cond.instantiable RX5 5, Cond.initialized RX5, Cond.methodLink RX5 3 Lib.objectInit, Cond.fieldLink RX5 9 RX5 (TX5 1).2.1 (TX5 1).2.2.1, Cond.fieldLink RX5 15 RX5 (TX5 2).2.1 (TX5 2).2.2.1, Cond.fieldLink RX5 18 RX5 (TX5 3).2.1 (TX5 3).2.2.1]
theorem wy_1 : ∀ w ∈ wz_1, w ∈ TBL := tb_ch _ [231, 232, 255, 257, 259, 261, 263, 264, 265, 267, 269, 271, 223, 222, 220, 130, 224, 225, 294, 295, 296, 228, 309, 308, 306, 134, 310, 311, 312, 313, 314, 317, 334, 333, 331, 135, 335, 337, 339, 341] (by decide +kernel) (by decide +kernel)
theorem zo_X1 : Cond.methodLink RX1 3 Lib.objectInit ∈ TBL := wy_1 _ (List.mem_of_getElem? (i := 0) rfl)
theorem zc_X1_9 : Cond.classLink RX1 9 RX4 ∈ TBL := wy_1 _ (List.mem_of_getElem? (i := 1) rfl)
theorem zf_X1_11 : Cond.fieldLink RX1 11 RX1 (TX1 0).2.1 (TX1 0).2.2.1 ∈ TBL := wy_1 _ (List.mem_of_getElem? (i := 2) rfl)
theorem zf_X1_17 : Cond.fieldLink RX1 17 RX1 (TX1 1).2.1 (TX1 1).2.2.1 ∈ TBL := wy_1 _ (List.mem_of_getElem? (i := 3) rfl)
theorem zf_X1_21 : Cond.fieldLink RX1 21 RX1 (TX1 2).2.1 (TX1 2).2.2.1 ∈ TBL := wy_1 _ (List.mem_of_getElem? (i := 4) rfl)
theorem zf_X1_24 : Cond.fieldLink RX1 24 RX1 (TX1 3).2.1 (TX1 3).2.2.1 ∈ TBL := wy_1 _ (List.mem_of_getElem? (i := 5) rfl)
theorem zf_X1_27 : Cond.fieldLink RX1 27 RX1 (TX1 4).2.1 (TX1 4).2.2.1 ∈ TBL := wy_1 _ (List.mem_of_getElem? (i := 6) rfl)
theorem zf_X1_30 : Cond.fieldLink RX1 30 RX1 (TX1 5).2.1 (TX1 5).2.2.1 ∈ TBL := wy_1 _ (List.mem_of_getElem? (i := 7) rfl)
theorem zf_X1_33 : Cond.fieldLink RX1 33 RX1 (TX1 6).2.1 (TX1 6).2.2.1 ∈ TBL := wy_1 _ (List.mem_of_getElem? (i := 8) rfl)
theorem zf_X1_36 : Cond.fieldLink RX1 36 RX1 (TX1 7).2.1 (TX1 7).2.2.1 ∈ TBL := wy_1 _ (List.mem_of_getElem? (i := 9) rfl)
theorem zf_X1_39 : Cond.fieldLink RX1 39 RX1 (TX1 8).2.1 (TX1 8).2.2.1 ∈ TBL := wy_1 _ (List.mem_of_getElem? (i := 10) rfl)
theorem zf_X1_43 : Cond.fieldLink RX1 43 RX1 (TX1 9).2.1 (TX1 9).2.2.1 ∈ TBL := wy_1 _ (List.mem_of_getElem? (i := 11) rfl)
theorem zk_X2 : Cond.code yX2_init cX2_init 2 none ∈ TBL := wy_1 _ (List.mem_of_getElem? (i := 12) rfl)
theorem zn_X2 : Cond.instanceMethod yX2_init ∈ TBL := wy_1 _ (List.mem_of_getElem? (i := 13) rfl)
theorem zj_X2 : Cond.instantiable RX2 3 ∈ TBL := wy_1 _ (List.mem_of_getElem? (i := 14) rfl)
theorem zy_X2 : Cond.initialized RX2 ∈ TBL := wy_1 _ (List.mem_of_getElem? (i := 15) rfl)
theorem zo_X2 : Cond.methodLink RX2 3 Lib.objectInit ∈ TBL := wy_1 _ (List.mem_of_getElem? (i := 16) rfl)
theorem zc_X2_9 : Cond.classLink RX2 9 RX1 ∈ TBL := wy_1 _ (List.mem_of_getElem? (i := 17) rfl)
theorem zf_X2_11 : Cond.fieldLink RX2 11 RX2 (TX2 0).2.1 (TX2 0).2.2.1 ∈ TBL := wy_1 _ (List.mem_of_getElem? (i := 18) rfl)
theorem zf_X2_17 : Cond.fieldLink RX2 17 RX2 (TX2 1).2.1 (TX2 1).2.2.1 ∈ TBL := wy_1 _ (List.mem_of_getElem? (i := 19) rfl)
theorem zf_X2_21 : Cond.fieldLink RX2 21 RX2 (TX2 2).2.1 (TX2 2).2.2.1 ∈ TBL := wy_1 _ (List.mem_of_getElem? (i := 20) rfl)
theorem zm_X2_24 : Cond.methodLink RX2 24 yX1_init ∈ TBL := wy_1 _ (List.mem_of_getElem? (i := 21) rfl)
theorem zk_X7 : Cond.code yX7_init cX7_init 1 none ∈ TBL := wy_1 _ (List.mem_of_getElem? (i := 22) rfl)
theorem zn_X7 : Cond.instanceMethod yX7_init ∈ TBL := wy_1 _ (List.mem_of_getElem? (i := 23) rfl)
theorem zj_X7 : Cond.instantiable RX7 5 ∈ TBL := wy_1 _ (List.mem_of_getElem? (i := 24) rfl)
theorem zy_X7 : Cond.initialized RX7 ∈ TBL := wy_1 _ (List.mem_of_getElem? (i := 25) rfl)
theorem zo_X7 : Cond.methodLink RX7 3 Lib.objectInit ∈ TBL := wy_1 _ (List.mem_of_getElem? (i := 26) rfl)
theorem zf_X7_9 : Cond.fieldLink RX7 9 RX7 (TX7 0).2.1 (TX7 0).2.2.1 ∈ TBL := wy_1 _ (List.mem_of_getElem? (i := 27) rfl)
theorem zf_X7_15 : Cond.fieldLink RX7 15 RX7 (TX7 1).2.1 (TX7 1).2.2.1 ∈ TBL := wy_1 _ (List.mem_of_getElem? (i := 28) rfl)
theorem zf_X7_18 : Cond.fieldLink RX7 18 RX7 (TX7 2).2.1 (TX7 2).2.2.1 ∈ TBL := wy_1 _ (List.mem_of_getElem? (i := 29) rfl)
theorem zf_X7_21 : Cond.fieldLink RX7 21 RX7 (TX7 3).2.1 (TX7 3).2.2.1 ∈ TBL := wy_1 _ (List.mem_of_getElem? (i := 30) rfl)
theorem zf_X7_25 : Cond.fieldLink RX7 25 RX7 (TX7 4).2.1 (TX7 4).2.2.1 ∈ TBL := wy_1 _ (List.mem_of_getElem? (i := 31) rfl)
theorem zk_X5 : Cond.code yX5_init cX5_init 2 none ∈ TBL := wy_1 _ (List.mem_of_getElem? (i := 32) rfl)
theorem zn_X5 : Cond.instanceMethod yX5_init ∈ TBL := wy_1 _ (List.mem_of_getElem? (i := 33) rfl)
theorem zj_X5 : Cond.instantiable RX5 5 ∈ TBL := wy_1 _ (List.mem_of_getElem? (i := 34) rfl)
theorem zy_X5 : Cond.initialized RX5 ∈ TBL := wy_1 _ (List.mem_of_getElem? (i := 35) rfl)
theorem zo_X5 : Cond.methodLink RX5 3 Lib.objectInit ∈ TBL := wy_1 _ (List.mem_of_getElem? (i := 36) rfl)
theorem zf_X5_9 : Cond.fieldLink RX5 9 RX5 (TX5 1).2.1 (TX5 1).2.2.1 ∈ TBL := wy_1 _ (List.mem_of_getElem? (i := 37) rfl)
theorem zf_X5_15 : Cond.fieldLink RX5 15 RX5 (TX5 2).2.1 (TX5 2).2.2.1 ∈ TBL := wy_1 _ (List.mem_of_getElem? (i := 38) rfl)
theorem zf_X5_18 : Cond.fieldLink RX5 18 RX5 (TX5 3).2.1 (TX5 3).2.2.1 ∈ TBL := wy_1 _ (List.mem_of_getElem? (i := 39) rfl)
def wz_2 : List Cond := [Cond.fieldLink RX5 21 RX5 (TX5 4).2.1 (TX5 4).2.2.1, Cond.fieldLink RX5 24 RX5 (TX5 0).2.1 (TX5 0).2.2.1, Cond.code yX8_init cX8_init 1 none, Cond.instanceMethod yX8_init, Cond.instantiable RX8 12, Cond.initialized RX8, Cond.methodLink RX8 3 Lib.objectInit, Cond.classLink RX8 9 RX6, Cond.fieldLink RX8 12 RX8 (TX8 0).2.1 (TX8 0).2.2.1, Cond.classLink RX8 16 RX3, Cond.methodLink RX8 18 yX3_init, Cond.fieldLink RX8 21 RX8 (TX8 1).2.1 (TX8 1).2.2.1, Cond.classLink RX8 25 RX0, Cond.fieldLink RX8 28 RX8 (TX8 2).2.1 (TX8 2).2.2.1, Cond.classLink RX8 32 RX2, Cond.methodLink RX8 34 yX2_init, Cond.fieldLink RX8 35 RX8 (TX8 3).2.1 (TX8 3).2.2.1, Cond.classLink RX8 39 RX7, Cond.fieldLink RX8 42 RX8 (TX8 4).2.1 (TX8 4).2.2.1, Cond.classLink RX8 46 RX5, Cond.methodLink RX8 48 yX5_init, Cond.fieldLink RX8 51 RX8 (TX8 5).2.1 (TX8 5).2.2.1, Cond.classLink RX8 55 RX1, Cond.methodLink RX8 57 yX1_init, Cond.fieldLink RX8 58 RX8 (TX8 6).2.1 (TX8 6).2.2.1, Cond.fieldLink RX8 62 RX8 (TX8 7).2.1 (TX8 7).2.2.1, Cond.fieldLink RX8 66 RX8 (TX8 8).2.1 (TX8 8).2.2.1, Cond.fieldLink RX8 69 RX8 (TX8 9).2.1 (TX8 9).2.2.1, Cond.fieldLink RX8 72 RX8 (TX8 10).2.1 (TX8 10).2.2.1, Cond.fieldLink RX8 76 RX8 (TX8 11).2.1 (TX8 11).2.2.1, Cond.code yX9_init cX9_init 1 none, Cond.instanceMethod yX9_init, Cond.instantiable RX9 33, Cond.initialized RX9, Cond.methodLink RX9 1 Lib.objectInit, Cond.fieldLink RX9 7 RX9 (TX9 1).2.1 (TX9 1).2.2.1, Cond.fieldLink RX9 13 RX9 (TX9 2).2.1 (TX9 2).2.2.1, Cond.fieldLink RX9 16 RX9 (TX9 3).2.1 (TX9 3).2.2.1, Cond.constant RX9 19 (nI 53456), Cond.fieldLink RX9 20 RX9 (TX9 4).2.1 (TX9 4).2.2.1]
theorem wy_2 : ∀ w ∈ wz_2, w ∈ TBL := tb_ch _ [343, 336, 155, 154, 152, 126, 156, 159, 358, 176, 178, 359, 201, 360, 219, 221, 361, 305, 362, 330, 332, 363, 356, 357, 364, 365, 366, 367, 368, 369, 1219, 1218, 1216, 136, 1220, 1223, 1224, 1225, 1221, 1226] (by decide +kernel) (by decide +kernel)
theorem zf_X5_21 : Cond.fieldLink RX5 21 RX5 (TX5 4).2.1 (TX5 4).2.2.1 ∈ TBL := wy_2 _ (List.mem_of_getElem? (i := 0) rfl)
theorem zf_X5_24 : Cond.fieldLink RX5 24 RX5 (TX5 0).2.1 (TX5 0).2.2.1 ∈ TBL := wy_2 _ (List.mem_of_getElem? (i := 1) rfl)
theorem zk_X8 : Cond.code yX8_init cX8_init 1 none ∈ TBL := wy_2 _ (List.mem_of_getElem? (i := 2) rfl)
theorem zn_X8 : Cond.instanceMethod yX8_init ∈ TBL := wy_2 _ (List.mem_of_getElem? (i := 3) rfl)
theorem zj_X8 : Cond.instantiable RX8 12 ∈ TBL := wy_2 _ (List.mem_of_getElem? (i := 4) rfl)
theorem zy_X8 : Cond.initialized RX8 ∈ TBL := wy_2 _ (List.mem_of_getElem? (i := 5) rfl)
theorem zo_X8 : Cond.methodLink RX8 3 Lib.objectInit ∈ TBL := wy_2 _ (List.mem_of_getElem? (i := 6) rfl)
theorem zc_X8_9 : Cond.classLink RX8 9 RX6 ∈ TBL := wy_2 _ (List.mem_of_getElem? (i := 7) rfl)
theorem zf_X8_12 : Cond.fieldLink RX8 12 RX8 (TX8 0).2.1 (TX8 0).2.2.1 ∈ TBL := wy_2 _ (List.mem_of_getElem? (i := 8) rfl)
theorem zc_X8_16 : Cond.classLink RX8 16 RX3 ∈ TBL := wy_2 _ (List.mem_of_getElem? (i := 9) rfl)
theorem zm_X8_18 : Cond.methodLink RX8 18 yX3_init ∈ TBL := wy_2 _ (List.mem_of_getElem? (i := 10) rfl)
theorem zf_X8_21 : Cond.fieldLink RX8 21 RX8 (TX8 1).2.1 (TX8 1).2.2.1 ∈ TBL := wy_2 _ (List.mem_of_getElem? (i := 11) rfl)
theorem zc_X8_25 : Cond.classLink RX8 25 RX0 ∈ TBL := wy_2 _ (List.mem_of_getElem? (i := 12) rfl)
theorem zf_X8_28 : Cond.fieldLink RX8 28 RX8 (TX8 2).2.1 (TX8 2).2.2.1 ∈ TBL := wy_2 _ (List.mem_of_getElem? (i := 13) rfl)
theorem zc_X8_32 : Cond.classLink RX8 32 RX2 ∈ TBL := wy_2 _ (List.mem_of_getElem? (i := 14) rfl)
theorem zm_X8_34 : Cond.methodLink RX8 34 yX2_init ∈ TBL := wy_2 _ (List.mem_of_getElem? (i := 15) rfl)
theorem zf_X8_35 : Cond.fieldLink RX8 35 RX8 (TX8 3).2.1 (TX8 3).2.2.1 ∈ TBL := wy_2 _ (List.mem_of_getElem? (i := 16) rfl)
theorem zc_X8_39 : Cond.classLink RX8 39 RX7 ∈ TBL := wy_2 _ (List.mem_of_getElem? (i := 17) rfl)
theorem zf_X8_42 : Cond.fieldLink RX8 42 RX8 (TX8 4).2.1 (TX8 4).2.2.1 ∈ TBL := wy_2 _ (List.mem_of_getElem? (i := 18) rfl)
theorem zc_X8_46 : Cond.classLink RX8 46 RX5 ∈ TBL := wy_2 _ (List.mem_of_getElem? (i := 19) rfl)
theorem zm_X8_48 : Cond.methodLink RX8 48 yX5_init ∈ TBL := wy_2 _ (List.mem_of_getElem? (i := 20) rfl)
theorem zf_X8_51 : Cond.fieldLink RX8 51 RX8 (TX8 5).2.1 (TX8 5).2.2.1 ∈ TBL := wy_2 _ (List.mem_of_getElem? (i := 21) rfl)
theorem zc_X8_55 : Cond.classLink RX8 55 RX1 ∈ TBL := wy_2 _ (List.mem_of_getElem? (i := 22) rfl)
theorem zm_X8_57 : Cond.methodLink RX8 57 yX1_init ∈ TBL := wy_2 _ (List.mem_of_getElem? (i := 23) rfl)
theorem zf_X8_58 : Cond.fieldLink RX8 58 RX8 (TX8 6).2.1 (TX8 6).2.2.1 ∈ TBL := wy_2 _ (List.mem_of_getElem? (i := 24) rfl)
theorem zf_X8_62 : Cond.fieldLink RX8 62 RX8 (TX8 7).2.1 (TX8 7).2.2.1 ∈ TBL := wy_2 _ (List.mem_of_getElem? (i := 25) rfl)
theorem zf_X8_66 : Cond.fieldLink RX8 66 RX8 (TX8 8).2.1 (TX8 8).2.2.1 ∈ TBL := wy_2 _ (List.mem_of_getElem? (i := 26) rfl)
theorem zf_X8_69 : Cond.fieldLink RX8 69 RX8 (TX8 9).2.1 (TX8 9).2.2.1 ∈ TBL := wy_2 _ (List.mem_of_getElem? (i := 27) rfl)
theorem zf_X8_72 : Cond.fieldLink RX8 72 RX8 (TX8 10).2.1 (TX8 10).2.2.1 ∈ TBL := wy_2 _ (List.mem_of_getElem? (i := 28) rfl)
theorem zf_X8_76 : Cond.fieldLink RX8 76 RX8 (TX8 11).2.1 (TX8 11).2.2.1 ∈ TBL := wy_2 _ (List.mem_of_getElem? (i := 29) rfl)
theorem zk_X9 : Cond.code yX9_init cX9_init 1 none ∈ TBL := wy_2 _ (List.mem_of_getElem? (i := 30) rfl)
theorem zn_X9 : Cond.instanceMethod yX9_init ∈ TBL := wy_2 _ (List.mem_of_getElem? (i := 31) rfl)
theorem zj_X9 : Cond.instantiable RX9 33 ∈ TBL := wy_2 _ (List.mem_of_getElem? (i := 32) rfl)
theorem zy_X9 : Cond.initialized RX9 ∈ TBL := wy_2 _ (List.mem_of_getElem? (i := 33) rfl)
theorem zo_X9 : Cond.methodLink RX9 1 Lib.objectInit ∈ TBL := wy_2 _ (List.mem_of_getElem? (i := 34) rfl)
theorem zf_X9_7 : Cond.fieldLink RX9 7 RX9 (TX9 1).2.1 (TX9 1).2.2.1 ∈ TBL := wy_2 _ (List.mem_of_getElem? (i := 35) rfl)
theorem zf_X9_13 : Cond.fieldLink RX9 13 RX9 (TX9 2).2.1 (TX9 2).2.2.1 ∈ TBL := wy_2 _ (List.mem_of_getElem? (i := 36) rfl)
theorem zf_X9_16 : Cond.fieldLink RX9 16 RX9 (TX9 3).2.1 (TX9 3).2.2.1 ∈ TBL := wy_2 _ (List.mem_of_getElem? (i := 37) rfl)
theorem zl_X9_19 : Cond.constant RX9 19 (nI 53456) ∈ TBL := wy_2 _ (List.mem_of_getElem? (i := 38) rfl)
theorem zf_X9_20 : Cond.fieldLink RX9 20 RX9 (TX9 4).2.1 (TX9 4).2.2.1 ∈ TBL := wy_2 _ (List.mem_of_getElem? (i := 39) rfl)
def wz_3 : List Cond := [Cond.fieldLink RX9 23 RX9 (TX9 8).2.1 (TX9 8).2.2.1, Cond.fieldLink RX9 26 RX9 (TX9 12).2.1 (TX9 12).2.2.1, Cond.fieldLink RX9 30 RX9 (TX9 17).2.1 (TX9 17).2.2.1, Cond.fieldLink RX9 33 RX9 (TX9 18).2.1 (TX9 18).2.2.1, Cond.fieldLink RX9 36 RX9 (TX9 19).2.1 (TX9 19).2.2.1, Cond.fieldLink RX9 39 RX9 (TX9 20).2.1 (TX9 20).2.2.1, Cond.fieldLink RX9 42 RX9 (TX9 21).2.1 (TX9 21).2.2.1, Cond.fieldLink RX9 45 RX9 (TX9 22).2.1 (TX9 22).2.2.1, Cond.fieldLink RX9 48 RX9 (TX9 24).2.1 (TX9 24).2.2.1, Cond.fieldLink RX9 51 RX9 (TX9 25).2.1 (TX9 25).2.2.1]
theorem wy_3 : ∀ w ∈ wz_3, w ∈ TBL := tb_ch _ [1230, 1234, 1239, 1240, 1241, 1242, 1243, 1244, 1246, 1247] (by decide +kernel) (by decide +kernel)
theorem zf_X9_23 : Cond.fieldLink RX9 23 RX9 (TX9 8).2.1 (TX9 8).2.2.1 ∈ TBL := wy_3 _ (List.mem_of_getElem? (i := 0) rfl)
theorem zf_X9_26 : Cond.fieldLink RX9 26 RX9 (TX9 12).2.1 (TX9 12).2.2.1 ∈ TBL := wy_3 _ (List.mem_of_getElem? (i := 1) rfl)
theorem zf_X9_30 : Cond.fieldLink RX9 30 RX9 (TX9 17).2.1 (TX9 17).2.2.1 ∈ TBL := wy_3 _ (List.mem_of_getElem? (i := 2) rfl)
theorem zf_X9_33 : Cond.fieldLink RX9 33 RX9 (TX9 18).2.1 (TX9 18).2.2.1 ∈ TBL := wy_3 _ (List.mem_of_getElem? (i := 3) rfl)
theorem zf_X9_36 : Cond.fieldLink RX9 36 RX9 (TX9 19).2.1 (TX9 19).2.2.1 ∈ TBL := wy_3 _ (List.mem_of_getElem? (i := 4) rfl)
theorem zf_X9_39 : Cond.fieldLink RX9 39 RX9 (TX9 20).2.1 (TX9 20).2.2.1 ∈ TBL := wy_3 _ (List.mem_of_getElem? (i := 5) rfl)
theorem zf_X9_42 : Cond.fieldLink RX9 42 RX9 (TX9 21).2.1 (TX9 21).2.2.1 ∈ TBL := wy_3 _ (List.mem_of_getElem? (i := 6) rfl)
theorem zf_X9_45 : Cond.fieldLink RX9 45 RX9 (TX9 22).2.1 (TX9 22).2.2.1 ∈ TBL := wy_3 _ (List.mem_of_getElem? (i := 7) rfl)
theorem zf_X9_48 : Cond.fieldLink RX9 48 RX9 (TX9 24).2.1 (TX9 24).2.2.1 ∈ TBL := wy_3 _ (List.mem_of_getElem? (i := 8) rfl)
theorem zf_X9_51 : Cond.fieldLink RX9 51 RX9 (TX9 25).2.1 (TX9 25).2.2.1 ∈ TBL := wy_3 _ (List.mem_of_getElem? (i := 9) rfl)
theorem zh_X6 : yX6_init.cls ≠ "java/lang/invoke/MethodHandle" ∧ yX6_init.cls ≠ "java/lang/invoke/VarHandle" ∧ (parseMethodDescriptor yX6_init.desc).map (fun d => d.parameters.length) = some 0 := by decide +kernel
theorem zd_X6 : ∀ j, j < 2 → defaultValue (tyX6 j) = vp_V (df 6) j := by decide +kernel
theorem zh_X3 : yX3_init.cls ≠ "java/lang/invoke/MethodHandle" ∧ yX3_init.cls ≠ "java/lang/invoke/VarHandle" ∧ (parseMethodDescriptor yX3_init.desc).map (fun d => d.parameters.length) = some 1 := by decide +kernel
theorem zd_X3 : ∀ j, j < 5 → defaultValue (tyX3 j) = vp_V (df 3) j := by decide +kernel
theorem zh_X0 : yX0_init.cls ≠ "java/lang/invoke/MethodHandle" ∧ yX0_init.cls ≠ "java/lang/invoke/VarHandle" ∧ (parseMethodDescriptor yX0_init.desc).map (fun d => d.parameters.length) = some 0 := by decide +kernel
theorem zd_X0 : ∀ j, j < 2 → defaultValue (tyX0 j) = vp_V (df 0) j := by decide +kernel
theorem zh_X4 : yX4_init.cls ≠ "java/lang/invoke/MethodHandle" ∧ yX4_init.cls ≠ "java/lang/invoke/VarHandle" ∧ (parseMethodDescriptor yX4_init.desc).map (fun d => d.parameters.length) = some 0 := by decide +kernel
theorem zd_X4 : ∀ j, j < 3 → defaultValue (tyX4 j) = vp_V (df 4) j := by decide +kernel
theorem zh_X1 : yX1_init.cls ≠ "java/lang/invoke/MethodHandle" ∧ yX1_init.cls ≠ "java/lang/invoke/VarHandle" ∧ (parseMethodDescriptor yX1_init.desc).map (fun d => d.parameters.length) = some 0 := by decide +kernel
theorem zd_X1 : ∀ j, j < 10 → defaultValue (tyX1 j) = vp_V (df 1) j := by decide +kernel
theorem zh_X2 : yX2_init.cls ≠ "java/lang/invoke/MethodHandle" ∧ yX2_init.cls ≠ "java/lang/invoke/VarHandle" ∧ (parseMethodDescriptor yX2_init.desc).map (fun d => d.parameters.length) = some 0 := by decide +kernel
theorem zd_X2 : ∀ j, j < 3 → defaultValue (tyX2 j) = vp_V (df 2) j := by decide +kernel
theorem zh_X7 : yX7_init.cls ≠ "java/lang/invoke/MethodHandle" ∧ yX7_init.cls ≠ "java/lang/invoke/VarHandle" ∧ (parseMethodDescriptor yX7_init.desc).map (fun d => d.parameters.length) = some 0 := by decide +kernel
theorem zd_X7 : ∀ j, j < 5 → defaultValue (tyX7 j) = vp_V (df 7) j := by decide +kernel
theorem zh_X5 : yX5_init.cls ≠ "java/lang/invoke/MethodHandle" ∧ yX5_init.cls ≠ "java/lang/invoke/VarHandle" ∧ (parseMethodDescriptor yX5_init.desc).map (fun d => d.parameters.length) = some 1 := by decide +kernel
theorem zd_X5 : ∀ j, j < 5 → defaultValue (tyX5 j) = vp_V (df 5) j := by decide +kernel
theorem zh_X8 : yX8_init.cls ≠ "java/lang/invoke/MethodHandle" ∧ yX8_init.cls ≠ "java/lang/invoke/VarHandle" ∧ (parseMethodDescriptor yX8_init.desc).map (fun d => d.parameters.length) = some 0 := by decide +kernel
theorem zd_X8 : ∀ j, j < 12 → defaultValue (tyX8 j) = vp_V (df 8) j := by decide +kernel
theorem zh_X9 : yX9_init.cls ≠ "java/lang/invoke/MethodHandle" ∧ yX9_init.cls ≠ "java/lang/invoke/VarHandle" ∧ (parseMethodDescriptor yX9_init.desc).map (fun d => d.parameters.length) = some 0 := by decide +kernel
theorem zd_X9 : ∀ j, j < 33 → defaultValue (tyX9 j) = vp_V (df 9) j := by decide +kernel
theorem dI_X6_0 : decode cX6_init 0 = .ok (.aload_n 0, 1) := by decide +kernel
theorem dI_X6_1 : decode cX6_init 1 = .ok (.invokespecial 3, 3) := by decide +kernel
theorem dI_X6_4 : decode cX6_init 4 = .ok (.aload_n 0, 1) := by decide +kernel
theorem dI_X6_5 : decode cX6_init 5 = .ok (.sipush 400, 3) := by decide +kernel
theorem dI_X6_8 : decode cX6_init 8 = .ok (.newarray .byte, 2) := by decide +kernel
theorem dI_X6_10 : decode cX6_init 10 = .ok (.putfield 9, 3) := by decide +kernel
theorem dI_X6_13 : decode cX6_init 13 = .ok (.aload_n 0, 1) := by decide +kernel
theorem dI_X6_14 : decode cX6_init 14 = .ok (.iconst 0, 1) := by decide +kernel
theorem dI_X6_15 : decode cX6_init 15 = .ok (.putfield 15, 3) := by decide +kernel
theorem dI_X6_18 : decode cX6_init 18 = .ok (.return_, 1) := by decide +kernel
theorem zg_X6 (G : Gp) : [.ref (gb G + (1 + 1)), .int (nI 0)] = flds (gb G) 1 6 (st0 1) := by
  rfl
theorem hfin_X6 (G : Gp) : ∀ j, j < 2 → ∀ H : Heap, va_at (gD G) vwCl (gb G + (1 + j), pf G 1 [.inr (6, [.ref (gb G + (1 + 1)), .int (nI 0)]), .inl (G.2.2.1.2.1, 400, .inl (fun _ => 0))] j) H → va_at (gD G) vwCl (gb G + (1 + j), ent G (1 + j) (st0 (1 + j))) H := by
  intro j hj H h
  rcases (show j = 0 ∨ j = 1 ∨ 2 ≤ j by omega) with rfl | rfl | hj2
  · exact fin_o (ci := 6) ly_1 (by decide) (zg_X6 G) h
  · exact fin_b (N := 400) ly_2 (fun j _ => (st0_z ly_2 (by decide) (by decide) (by decide) (by decide) (by decide) (by decide) j).symm) h
  · rw [pf_out hj2] at h
    exact h
set_option maxRecDepth 20000 in
set_option maxHeartbeats 4000000 in
theorem C_init_X6 (l : Launch) (G : Gp) : CI l yX6_init cX6_init 1 1 20 1 400 G 1 6 2 [] := by
  refine CI_of (L := [(0, .ref (gb G + 1))]) RX6 (by decide) rfl rfl (Nat.le_of_ble_eq_true rfl) rfl ?_
  intro p e s m below meth c F hx hm
  refine JI_eq 1 0 0 (pf G 1 [.inr (6, [.null, .int 0])]) rfl rfl rfl rfl ?_
  refine JI_aln F 0 dI_X6_0 rfl rfl ?_
  refine JI_obj F zo_X6 zO1 zO2 (by decide) (Nat.le_of_ble_eq_true rfl) (Nat.le_of_ble_eq_true rfl) dI_X6_1 ?_
  refine JI_aln F 0 dI_X6_4 rfl rfl ?_
  refine JI_si F (v := (nI 400)) dI_X6_5 (by decide) ?_
  refine JI_newa F (atype := .byte) (ty := .byte) (cA := G.2.2.1.2.1) (a0 := (400, .inl (fun _ => 0))) (N := 400) 1 rfl rfl (fun h => h) (fun cA => vc_byte cA 400) za_byte (by decide) (by decide) (by decide) (Nat.le_of_ble_eq_true rfl) (Nat.le_of_ble_eq_true rfl) dI_X6_8 ?_
  refine JI_eq 2 1 400 (pf G 1 [.inr (6, [.null, .int 0]), .inl (G.2.2.1.2.1, 400, .inl (fun _ => 0))]) rfl rfl rfl (pf_new rfl rfl) ?_
  refine JI_putF F hm (ci := 6) 0 0 rfl inX6 tyX6 tyX6_ok nmX6 (by decide) rfl (by decide) zf_X6_9 rfl rfl rfl (tyX6_ok 0 (by decide)) rfl rfl (Nat.le_of_ble_eq_true rfl) dI_X6_10 ?_
  refine JI_eq 2 1 400 (pf G 1 [.inr (6, [.ref (gb G + (1 + 1)), .int 0]), .inl (G.2.2.1.2.1, 400, .inl (fun _ => 0))]) rfl rfl rfl (pf_set (Nat.le_of_ble_eq_true rfl) rfl) ?_
  refine JI_aln F 0 dI_X6_13 rfl rfl ?_
  refine JI_ic F (v := (nI 0)) dI_X6_14 (by decide) ?_
  refine JI_put F (ci := 6) 0 1 rfl inX6 tyX6 tyX6_ok nmX6 (by decide) rfl (by decide) zf_X6_15 rfl rfl (tyX6_ok 1 (by decide)) rfl rfl (Nat.le_of_ble_eq_true rfl) dI_X6_15 ?_
  refine JI_eq 2 1 400 (pf G 1 [.inr (6, [.ref (gb G + (1 + 1)), .int (nI 0)]), .inl (G.2.2.1.2.1, 400, .inl (fun _ => 0))]) rfl rfl rfl (pf_set (Nat.le_of_ble_eq_true rfl) rfl) ?_
  exact JI_ret F (Nat.le_refl _) (Nat.le_refl _) rfl (hfin_X6 G) dI_X6_18
theorem dI_X3_0 : decode cX3_init 0 = .ok (.aload_n 0, 1) := by decide +kernel
theorem dI_X3_1 : decode cX3_init 1 = .ok (.invokespecial 3, 3) := by decide +kernel
theorem dI_X3_4 : decode cX3_init 4 = .ok (.aload_n 0, 1) := by decide +kernel
theorem dI_X3_5 : decode cX3_init 5 = .ok (.iconst 0, 1) := by decide +kernel
theorem dI_X3_6 : decode cX3_init 6 = .ok (.putfield 9, 3) := by decide +kernel
theorem dI_X3_9 : decode cX3_init 9 = .ok (.aload_n 0, 1) := by decide +kernel
theorem dI_X3_10 : decode cX3_init 10 = .ok (.iconst 0, 1) := by decide +kernel
theorem dI_X3_11 : decode cX3_init 11 = .ok (.putfield 15, 3) := by decide +kernel
theorem dI_X3_14 : decode cX3_init 14 = .ok (.aload_n 0, 1) := by decide +kernel
theorem dI_X3_15 : decode cX3_init 15 = .ok (.iconst 0, 1) := by decide +kernel
theorem dI_X3_16 : decode cX3_init 16 = .ok (.putfield 18, 3) := by decide +kernel
theorem dI_X3_19 : decode cX3_init 19 = .ok (.aload_n 0, 1) := by decide +kernel
theorem dI_X3_20 : decode cX3_init 20 = .ok (.iconst 0, 1) := by decide +kernel
theorem dI_X3_21 : decode cX3_init 21 = .ok (.putfield 21, 3) := by decide +kernel
theorem dI_X3_24 : decode cX3_init 24 = .ok (.aload_n 0, 1) := by decide +kernel
theorem dI_X3_25 : decode cX3_init 25 = .ok (.aload_n 1, 1) := by decide +kernel
theorem dI_X3_26 : decode cX3_init 26 = .ok (.putfield 25, 3) := by decide +kernel
theorem dI_X3_29 : decode cX3_init 29 = .ok (.return_, 1) := by decide +kernel
theorem zg_X3 (G : Gp) : [.ref (gb G + 1), .int (nI 0), .int (nI 0), .int (nI 0), .int (nI 0)] = flds (gb G) 3 3 (st0 3) := by
  rfl
theorem hfin_X3 (G : Gp) : ∀ j, j < 1 → ∀ H : Heap, va_at (gD G) vwCl (gb G + (3 + j), pf G 3 [.inr (3, [.ref (gb G + 1), .int (nI 0), .int (nI 0), .int (nI 0), .int (nI 0)])] j) H → va_at (gD G) vwCl (gb G + (3 + j), ent G (3 + j) (st0 (3 + j))) H := by
  intro j hj H h
  rcases (show j = 0 ∨ 1 ≤ j by omega) with rfl | hj2
  · exact fin_o (ci := 3) ly_3 (by decide) (zg_X3 G) h
  · rw [pf_out hj2] at h
    exact h
set_option maxRecDepth 20000 in
set_option maxHeartbeats 4000000 in
theorem C_init_X3 (l : Launch) (G : Gp) : CI l yX3_init cX3_init 2 1 20 0 0 G 3 3 1 [.ref (gb G + 1)] := by
  refine CI_of (L := [(0, .ref (gb G + 3)), (1, .ref (gb G + 1))]) RX3 (by decide) rfl rfl (Nat.le_of_ble_eq_true rfl) rfl ?_
  intro p e s m below meth c F hx hm
  refine JI_eq 1 0 0 (pf G 3 [.inr (3, [.null, .int 0, .int 0, .int 0, .int 0])]) rfl rfl rfl rfl ?_
  refine JI_aln F 0 dI_X3_0 rfl rfl ?_
  refine JI_obj F zo_X3 zO1 zO2 (by decide) (Nat.le_of_ble_eq_true rfl) (Nat.le_of_ble_eq_true rfl) dI_X3_1 ?_
  refine JI_aln F 0 dI_X3_4 rfl rfl ?_
  refine JI_ic F (v := (nI 0)) dI_X3_5 (by decide) ?_
  refine JI_put F (ci := 3) 0 1 rfl inX3 tyX3 tyX3_ok nmX3 (by decide) rfl (by decide) zf_X3_9 rfl rfl (tyX3_ok 1 (by decide)) rfl rfl (Nat.le_of_ble_eq_true rfl) dI_X3_6 ?_
  refine JI_eq 1 0 0 (pf G 3 [.inr (3, [.null, .int (nI 0), .int 0, .int 0, .int 0])]) rfl rfl rfl (pf_set (Nat.le_of_ble_eq_true rfl) rfl) ?_
  refine JI_aln F 0 dI_X3_9 rfl rfl ?_
  refine JI_ic F (v := (nI 0)) dI_X3_10 (by decide) ?_
  refine JI_put F (ci := 3) 0 2 rfl inX3 tyX3 tyX3_ok nmX3 (by decide) rfl (by decide) zf_X3_15 rfl rfl (tyX3_ok 2 (by decide)) rfl rfl (Nat.le_of_ble_eq_true rfl) dI_X3_11 ?_
  refine JI_eq 1 0 0 (pf G 3 [.inr (3, [.null, .int (nI 0), .int (nI 0), .int 0, .int 0])]) rfl rfl rfl (pf_set (Nat.le_of_ble_eq_true rfl) rfl) ?_
  refine JI_aln F 0 dI_X3_14 rfl rfl ?_
  refine JI_ic F (v := (nI 0)) dI_X3_15 (by decide) ?_
  refine JI_put F (ci := 3) 0 3 rfl inX3 tyX3 tyX3_ok nmX3 (by decide) rfl (by decide) zf_X3_18 rfl rfl (tyX3_ok 3 (by decide)) rfl rfl (Nat.le_of_ble_eq_true rfl) dI_X3_16 ?_
  refine JI_eq 1 0 0 (pf G 3 [.inr (3, [.null, .int (nI 0), .int (nI 0), .int (nI 0), .int 0])]) rfl rfl rfl (pf_set (Nat.le_of_ble_eq_true rfl) rfl) ?_
  refine JI_aln F 0 dI_X3_19 rfl rfl ?_
  refine JI_ic F (v := (nI 0)) dI_X3_20 (by decide) ?_
  refine JI_put F (ci := 3) 0 4 rfl inX3 tyX3 tyX3_ok nmX3 (by decide) rfl (by decide) zf_X3_21 rfl rfl (tyX3_ok 4 (by decide)) rfl rfl (Nat.le_of_ble_eq_true rfl) dI_X3_21 ?_
  refine JI_eq 1 0 0 (pf G 3 [.inr (3, [.null, .int (nI 0), .int (nI 0), .int (nI 0), .int (nI 0)])]) rfl rfl rfl (pf_set (Nat.le_of_ble_eq_true rfl) rfl) ?_
  refine JI_aln F 0 dI_X3_24 rfl rfl ?_
  refine JI_aln F 1 dI_X3_25 rfl rfl ?_
  refine JI_putF F hm (ci := 3) 0 0 rfl inX3 tyX3 tyX3_ok nmX3 (by decide) rfl (by decide) zf_X3_25 rfl rfl rfl (tyX3_ok 0 (by decide)) rfl rfl (Nat.le_of_ble_eq_true rfl) dI_X3_26 ?_
  refine JI_eq 1 0 0 (pf G 3 [.inr (3, [.ref (gb G + 1), .int (nI 0), .int (nI 0), .int (nI 0), .int (nI 0)])]) rfl rfl rfl (pf_set (Nat.le_of_ble_eq_true rfl) rfl) ?_
  exact JI_ret F (Nat.le_refl _) (Nat.le_refl _) rfl (hfin_X3 G) dI_X3_29
theorem dI_X0_0 : decode cX0_init 0 = .ok (.aload_n 0, 1) := by decide +kernel
theorem dI_X0_1 : decode cX0_init 1 = .ok (.invokespecial 3, 3) := by decide +kernel
theorem dI_X0_4 : decode cX0_init 4 = .ok (.aload_n 0, 1) := by decide +kernel
theorem dI_X0_5 : decode cX0_init 5 = .ok (.iconst 4, 1) := by decide +kernel
theorem dI_X0_6 : decode cX0_init 6 = .ok (.newarray .int, 2) := by decide +kernel
theorem dI_X0_8 : decode cX0_init 8 = .ok (.putfield 9, 3) := by decide +kernel
theorem dI_X0_11 : decode cX0_init 11 = .ok (.aload_n 0, 1) := by decide +kernel
theorem dI_X0_12 : decode cX0_init 12 = .ok (.iconst 0, 1) := by decide +kernel
theorem dI_X0_13 : decode cX0_init 13 = .ok (.putfield 15, 3) := by decide +kernel
theorem dI_X0_16 : decode cX0_init 16 = .ok (.return_, 1) := by decide +kernel
theorem zg_X0 (G : Gp) : [.ref (gb G + (4 + 1)), .int (nI 0)] = flds (gb G) 4 0 (st0 4) := by
  rfl
theorem hfin_X0 (G : Gp) : ∀ j, j < 2 → ∀ H : Heap, va_at (gD G) vwCl (gb G + (4 + j), pf G 4 [.inr (0, [.ref (gb G + (4 + 1)), .int (nI 0)]), .inl (G.2.2.1.1, 4, .inl (fun _ => 0))] j) H → va_at (gD G) vwCl (gb G + (4 + j), ent G (4 + j) (st0 (4 + j))) H := by
  intro j hj H h
  rcases (show j = 0 ∨ j = 1 ∨ 2 ≤ j by omega) with rfl | rfl | hj2
  · exact fin_o (ci := 0) ly_4 (by decide) (zg_X0 G) h
  · exact fin_i (N := 4) ly_5 (fun j _ => (st0_z ly_5 (by decide) (by decide) (by decide) (by decide) (by decide) (by decide) j).symm) h
  · rw [pf_out hj2] at h
    exact h
set_option maxRecDepth 20000 in
set_option maxHeartbeats 4000000 in
theorem C_init_X0 (l : Launch) (G : Gp) : CI l yX0_init cX0_init 1 1 20 1 4 G 4 0 2 [] := by
  refine CI_of (L := [(0, .ref (gb G + 4))]) RX0 (by decide) rfl rfl (Nat.le_of_ble_eq_true rfl) rfl ?_
  intro p e s m below meth c F hx hm
  refine JI_eq 1 0 0 (pf G 4 [.inr (0, [.null, .int 0])]) rfl rfl rfl rfl ?_
  refine JI_aln F 0 dI_X0_0 rfl rfl ?_
  refine JI_obj F zo_X0 zO1 zO2 (by decide) (Nat.le_of_ble_eq_true rfl) (Nat.le_of_ble_eq_true rfl) dI_X0_1 ?_
  refine JI_aln F 0 dI_X0_4 rfl rfl ?_
  refine JI_ic F (v := (nI 4)) dI_X0_5 (by decide) ?_
  refine JI_newa F (atype := .int) (ty := .int) (cA := G.2.2.1.1) (a0 := (4, .inl (fun _ => 0))) (N := 4) 0 rfl rfl (fun h => h) (fun cA => vc_int cA 4) za_int (by decide) (by decide) (by decide) (Nat.le_of_ble_eq_true rfl) (Nat.le_of_ble_eq_true rfl) dI_X0_6 ?_
  refine JI_eq 2 1 4 (pf G 4 [.inr (0, [.null, .int 0]), .inl (G.2.2.1.1, 4, .inl (fun _ => 0))]) rfl rfl rfl (pf_new rfl rfl) ?_
  refine JI_putF F hm (ci := 0) 0 0 rfl inX0 tyX0 tyX0_ok nmX0 (by decide) rfl (by decide) zf_X0_9 rfl rfl rfl (tyX0_ok 0 (by decide)) rfl rfl (Nat.le_of_ble_eq_true rfl) dI_X0_8 ?_
  refine JI_eq 2 1 4 (pf G 4 [.inr (0, [.ref (gb G + (4 + 1)), .int 0]), .inl (G.2.2.1.1, 4, .inl (fun _ => 0))]) rfl rfl rfl (pf_set (Nat.le_of_ble_eq_true rfl) rfl) ?_
  refine JI_aln F 0 dI_X0_11 rfl rfl ?_
  refine JI_ic F (v := (nI 0)) dI_X0_12 (by decide) ?_
  refine JI_put F (ci := 0) 0 1 rfl inX0 tyX0 tyX0_ok nmX0 (by decide) rfl (by decide) zf_X0_15 rfl rfl (tyX0_ok 1 (by decide)) rfl rfl (Nat.le_of_ble_eq_true rfl) dI_X0_13 ?_
  refine JI_eq 2 1 4 (pf G 4 [.inr (0, [.ref (gb G + (4 + 1)), .int (nI 0)]), .inl (G.2.2.1.1, 4, .inl (fun _ => 0))]) rfl rfl rfl (pf_set (Nat.le_of_ble_eq_true rfl) rfl) ?_
  exact JI_ret F (Nat.le_refl _) (Nat.le_refl _) rfl (hfin_X0 G) dI_X0_16
theorem dI_X4_0 : decode cX4_init 0 = .ok (.aload_n 0, 1) := by decide +kernel
theorem dI_X4_1 : decode cX4_init 1 = .ok (.invokespecial 3, 3) := by decide +kernel
theorem dI_X4_4 : decode cX4_init 4 = .ok (.aload_n 0, 1) := by decide +kernel
theorem dI_X4_5 : decode cX4_init 5 = .ok (.sipush 2048, 3) := by decide +kernel
theorem dI_X4_8 : decode cX4_init 8 = .ok (.newarray .int, 2) := by decide +kernel
theorem dI_X4_10 : decode cX4_init 10 = .ok (.putfield 9, 3) := by decide +kernel
theorem dI_X4_13 : decode cX4_init 13 = .ok (.aload_n 0, 1) := by decide +kernel
theorem dI_X4_14 : decode cX4_init 14 = .ok (.bipush 10, 2) := by decide +kernel
theorem dI_X4_16 : decode cX4_init 16 = .ok (.newarray .int, 2) := by decide +kernel
theorem dI_X4_18 : decode cX4_init 18 = .ok (.putfield 15, 3) := by decide +kernel
theorem dI_X4_21 : decode cX4_init 21 = .ok (.aload_n 0, 1) := by decide +kernel
theorem dI_X4_22 : decode cX4_init 22 = .ok (.bipush 10, 2) := by decide +kernel
theorem dI_X4_24 : decode cX4_init 24 = .ok (.newarray .int, 2) := by decide +kernel
theorem dI_X4_26 : decode cX4_init 26 = .ok (.putfield 18, 3) := by decide +kernel
theorem dI_X4_29 : decode cX4_init 29 = .ok (.return_, 1) := by decide +kernel
theorem zg_X4 (G : Gp) (k : Nat) (hk : lay k = (4, 0)) : [.ref (gb G + (k + 1)), .ref (gb G + (k + 2)), .ref (gb G + (k + 3))] = flds (gb G) k 4 (st0 k) := by
  rfl
theorem hfin_X4 (G : Gp) (k : Nat) (hk : lay k = (4, 0)) : ∀ j, j < 4 → ∀ H : Heap, va_at (gD G) vwCl (gb G + (k + j), pf G k [.inr (4, [.ref (gb G + (k + 1)), .ref (gb G + (k + 2)), .ref (gb G + (k + 3))]), .inl (G.2.2.1.1, 2048, .inl (fun _ => 0)), .inl (G.2.2.1.1, 10, .inl (fun _ => 0)), .inl (G.2.2.1.1, 10, .inl (fun _ => 0))] j) H → va_at (gD G) vwCl (gb G + (k + j), ent G (k + j) (st0 (k + j))) H := by
  intro j hj H h
  rcases (show j = 0 ∨ j = 1 ∨ j = 2 ∨ j = 3 ∨ 4 ≤ j by omega) with rfl | rfl | rfl | rfl | hj2
  · exact fin_o (ci := 4) hk (by decide) (zg_X4 G k hk) h
  · exact fin_i (N := 2048) (lay_space hk).1 (fun j _ => (st0_z (lay_space hk).1 (by decide) (by decide) (by decide) (by decide) (by decide) (by decide) j).symm) h
  · exact fin_i (N := 10) (lay_space hk).2.1 (fun j _ => (st0_z (lay_space hk).2.1 (by decide) (by decide) (by decide) (by decide) (by decide) (by decide) j).symm) h
  · exact fin_i (N := 10) (lay_space hk).2.2 (fun j _ => (st0_z (lay_space hk).2.2 (by decide) (by decide) (by decide) (by decide) (by decide) (by decide) j).symm) h
  · rw [pf_out hj2] at h
    exact h
set_option maxRecDepth 20000 in
set_option maxHeartbeats 4000000 in
theorem C_init_X4 (l : Launch) (G : Gp) (k : Nat) (hk : lay k = (4, 0)) : CI l yX4_init cX4_init 1 1 20 3 2068 G k 4 4 [] := by
  refine CI_of (L := [(0, .ref (gb G + k))]) RX4 (by decide) rfl rfl (Nat.le_of_ble_eq_true rfl) rfl ?_
  intro p e s m below meth c F hx hm
  refine JI_eq 1 0 0 (pf G k [.inr (4, [.null, .null, .null])]) rfl rfl rfl rfl ?_
  refine JI_aln F 0 dI_X4_0 rfl rfl ?_
  refine JI_obj F zo_X4 zO1 zO2 (by decide) (Nat.le_of_ble_eq_true rfl) (Nat.le_of_ble_eq_true rfl) dI_X4_1 ?_
  refine JI_aln F 0 dI_X4_4 rfl rfl ?_
  refine JI_si F (v := (nI 2048)) dI_X4_5 (by decide) ?_
  refine JI_newa F (atype := .int) (ty := .int) (cA := G.2.2.1.1) (a0 := (2048, .inl (fun _ => 0))) (N := 2048) 0 rfl rfl (fun h => h) (fun cA => vc_int cA 2048) za_int (by decide) (by decide) (by decide) (Nat.le_of_ble_eq_true rfl) (Nat.le_of_ble_eq_true rfl) dI_X4_8 ?_
  refine JI_eq 2 1 2048 (pf G k [.inr (4, [.null, .null, .null]), .inl (G.2.2.1.1, 2048, .inl (fun _ => 0))]) rfl rfl rfl (pf_new rfl rfl) ?_
  refine JI_putF F hm (ci := 4) 0 0 rfl inX4 tyX4 tyX4_ok nmX4 (by decide) rfl (by decide) zf_X4_9 rfl rfl rfl (tyX4_ok 0 (by decide)) rfl rfl (Nat.le_of_ble_eq_true rfl) dI_X4_10 ?_
  refine JI_eq 2 1 2048 (pf G k [.inr (4, [.ref (gb G + (k + 1)), .null, .null]), .inl (G.2.2.1.1, 2048, .inl (fun _ => 0))]) rfl rfl rfl (pf_set (Nat.le_of_ble_eq_true rfl) rfl) ?_
  refine JI_aln F 0 dI_X4_13 rfl rfl ?_
  refine JI_bi F (v := (nI 10)) dI_X4_14 (by decide) ?_
  refine JI_newa F (atype := .int) (ty := .int) (cA := G.2.2.1.1) (a0 := (10, .inl (fun _ => 0))) (N := 10) 0 rfl rfl (fun h => h) (fun cA => vc_int cA 10) za_int (by decide) (by decide) (by decide) (Nat.le_of_ble_eq_true rfl) (Nat.le_of_ble_eq_true rfl) dI_X4_16 ?_
  refine JI_eq 3 2 2058 (pf G k [.inr (4, [.ref (gb G + (k + 1)), .null, .null]), .inl (G.2.2.1.1, 2048, .inl (fun _ => 0)), .inl (G.2.2.1.1, 10, .inl (fun _ => 0))]) rfl rfl rfl (pf_new rfl rfl) ?_
  refine JI_putF F hm (ci := 4) 0 1 rfl inX4 tyX4 tyX4_ok nmX4 (by decide) rfl (by decide) zf_X4_15 rfl rfl rfl (tyX4_ok 1 (by decide)) rfl rfl (Nat.le_of_ble_eq_true rfl) dI_X4_18 ?_
  refine JI_eq 3 2 2058 (pf G k [.inr (4, [.ref (gb G + (k + 1)), .ref (gb G + (k + 2)), .null]), .inl (G.2.2.1.1, 2048, .inl (fun _ => 0)), .inl (G.2.2.1.1, 10, .inl (fun _ => 0))]) rfl rfl rfl (pf_set (Nat.le_of_ble_eq_true rfl) rfl) ?_
  refine JI_aln F 0 dI_X4_21 rfl rfl ?_
  refine JI_bi F (v := (nI 10)) dI_X4_22 (by decide) ?_
  refine JI_newa F (atype := .int) (ty := .int) (cA := G.2.2.1.1) (a0 := (10, .inl (fun _ => 0))) (N := 10) 0 rfl rfl (fun h => h) (fun cA => vc_int cA 10) za_int (by decide) (by decide) (by decide) (Nat.le_of_ble_eq_true rfl) (Nat.le_of_ble_eq_true rfl) dI_X4_24 ?_
  refine JI_eq 4 3 2068 (pf G k [.inr (4, [.ref (gb G + (k + 1)), .ref (gb G + (k + 2)), .null]), .inl (G.2.2.1.1, 2048, .inl (fun _ => 0)), .inl (G.2.2.1.1, 10, .inl (fun _ => 0)), .inl (G.2.2.1.1, 10, .inl (fun _ => 0))]) rfl rfl rfl (pf_new rfl rfl) ?_
  refine JI_putF F hm (ci := 4) 0 2 rfl inX4 tyX4 tyX4_ok nmX4 (by decide) rfl (by decide) zf_X4_18 rfl rfl rfl (tyX4_ok 2 (by decide)) rfl rfl (Nat.le_of_ble_eq_true rfl) dI_X4_26 ?_
  refine JI_eq 4 3 2068 (pf G k [.inr (4, [.ref (gb G + (k + 1)), .ref (gb G + (k + 2)), .ref (gb G + (k + 3))]), .inl (G.2.2.1.1, 2048, .inl (fun _ => 0)), .inl (G.2.2.1.1, 10, .inl (fun _ => 0)), .inl (G.2.2.1.1, 10, .inl (fun _ => 0))]) rfl rfl rfl (pf_set (Nat.le_of_ble_eq_true rfl) rfl) ?_
  exact JI_ret F (Nat.le_refl _) (Nat.le_refl _) rfl (hfin_X4 G k hk) dI_X4_29
theorem dI_X1_0 : decode cX1_init 0 = .ok (.aload_n 0, 1) := by decide +kernel
theorem dI_X1_1 : decode cX1_init 1 = .ok (.invokespecial 3, 3) := by decide +kernel
theorem dI_X1_4 : decode cX1_init 4 = .ok (.aload_n 0, 1) := by decide +kernel
theorem dI_X1_5 : decode cX1_init 5 = .ok (.iconst 3, 1) := by decide +kernel
theorem dI_X1_6 : decode cX1_init 6 = .ok (.anewarray 9, 3) := by decide +kernel
theorem dI_X1_9 : decode cX1_init 9 = .ok (.putfield 11, 3) := by decide +kernel
theorem dI_X1_12 : decode cX1_init 12 = .ok (.aload_n 0, 1) := by decide +kernel
theorem dI_X1_13 : decode cX1_init 13 = .ok (.bipush 10, 2) := by decide +kernel
theorem dI_X1_15 : decode cX1_init 15 = .ok (.newarray .int, 2) := by decide +kernel
theorem dI_X1_17 : decode cX1_init 17 = .ok (.putfield 17, 3) := by decide +kernel
theorem dI_X1_20 : decode cX1_init 20 = .ok (.aload_n 0, 1) := by decide +kernel
theorem dI_X1_21 : decode cX1_init 21 = .ok (.bipush 10, 2) := by decide +kernel
theorem dI_X1_23 : decode cX1_init 23 = .ok (.newarray .int, 2) := by decide +kernel
theorem dI_X1_25 : decode cX1_init 25 = .ok (.putfield 21, 3) := by decide +kernel
theorem dI_X1_28 : decode cX1_init 28 = .ok (.aload_n 0, 1) := by decide +kernel
theorem dI_X1_29 : decode cX1_init 29 = .ok (.bipush 10, 2) := by decide +kernel
theorem dI_X1_31 : decode cX1_init 31 = .ok (.newarray .int, 2) := by decide +kernel
theorem dI_X1_33 : decode cX1_init 33 = .ok (.putfield 24, 3) := by decide +kernel
theorem dI_X1_36 : decode cX1_init 36 = .ok (.aload_n 0, 1) := by decide +kernel
theorem dI_X1_37 : decode cX1_init 37 = .ok (.iconst 3, 1) := by decide +kernel
theorem dI_X1_38 : decode cX1_init 38 = .ok (.newarray .int, 2) := by decide +kernel
theorem dI_X1_40 : decode cX1_init 40 = .ok (.putfield 27, 3) := by decide +kernel
theorem dI_X1_43 : decode cX1_init 43 = .ok (.aload_n 0, 1) := by decide +kernel
theorem dI_X1_44 : decode cX1_init 44 = .ok (.iconst 3, 1) := by decide +kernel
theorem dI_X1_45 : decode cX1_init 45 = .ok (.newarray .int, 2) := by decide +kernel
theorem dI_X1_47 : decode cX1_init 47 = .ok (.putfield 30, 3) := by decide +kernel
theorem dI_X1_50 : decode cX1_init 50 = .ok (.aload_n 0, 1) := by decide +kernel
theorem dI_X1_51 : decode cX1_init 51 = .ok (.bipush 100, 2) := by decide +kernel
theorem dI_X1_53 : decode cX1_init 53 = .ok (.newarray .int, 2) := by decide +kernel
theorem dI_X1_55 : decode cX1_init 55 = .ok (.putfield 33, 3) := by decide +kernel
theorem dI_X1_58 : decode cX1_init 58 = .ok (.aload_n 0, 1) := by decide +kernel
theorem dI_X1_59 : decode cX1_init 59 = .ok (.bipush 100, 2) := by decide +kernel
theorem dI_X1_61 : decode cX1_init 61 = .ok (.newarray .int, 2) := by decide +kernel
theorem dI_X1_63 : decode cX1_init 63 = .ok (.putfield 36, 3) := by decide +kernel
theorem dI_X1_66 : decode cX1_init 66 = .ok (.aload_n 0, 1) := by decide +kernel
theorem dI_X1_67 : decode cX1_init 67 = .ok (.iconst 0, 1) := by decide +kernel
theorem dI_X1_68 : decode cX1_init 68 = .ok (.putfield 39, 3) := by decide +kernel
theorem dI_X1_71 : decode cX1_init 71 = .ok (.aload_n 0, 1) := by decide +kernel
theorem dI_X1_72 : decode cX1_init 72 = .ok (.iconst 1, 1) := by decide +kernel
theorem dI_X1_73 : decode cX1_init 73 = .ok (.putfield 43, 3) := by decide +kernel
theorem dI_X1_76 : decode cX1_init 76 = .ok (.iconst 0, 1) := by decide +kernel
theorem dI_X1_77 : decode cX1_init 77 = .ok (.istore_n 1, 1) := by decide +kernel
theorem dI_X1_78 : decode cX1_init 78 = .ok (.iload_n 1, 1) := by decide +kernel
theorem dI_X1_79 : decode cX1_init 79 = .ok (.iconst 3, 1) := by decide +kernel
theorem dI_X1_80 : decode cX1_init 80 = .ok (.if_icmp .ge 22, 3) := by decide +kernel
theorem dI_X1_83 : decode cX1_init 83 = .ok (.aload_n 0, 1) := by decide +kernel
theorem dI_X1_84 : decode cX1_init 84 = .ok (.getfield 11, 3) := by decide +kernel
theorem dI_X1_87 : decode cX1_init 87 = .ok (.iload_n 1, 1) := by decide +kernel
theorem dI_X1_88 : decode cX1_init 88 = .ok (.new 9, 3) := by decide +kernel
theorem dI_X1_91 : decode cX1_init 91 = .ok (.dup, 1) := by decide +kernel
theorem dI_X1_92 : decode cX1_init 92 = .ok (.invokespecial 46, 3) := by decide +kernel
theorem dI_X1_95 : decode cX1_init 95 = .ok (.aastore, 1) := by decide +kernel
theorem dI_X1_96 : decode cX1_init 96 = .ok (.iinc 1 1, 3) := by decide +kernel
theorem dI_X1_99 : decode cX1_init 99 = .ok (.goto (-21), 3) := by decide +kernel
theorem dI_X1_102 : decode cX1_init 102 = .ok (.aload_n 0, 1) := by decide +kernel
theorem dI_X1_103 : decode cX1_init 103 = .ok (.getfield 33, 3) := by decide +kernel
theorem dI_X1_106 : decode cX1_init 106 = .ok (.iconst (-1), 1) := by decide +kernel
theorem dI_X1_107 : decode cX1_init 107 = .ok (.invokestatic 47, 3) := by decide +kernel
theorem dI_X1_110 : decode cX1_init 110 = .ok (.return_, 1) := by decide +kernel
theorem zg_X1 (G : Gp) (k : Nat) (hk : lay k = (1, 0)) : [.ref (gb G + (k + 1)), .ref (gb G + (k + 2)), .ref (gb G + (k + 3)), .ref (gb G + (k + 4)), .ref (gb G + (k + 5)), .ref (gb G + (k + 6)), .ref (gb G + (k + 7)), .ref (gb G + (k + 8)), .int (nI 0), .int (nI 1)] = flds (gb G) k 1 (st0 k) := by
  simp [flds, fsp, fval, st0_net hk, Nat.add_assoc, List.mapIdx_cons]
theorem hfin_X1 (G : Gp) (k : Nat) (hk : lay k = (1, 0)) : ∀ j, j < 21 → ∀ H : Heap, va_at (gD G) vwCl (gb G + (k + j), pf G k [.inr (1, [.ref (gb G + (k + 1)), .ref (gb G + (k + 2)), .ref (gb G + (k + 3)), .ref (gb G + (k + 4)), .ref (gb G + (k + 5)), .ref (gb G + (k + 6)), .ref (gb G + (k + 7)), .ref (gb G + (k + 8)), .int (nI 0), .int (nI 1)]), .inl (G.2.2.1.2.2.2.1, 3, .inr (.inr (.inr (.inr (va_up (va_up (va_up (fun _ => none) (nI 0).toNatClampNeg (some (gb G + (k + 9)))) (nI 1).toNatClampNeg (some (gb G + (k + 13)))) (nI 2).toNatClampNeg (some (gb G + (k + 17)))))))), .inl (G.2.2.1.1, 10, .inl (fun _ => 0)), .inl (G.2.2.1.1, 10, .inl (fun _ => 0)), .inl (G.2.2.1.1, 10, .inl (fun _ => 0)), .inl (G.2.2.1.1, 3, .inl (fun _ => 0)), .inl (G.2.2.1.1, 3, .inl (fun _ => 0)), .inl (G.2.2.1.1, 100, .inl (fun _ => (-1))), .inl (G.2.2.1.1, 100, .inl (fun _ => 0))] j) H → va_at (gD G) vwCl (gb G + (k + j), ent G (k + j) (st0 (k + j))) H := by
  intro j hj H h
  rcases (show j = 0 ∨ j = 1 ∨ j = 2 ∨ j = 3 ∨ j = 4 ∨ j = 5 ∨ j = 6 ∨ j = 7 ∨ j = 8 ∨ 9 ≤ j by omega) with rfl | rfl | rfl | rfl | rfl | rfl | rfl | rfl | rfl | hj2
  · exact fin_o (ci := 1) hk (by decide) (zg_X1 G k hk) h
  · refine fin_S (N := 3) (lay_net hk).1 (fun j hj => ?_) h
    rcases (show j = 0 ∨ j = 1 ∨ j = 2 by omega) with rfl | rfl | rfl <;> rfl
  · exact fin_i (N := 10) (lay_net hk).2.1 (fun j _ => (st0_z (lay_net hk).2.1 (by decide) (by decide) (by decide) (by decide) (by decide) (by decide) j).symm) h
  · exact fin_i (N := 10) (lay_net hk).2.2.1 (fun j _ => (st0_z (lay_net hk).2.2.1 (by decide) (by decide) (by decide) (by decide) (by decide) (by decide) j).symm) h
  · exact fin_i (N := 10) (lay_net hk).2.2.2.1 (fun j _ => (st0_z (lay_net hk).2.2.2.1 (by decide) (by decide) (by decide) (by decide) (by decide) (by decide) j).symm) h
  · exact fin_i (N := 3) (lay_net hk).2.2.2.2.1 (fun j _ => (st0_z (lay_net hk).2.2.2.2.1 (by decide) (by decide) (by decide) (by decide) (by decide) (by decide) j).symm) h
  · exact fin_i (N := 3) (lay_net hk).2.2.2.2.2.1 (fun j _ => (st0_z (lay_net hk).2.2.2.2.2.1 (by decide) (by decide) (by decide) (by decide) (by decide) (by decide) j).symm) h
  · exact fin_i (N := 100) (lay_net hk).2.2.2.2.2.2.1 (fun j _ => (st0_val hk j).symm) h
  · exact fin_i (N := 100) (lay_net hk).2.2.2.2.2.2.2.1 (fun j _ => (st0_cop hk j).symm) h
  · rw [pf_out hj2] at h
    exact h
set_option maxRecDepth 20000 in
set_option maxHeartbeats 4000000 in
theorem C_init_X1 (l : Launch) (G : Gp) (k : Nat) (hk : lay k = (1, 0)) : CI l yX1_init cX1_init 2 2 40 20 6452 G k 1 21 [] := by
  refine CI_of (L := [(0, .ref (gb G + k))]) RX1 (by decide) rfl rfl (Nat.le_of_ble_eq_true rfl) rfl ?_
  intro p e s m below meth c F hx hm
  refine JI_eq 1 0 0 (pf G k [.inr (1, [.null, .null, .null, .null, .null, .null, .null, .null, .int 0, .int 0])]) rfl rfl rfl rfl ?_
  refine JI_aln F 0 dI_X1_0 rfl rfl ?_
  refine JI_obj F zo_X1 zO1 zO2 (by decide) (Nat.le_of_ble_eq_true rfl) (Nat.le_of_ble_eq_true rfl) dI_X1_1 ?_
  refine JI_aln F 0 dI_X1_4 rfl rfl ?_
  refine JI_ic F (v := (nI 3)) dI_X1_5 (by decide) ?_
  refine JI_newq F (C := RX4) (cA := G.2.2.1.2.2.2.1) (N := 3) 3 rfl hx.2.2 zc_X1_9 (by decide) (by decide) (by decide) (Nat.le_of_ble_eq_true rfl) (Nat.le_of_ble_eq_true rfl) dI_X1_6 ?_
  refine JI_eq 2 1 3 (pf G k [.inr (1, [.null, .null, .null, .null, .null, .null, .null, .null, .int 0, .int 0]), .inl (G.2.2.1.2.2.2.1, 3, .inr (.inr (.inr (.inr (fun _ => none)))))]) rfl rfl rfl (pf_new rfl rfl) ?_
  refine JI_putF F hm (ci := 1) 0 0 rfl inX1 tyX1 tyX1_ok nmX1 (by decide) rfl (by decide) zf_X1_11 rfl rfl rfl (tyX1_ok 0 (by decide)) rfl rfl (Nat.le_of_ble_eq_true rfl) dI_X1_9 ?_
  refine JI_eq 2 1 3 (pf G k [.inr (1, [.ref (gb G + (k + 1)), .null, .null, .null, .null, .null, .null, .null, .int 0, .int 0]), .inl (G.2.2.1.2.2.2.1, 3, .inr (.inr (.inr (.inr (fun _ => none)))))]) rfl rfl rfl (pf_set (Nat.le_of_ble_eq_true rfl) rfl) ?_
  refine JI_aln F 0 dI_X1_12 rfl rfl ?_
  refine JI_bi F (v := (nI 10)) dI_X1_13 (by decide) ?_
  refine JI_newa F (atype := .int) (ty := .int) (cA := G.2.2.1.1) (a0 := (10, .inl (fun _ => 0))) (N := 10) 0 rfl rfl (fun h => h) (fun cA => vc_int cA 10) za_int (by decide) (by decide) (by decide) (Nat.le_of_ble_eq_true rfl) (Nat.le_of_ble_eq_true rfl) dI_X1_15 ?_
  refine JI_eq 3 2 13 (pf G k [.inr (1, [.ref (gb G + (k + 1)), .null, .null, .null, .null, .null, .null, .null, .int 0, .int 0]), .inl (G.2.2.1.2.2.2.1, 3, .inr (.inr (.inr (.inr (fun _ => none))))), .inl (G.2.2.1.1, 10, .inl (fun _ => 0))]) rfl rfl rfl (pf_new rfl rfl) ?_
  refine JI_putF F hm (ci := 1) 0 1 rfl inX1 tyX1 tyX1_ok nmX1 (by decide) rfl (by decide) zf_X1_17 rfl rfl rfl (tyX1_ok 1 (by decide)) rfl rfl (Nat.le_of_ble_eq_true rfl) dI_X1_17 ?_
  refine JI_eq 3 2 13 (pf G k [.inr (1, [.ref (gb G + (k + 1)), .ref (gb G + (k + 2)), .null, .null, .null, .null, .null, .null, .int 0, .int 0]), .inl (G.2.2.1.2.2.2.1, 3, .inr (.inr (.inr (.inr (fun _ => none))))), .inl (G.2.2.1.1, 10, .inl (fun _ => 0))]) rfl rfl rfl (pf_set (Nat.le_of_ble_eq_true rfl) rfl) ?_
  refine JI_aln F 0 dI_X1_20 rfl rfl ?_
  refine JI_bi F (v := (nI 10)) dI_X1_21 (by decide) ?_
  refine JI_newa F (atype := .int) (ty := .int) (cA := G.2.2.1.1) (a0 := (10, .inl (fun _ => 0))) (N := 10) 0 rfl rfl (fun h => h) (fun cA => vc_int cA 10) za_int (by decide) (by decide) (by decide) (Nat.le_of_ble_eq_true rfl) (Nat.le_of_ble_eq_true rfl) dI_X1_23 ?_
  refine JI_eq 4 3 23 (pf G k [.inr (1, [.ref (gb G + (k + 1)), .ref (gb G + (k + 2)), .null, .null, .null, .null, .null, .null, .int 0, .int 0]), .inl (G.2.2.1.2.2.2.1, 3, .inr (.inr (.inr (.inr (fun _ => none))))), .inl (G.2.2.1.1, 10, .inl (fun _ => 0)), .inl (G.2.2.1.1, 10, .inl (fun _ => 0))]) rfl rfl rfl (pf_new rfl rfl) ?_
  refine JI_putF F hm (ci := 1) 0 2 rfl inX1 tyX1 tyX1_ok nmX1 (by decide) rfl (by decide) zf_X1_21 rfl rfl rfl (tyX1_ok 2 (by decide)) rfl rfl (Nat.le_of_ble_eq_true rfl) dI_X1_25 ?_
  refine JI_eq 4 3 23 (pf G k [.inr (1, [.ref (gb G + (k + 1)), .ref (gb G + (k + 2)), .ref (gb G + (k + 3)), .null, .null, .null, .null, .null, .int 0, .int 0]), .inl (G.2.2.1.2.2.2.1, 3, .inr (.inr (.inr (.inr (fun _ => none))))), .inl (G.2.2.1.1, 10, .inl (fun _ => 0)), .inl (G.2.2.1.1, 10, .inl (fun _ => 0))]) rfl rfl rfl (pf_set (Nat.le_of_ble_eq_true rfl) rfl) ?_
  refine JI_aln F 0 dI_X1_28 rfl rfl ?_
  refine JI_bi F (v := (nI 10)) dI_X1_29 (by decide) ?_
  refine JI_newa F (atype := .int) (ty := .int) (cA := G.2.2.1.1) (a0 := (10, .inl (fun _ => 0))) (N := 10) 0 rfl rfl (fun h => h) (fun cA => vc_int cA 10) za_int (by decide) (by decide) (by decide) (Nat.le_of_ble_eq_true rfl) (Nat.le_of_ble_eq_true rfl) dI_X1_31 ?_
  refine JI_eq 5 4 33 (pf G k [.inr (1, [.ref (gb G + (k + 1)), .ref (gb G + (k + 2)), .ref (gb G + (k + 3)), .null, .null, .null, .null, .null, .int 0, .int 0]), .inl (G.2.2.1.2.2.2.1, 3, .inr (.inr (.inr (.inr (fun _ => none))))), .inl (G.2.2.1.1, 10, .inl (fun _ => 0)), .inl (G.2.2.1.1, 10, .inl (fun _ => 0)), .inl (G.2.2.1.1, 10, .inl (fun _ => 0))]) rfl rfl rfl (pf_new rfl rfl) ?_
  refine JI_putF F hm (ci := 1) 0 3 rfl inX1 tyX1 tyX1_ok nmX1 (by decide) rfl (by decide) zf_X1_24 rfl rfl rfl (tyX1_ok 3 (by decide)) rfl rfl (Nat.le_of_ble_eq_true rfl) dI_X1_33 ?_
  refine JI_eq 5 4 33 (pf G k [.inr (1, [.ref (gb G + (k + 1)), .ref (gb G + (k + 2)), .ref (gb G + (k + 3)), .ref (gb G + (k + 4)), .null, .null, .null, .null, .int 0, .int 0]), .inl (G.2.2.1.2.2.2.1, 3, .inr (.inr (.inr (.inr (fun _ => none))))), .inl (G.2.2.1.1, 10, .inl (fun _ => 0)), .inl (G.2.2.1.1, 10, .inl (fun _ => 0)), .inl (G.2.2.1.1, 10, .inl (fun _ => 0))]) rfl rfl rfl (pf_set (Nat.le_of_ble_eq_true rfl) rfl) ?_
  refine JI_aln F 0 dI_X1_36 rfl rfl ?_
  refine JI_ic F (v := (nI 3)) dI_X1_37 (by decide) ?_
  refine JI_newa F (atype := .int) (ty := .int) (cA := G.2.2.1.1) (a0 := (3, .inl (fun _ => 0))) (N := 3) 0 rfl rfl (fun h => h) (fun cA => vc_int cA 3) za_int (by decide) (by decide) (by decide) (Nat.le_of_ble_eq_true rfl) (Nat.le_of_ble_eq_true rfl) dI_X1_38 ?_
  refine JI_eq 6 5 36 (pf G k [.inr (1, [.ref (gb G + (k + 1)), .ref (gb G + (k + 2)), .ref (gb G + (k + 3)), .ref (gb G + (k + 4)), .null, .null, .null, .null, .int 0, .int 0]), .inl (G.2.2.1.2.2.2.1, 3, .inr (.inr (.inr (.inr (fun _ => none))))), .inl (G.2.2.1.1, 10, .inl (fun _ => 0)), .inl (G.2.2.1.1, 10, .inl (fun _ => 0)), .inl (G.2.2.1.1, 10, .inl (fun _ => 0)), .inl (G.2.2.1.1, 3, .inl (fun _ => 0))]) rfl rfl rfl (pf_new rfl rfl) ?_
  refine JI_putF F hm (ci := 1) 0 4 rfl inX1 tyX1 tyX1_ok nmX1 (by decide) rfl (by decide) zf_X1_27 rfl rfl rfl (tyX1_ok 4 (by decide)) rfl rfl (Nat.le_of_ble_eq_true rfl) dI_X1_40 ?_
  refine JI_eq 6 5 36 (pf G k [.inr (1, [.ref (gb G + (k + 1)), .ref (gb G + (k + 2)), .ref (gb G + (k + 3)), .ref (gb G + (k + 4)), .ref (gb G + (k + 5)), .null, .null, .null, .int 0, .int 0]), .inl (G.2.2.1.2.2.2.1, 3, .inr (.inr (.inr (.inr (fun _ => none))))), .inl (G.2.2.1.1, 10, .inl (fun _ => 0)), .inl (G.2.2.1.1, 10, .inl (fun _ => 0)), .inl (G.2.2.1.1, 10, .inl (fun _ => 0)), .inl (G.2.2.1.1, 3, .inl (fun _ => 0))]) rfl rfl rfl (pf_set (Nat.le_of_ble_eq_true rfl) rfl) ?_
  refine JI_aln F 0 dI_X1_43 rfl rfl ?_
  refine JI_ic F (v := (nI 3)) dI_X1_44 (by decide) ?_
  refine JI_newa F (atype := .int) (ty := .int) (cA := G.2.2.1.1) (a0 := (3, .inl (fun _ => 0))) (N := 3) 0 rfl rfl (fun h => h) (fun cA => vc_int cA 3) za_int (by decide) (by decide) (by decide) (Nat.le_of_ble_eq_true rfl) (Nat.le_of_ble_eq_true rfl) dI_X1_45 ?_
  refine JI_eq 7 6 39 (pf G k [.inr (1, [.ref (gb G + (k + 1)), .ref (gb G + (k + 2)), .ref (gb G + (k + 3)), .ref (gb G + (k + 4)), .ref (gb G + (k + 5)), .null, .null, .null, .int 0, .int 0]), .inl (G.2.2.1.2.2.2.1, 3, .inr (.inr (.inr (.inr (fun _ => none))))), .inl (G.2.2.1.1, 10, .inl (fun _ => 0)), .inl (G.2.2.1.1, 10, .inl (fun _ => 0)), .inl (G.2.2.1.1, 10, .inl (fun _ => 0)), .inl (G.2.2.1.1, 3, .inl (fun _ => 0)), .inl (G.2.2.1.1, 3, .inl (fun _ => 0))]) rfl rfl rfl (pf_new rfl rfl) ?_
  refine JI_putF F hm (ci := 1) 0 5 rfl inX1 tyX1 tyX1_ok nmX1 (by decide) rfl (by decide) zf_X1_30 rfl rfl rfl (tyX1_ok 5 (by decide)) rfl rfl (Nat.le_of_ble_eq_true rfl) dI_X1_47 ?_
  refine JI_eq 7 6 39 (pf G k [.inr (1, [.ref (gb G + (k + 1)), .ref (gb G + (k + 2)), .ref (gb G + (k + 3)), .ref (gb G + (k + 4)), .ref (gb G + (k + 5)), .ref (gb G + (k + 6)), .null, .null, .int 0, .int 0]), .inl (G.2.2.1.2.2.2.1, 3, .inr (.inr (.inr (.inr (fun _ => none))))), .inl (G.2.2.1.1, 10, .inl (fun _ => 0)), .inl (G.2.2.1.1, 10, .inl (fun _ => 0)), .inl (G.2.2.1.1, 10, .inl (fun _ => 0)), .inl (G.2.2.1.1, 3, .inl (fun _ => 0)), .inl (G.2.2.1.1, 3, .inl (fun _ => 0))]) rfl rfl rfl (pf_set (Nat.le_of_ble_eq_true rfl) rfl) ?_
  refine JI_aln F 0 dI_X1_50 rfl rfl ?_
  refine JI_bi F (v := (nI 100)) dI_X1_51 (by decide) ?_
  refine JI_newa F (atype := .int) (ty := .int) (cA := G.2.2.1.1) (a0 := (100, .inl (fun _ => 0))) (N := 100) 0 rfl rfl (fun h => h) (fun cA => vc_int cA 100) za_int (by decide) (by decide) (by decide) (Nat.le_of_ble_eq_true rfl) (Nat.le_of_ble_eq_true rfl) dI_X1_53 ?_
  refine JI_eq 8 7 139 (pf G k [.inr (1, [.ref (gb G + (k + 1)), .ref (gb G + (k + 2)), .ref (gb G + (k + 3)), .ref (gb G + (k + 4)), .ref (gb G + (k + 5)), .ref (gb G + (k + 6)), .null, .null, .int 0, .int 0]), .inl (G.2.2.1.2.2.2.1, 3, .inr (.inr (.inr (.inr (fun _ => none))))), .inl (G.2.2.1.1, 10, .inl (fun _ => 0)), .inl (G.2.2.1.1, 10, .inl (fun _ => 0)), .inl (G.2.2.1.1, 10, .inl (fun _ => 0)), .inl (G.2.2.1.1, 3, .inl (fun _ => 0)), .inl (G.2.2.1.1, 3, .inl (fun _ => 0)), .inl (G.2.2.1.1, 100, .inl (fun _ => 0))]) rfl rfl rfl (pf_new rfl rfl) ?_
  refine JI_putF F hm (ci := 1) 0 6 rfl inX1 tyX1 tyX1_ok nmX1 (by decide) rfl (by decide) zf_X1_33 rfl rfl rfl (tyX1_ok 6 (by decide)) rfl rfl (Nat.le_of_ble_eq_true rfl) dI_X1_55 ?_
  refine JI_eq 8 7 139 (pf G k [.inr (1, [.ref (gb G + (k + 1)), .ref (gb G + (k + 2)), .ref (gb G + (k + 3)), .ref (gb G + (k + 4)), .ref (gb G + (k + 5)), .ref (gb G + (k + 6)), .ref (gb G + (k + 7)), .null, .int 0, .int 0]), .inl (G.2.2.1.2.2.2.1, 3, .inr (.inr (.inr (.inr (fun _ => none))))), .inl (G.2.2.1.1, 10, .inl (fun _ => 0)), .inl (G.2.2.1.1, 10, .inl (fun _ => 0)), .inl (G.2.2.1.1, 10, .inl (fun _ => 0)), .inl (G.2.2.1.1, 3, .inl (fun _ => 0)), .inl (G.2.2.1.1, 3, .inl (fun _ => 0)), .inl (G.2.2.1.1, 100, .inl (fun _ => 0))]) rfl rfl rfl (pf_set (Nat.le_of_ble_eq_true rfl) rfl) ?_
  refine JI_aln F 0 dI_X1_58 rfl rfl ?_
  refine JI_bi F (v := (nI 100)) dI_X1_59 (by decide) ?_
  refine JI_newa F (atype := .int) (ty := .int) (cA := G.2.2.1.1) (a0 := (100, .inl (fun _ => 0))) (N := 100) 0 rfl rfl (fun h => h) (fun cA => vc_int cA 100) za_int (by decide) (by decide) (by decide) (Nat.le_of_ble_eq_true rfl) (Nat.le_of_ble_eq_true rfl) dI_X1_61 ?_
  refine JI_eq 9 8 239 (pf G k [.inr (1, [.ref (gb G + (k + 1)), .ref (gb G + (k + 2)), .ref (gb G + (k + 3)), .ref (gb G + (k + 4)), .ref (gb G + (k + 5)), .ref (gb G + (k + 6)), .ref (gb G + (k + 7)), .null, .int 0, .int 0]), .inl (G.2.2.1.2.2.2.1, 3, .inr (.inr (.inr (.inr (fun _ => none))))), .inl (G.2.2.1.1, 10, .inl (fun _ => 0)), .inl (G.2.2.1.1, 10, .inl (fun _ => 0)), .inl (G.2.2.1.1, 10, .inl (fun _ => 0)), .inl (G.2.2.1.1, 3, .inl (fun _ => 0)), .inl (G.2.2.1.1, 3, .inl (fun _ => 0)), .inl (G.2.2.1.1, 100, .inl (fun _ => 0)), .inl (G.2.2.1.1, 100, .inl (fun _ => 0))]) rfl rfl rfl (pf_new rfl rfl) ?_
  refine JI_putF F hm (ci := 1) 0 7 rfl inX1 tyX1 tyX1_ok nmX1 (by decide) rfl (by decide) zf_X1_36 rfl rfl rfl (tyX1_ok 7 (by decide)) rfl rfl (Nat.le_of_ble_eq_true rfl) dI_X1_63 ?_
  refine JI_eq 9 8 239 (pf G k [.inr (1, [.ref (gb G + (k + 1)), .ref (gb G + (k + 2)), .ref (gb G + (k + 3)), .ref (gb G + (k + 4)), .ref (gb G + (k + 5)), .ref (gb G + (k + 6)), .ref (gb G + (k + 7)), .ref (gb G + (k + 8)), .int 0, .int 0]), .inl (G.2.2.1.2.2.2.1, 3, .inr (.inr (.inr (.inr (fun _ => none))))), .inl (G.2.2.1.1, 10, .inl (fun _ => 0)), .inl (G.2.2.1.1, 10, .inl (fun _ => 0)), .inl (G.2.2.1.1, 10, .inl (fun _ => 0)), .inl (G.2.2.1.1, 3, .inl (fun _ => 0)), .inl (G.2.2.1.1, 3, .inl (fun _ => 0)), .inl (G.2.2.1.1, 100, .inl (fun _ => 0)), .inl (G.2.2.1.1, 100, .inl (fun _ => 0))]) rfl rfl rfl (pf_set (Nat.le_of_ble_eq_true rfl) rfl) ?_
  refine JI_aln F 0 dI_X1_66 rfl rfl ?_
  refine JI_ic F (v := (nI 0)) dI_X1_67 (by decide) ?_
  refine JI_put F (ci := 1) 0 8 rfl inX1 tyX1 tyX1_ok nmX1 (by decide) rfl (by decide) zf_X1_39 rfl rfl (tyX1_ok 8 (by decide)) rfl rfl (Nat.le_of_ble_eq_true rfl) dI_X1_68 ?_
  refine JI_eq 9 8 239 (pf G k [.inr (1, [.ref (gb G + (k + 1)), .ref (gb G + (k + 2)), .ref (gb G + (k + 3)), .ref (gb G + (k + 4)), .ref (gb G + (k + 5)), .ref (gb G + (k + 6)), .ref (gb G + (k + 7)), .ref (gb G + (k + 8)), .int (nI 0), .int 0]), .inl (G.2.2.1.2.2.2.1, 3, .inr (.inr (.inr (.inr (fun _ => none))))), .inl (G.2.2.1.1, 10, .inl (fun _ => 0)), .inl (G.2.2.1.1, 10, .inl (fun _ => 0)), .inl (G.2.2.1.1, 10, .inl (fun _ => 0)), .inl (G.2.2.1.1, 3, .inl (fun _ => 0)), .inl (G.2.2.1.1, 3, .inl (fun _ => 0)), .inl (G.2.2.1.1, 100, .inl (fun _ => 0)), .inl (G.2.2.1.1, 100, .inl (fun _ => 0))]) rfl rfl rfl (pf_set (Nat.le_of_ble_eq_true rfl) rfl) ?_
  refine JI_aln F 0 dI_X1_71 rfl rfl ?_
  refine JI_ic F (v := (nI 1)) dI_X1_72 (by decide) ?_
  refine JI_put F (ci := 1) 0 9 rfl inX1 tyX1 tyX1_ok nmX1 (by decide) rfl (by decide) zf_X1_43 rfl rfl (tyX1_ok 9 (by decide)) rfl rfl (Nat.le_of_ble_eq_true rfl) dI_X1_73 ?_
  refine JI_eq 9 8 239 (pf G k [.inr (1, [.ref (gb G + (k + 1)), .ref (gb G + (k + 2)), .ref (gb G + (k + 3)), .ref (gb G + (k + 4)), .ref (gb G + (k + 5)), .ref (gb G + (k + 6)), .ref (gb G + (k + 7)), .ref (gb G + (k + 8)), .int (nI 0), .int (nI 1)]), .inl (G.2.2.1.2.2.2.1, 3, .inr (.inr (.inr (.inr (fun _ => none))))), .inl (G.2.2.1.1, 10, .inl (fun _ => 0)), .inl (G.2.2.1.1, 10, .inl (fun _ => 0)), .inl (G.2.2.1.1, 10, .inl (fun _ => 0)), .inl (G.2.2.1.1, 3, .inl (fun _ => 0)), .inl (G.2.2.1.1, 3, .inl (fun _ => 0)), .inl (G.2.2.1.1, 100, .inl (fun _ => 0)), .inl (G.2.2.1.1, 100, .inl (fun _ => 0))]) rfl rfl rfl (pf_set (Nat.le_of_ble_eq_true rfl) rfl) ?_
  refine JI_ic F (v := (nI 0)) dI_X1_76 (by decide) ?_
  refine JI_isn F (L' := [(1, .int (nI 0)), (0, .ref (gb G + k))]) dI_X1_77 rfl (by decide) rfl ?_
  refine JI_iln F 0 dI_X1_78 rfl rfl ?_
  refine JI_ic F (v := (nI 3)) dI_X1_79 (by decide) ?_
  refine JI_cge F (tgt := 102) dI_X1_80 (by decide) (fun h => absurd h (by decide)) (fun _ => ?_)
  refine JI_aln F 1 dI_X1_83 rfl rfl ?_
  refine JI_get F (ci := 1) (v := .ref (gb G + (k + 1))) (fs := [.ref (gb G + (k + 1)), .ref (gb G + (k + 2)), .ref (gb G + (k + 3)), .ref (gb G + (k + 4)), .ref (gb G + (k + 5)), .ref (gb G + (k + 6)), .ref (gb G + (k + 7)), .ref (gb G + (k + 8)), .int (nI 0), .int (nI 1)]) 0 0 rfl inX1 (by decide) rfl (by decide) zf_X1_11 rfl rfl dI_X1_84 ?_
  refine JI_iln F 0 dI_X1_87 rfl rfl ?_
  refine JI_new F (ci := 4) rfl inX4 tyX4 tyX4_ok zc_X1_9 zj_X4 zy_X4 zd_X4 (Nat.le_of_ble_eq_true rfl) (Nat.le_of_ble_eq_true rfl) dI_X1_88 ?_
  refine JI_eq 10 9 242 _ rfl rfl rfl rfl ?_
  refine JI_dup F dI_X1_91 rfl ?_
  refine JI_ctorN F hx (As := []) (st := [.ref (gb G + (k + 9)), .int (nI 0), .ref (gb G + (k + 1))]) 9 (C_init_X4 l G (k + 9) (lay_sps hk).1) rfl (by unfold vu; rw [if_pos rfl]) hx.1.2.2.2 zn_X4 zy_X4 zk_X4 rfl zh_X4 (by decide) (Nat.le_of_ble_eq_true rfl) ⟨Nat.le_of_ble_eq_true rfl, Nat.le_of_ble_eq_true rfl⟩ rfl dI_X1_92 ?_
  refine JI_eq 13 12 2310 (pf G k [.inr (1, [.ref (gb G + (k + 1)), .ref (gb G + (k + 2)), .ref (gb G + (k + 3)), .ref (gb G + (k + 4)), .ref (gb G + (k + 5)), .ref (gb G + (k + 6)), .ref (gb G + (k + 7)), .ref (gb G + (k + 8)), .int (nI 0), .int (nI 1)]), .inl (G.2.2.1.2.2.2.1, 3, .inr (.inr (.inr (.inr (fun _ => none))))), .inl (G.2.2.1.1, 10, .inl (fun _ => 0)), .inl (G.2.2.1.1, 10, .inl (fun _ => 0)), .inl (G.2.2.1.1, 10, .inl (fun _ => 0)), .inl (G.2.2.1.1, 3, .inl (fun _ => 0)), .inl (G.2.2.1.1, 3, .inl (fun _ => 0)), .inl (G.2.2.1.1, 100, .inl (fun _ => 0)), .inl (G.2.2.1.1, 100, .inl (fun _ => 0))]) rfl rfl rfl (pf_ctor (Nat.le_of_ble_eq_true rfl)) ?_
  refine JI_ast F (r := (RX4, TX4, 3)) (i := nI 0) 1 3 9 (by decide) rfl rfl (by decide) ((pf_out (Nat.le_of_ble_eq_true rfl)).trans (ent_o (lay_sps hk).1 (by decide))) rfl (n_in (by decide) (by decide)) dI_X1_95 ?_
  refine JI_eq 13 12 2310 (pf G k [.inr (1, [.ref (gb G + (k + 1)), .ref (gb G + (k + 2)), .ref (gb G + (k + 3)), .ref (gb G + (k + 4)), .ref (gb G + (k + 5)), .ref (gb G + (k + 6)), .ref (gb G + (k + 7)), .ref (gb G + (k + 8)), .int (nI 0), .int (nI 1)]), .inl (G.2.2.1.2.2.2.1, 3, .inr (.inr (.inr (.inr (va_up (fun _ => none) (nI 0).toNatClampNeg (some (gb G + (k + 9)))))))), .inl (G.2.2.1.1, 10, .inl (fun _ => 0)), .inl (G.2.2.1.1, 10, .inl (fun _ => 0)), .inl (G.2.2.1.1, 10, .inl (fun _ => 0)), .inl (G.2.2.1.1, 3, .inl (fun _ => 0)), .inl (G.2.2.1.1, 3, .inl (fun _ => 0)), .inl (G.2.2.1.1, 100, .inl (fun _ => 0)), .inl (G.2.2.1.1, 100, .inl (fun _ => 0))]) rfl rfl rfl (pf_set (Nat.le_of_ble_eq_true rfl) rfl) ?_
  refine JI_iinc F (v := nI 1) (L' := [(1, .int (nI 1)), (0, .ref (gb G + k))]) 0 dI_X1_96 rfl (by decide) (by decide) rfl ?_
  refine JI_goto F (tgt := 78) dI_X1_99 (by decide) ?_
  refine JI_iln F 0 dI_X1_78 rfl rfl ?_
  refine JI_ic F (v := (nI 3)) dI_X1_79 (by decide) ?_
  refine JI_cge F (tgt := 102) dI_X1_80 (by decide) (fun h => absurd h (by decide)) (fun _ => ?_)
  refine JI_aln F 1 dI_X1_83 rfl rfl ?_
  refine JI_get F (ci := 1) (v := .ref (gb G + (k + 1))) (fs := [.ref (gb G + (k + 1)), .ref (gb G + (k + 2)), .ref (gb G + (k + 3)), .ref (gb G + (k + 4)), .ref (gb G + (k + 5)), .ref (gb G + (k + 6)), .ref (gb G + (k + 7)), .ref (gb G + (k + 8)), .int (nI 0), .int (nI 1)]) 0 0 rfl inX1 (by decide) rfl (by decide) zf_X1_11 rfl rfl dI_X1_84 ?_
  refine JI_iln F 0 dI_X1_87 rfl rfl ?_
  refine JI_new F (ci := 4) rfl inX4 tyX4 tyX4_ok zc_X1_9 zj_X4 zy_X4 zd_X4 (Nat.le_of_ble_eq_true rfl) (Nat.le_of_ble_eq_true rfl) dI_X1_88 ?_
  refine JI_eq 14 13 2313 _ rfl rfl rfl rfl ?_
  refine JI_dup F dI_X1_91 rfl ?_
  refine JI_ctorN F hx (As := []) (st := [.ref (gb G + (k + 13)), .int (nI 1), .ref (gb G + (k + 1))]) 13 (C_init_X4 l G (k + 13) (lay_sps hk).2.1) rfl (by unfold vu; rw [if_pos rfl]) hx.1.2.2.2 zn_X4 zy_X4 zk_X4 rfl zh_X4 (by decide) (Nat.le_of_ble_eq_true rfl) ⟨Nat.le_of_ble_eq_true rfl, Nat.le_of_ble_eq_true rfl⟩ rfl dI_X1_92 ?_
  refine JI_eq 17 16 4381 (pf G k [.inr (1, [.ref (gb G + (k + 1)), .ref (gb G + (k + 2)), .ref (gb G + (k + 3)), .ref (gb G + (k + 4)), .ref (gb G + (k + 5)), .ref (gb G + (k + 6)), .ref (gb G + (k + 7)), .ref (gb G + (k + 8)), .int (nI 0), .int (nI 1)]), .inl (G.2.2.1.2.2.2.1, 3, .inr (.inr (.inr (.inr (va_up (fun _ => none) (nI 0).toNatClampNeg (some (gb G + (k + 9)))))))), .inl (G.2.2.1.1, 10, .inl (fun _ => 0)), .inl (G.2.2.1.1, 10, .inl (fun _ => 0)), .inl (G.2.2.1.1, 10, .inl (fun _ => 0)), .inl (G.2.2.1.1, 3, .inl (fun _ => 0)), .inl (G.2.2.1.1, 3, .inl (fun _ => 0)), .inl (G.2.2.1.1, 100, .inl (fun _ => 0)), .inl (G.2.2.1.1, 100, .inl (fun _ => 0))]) rfl rfl rfl (pf_ctor (Nat.le_of_ble_eq_true rfl)) ?_
  refine JI_ast F (r := (RX4, TX4, 3)) (i := nI 1) 1 3 13 (by decide) rfl rfl (by decide) ((pf_out (Nat.le_of_ble_eq_true rfl)).trans (ent_o (lay_sps hk).2.1 (by decide))) rfl (n_in (by decide) (by decide)) dI_X1_95 ?_
  refine JI_eq 17 16 4381 (pf G k [.inr (1, [.ref (gb G + (k + 1)), .ref (gb G + (k + 2)), .ref (gb G + (k + 3)), .ref (gb G + (k + 4)), .ref (gb G + (k + 5)), .ref (gb G + (k + 6)), .ref (gb G + (k + 7)), .ref (gb G + (k + 8)), .int (nI 0), .int (nI 1)]), .inl (G.2.2.1.2.2.2.1, 3, .inr (.inr (.inr (.inr (va_up (va_up (fun _ => none) (nI 0).toNatClampNeg (some (gb G + (k + 9)))) (nI 1).toNatClampNeg (some (gb G + (k + 13)))))))), .inl (G.2.2.1.1, 10, .inl (fun _ => 0)), .inl (G.2.2.1.1, 10, .inl (fun _ => 0)), .inl (G.2.2.1.1, 10, .inl (fun _ => 0)), .inl (G.2.2.1.1, 3, .inl (fun _ => 0)), .inl (G.2.2.1.1, 3, .inl (fun _ => 0)), .inl (G.2.2.1.1, 100, .inl (fun _ => 0)), .inl (G.2.2.1.1, 100, .inl (fun _ => 0))]) rfl rfl rfl (pf_set (Nat.le_of_ble_eq_true rfl) rfl) ?_
  refine JI_iinc F (v := nI 2) (L' := [(1, .int (nI 2)), (0, .ref (gb G + k))]) 0 dI_X1_96 rfl (by decide) (by decide) rfl ?_
  refine JI_goto F (tgt := 78) dI_X1_99 (by decide) ?_
  refine JI_iln F 0 dI_X1_78 rfl rfl ?_
  refine JI_ic F (v := (nI 3)) dI_X1_79 (by decide) ?_
  refine JI_cge F (tgt := 102) dI_X1_80 (by decide) (fun h => absurd h (by decide)) (fun _ => ?_)
  refine JI_aln F 1 dI_X1_83 rfl rfl ?_
  refine JI_get F (ci := 1) (v := .ref (gb G + (k + 1))) (fs := [.ref (gb G + (k + 1)), .ref (gb G + (k + 2)), .ref (gb G + (k + 3)), .ref (gb G + (k + 4)), .ref (gb G + (k + 5)), .ref (gb G + (k + 6)), .ref (gb G + (k + 7)), .ref (gb G + (k + 8)), .int (nI 0), .int (nI 1)]) 0 0 rfl inX1 (by decide) rfl (by decide) zf_X1_11 rfl rfl dI_X1_84 ?_
  refine JI_iln F 0 dI_X1_87 rfl rfl ?_
  refine JI_new F (ci := 4) rfl inX4 tyX4 tyX4_ok zc_X1_9 zj_X4 zy_X4 zd_X4 (Nat.le_of_ble_eq_true rfl) (Nat.le_of_ble_eq_true rfl) dI_X1_88 ?_
  refine JI_eq 18 17 4384 _ rfl rfl rfl rfl ?_
  refine JI_dup F dI_X1_91 rfl ?_
  refine JI_ctorN F hx (As := []) (st := [.ref (gb G + (k + 17)), .int (nI 2), .ref (gb G + (k + 1))]) 17 (C_init_X4 l G (k + 17) (lay_sps hk).2.2) rfl (by unfold vu; rw [if_pos rfl]) hx.1.2.2.2 zn_X4 zy_X4 zk_X4 rfl zh_X4 (by decide) (Nat.le_of_ble_eq_true rfl) ⟨Nat.le_of_ble_eq_true rfl, Nat.le_of_ble_eq_true rfl⟩ rfl dI_X1_92 ?_
  refine JI_eq 21 20 6452 (pf G k [.inr (1, [.ref (gb G + (k + 1)), .ref (gb G + (k + 2)), .ref (gb G + (k + 3)), .ref (gb G + (k + 4)), .ref (gb G + (k + 5)), .ref (gb G + (k + 6)), .ref (gb G + (k + 7)), .ref (gb G + (k + 8)), .int (nI 0), .int (nI 1)]), .inl (G.2.2.1.2.2.2.1, 3, .inr (.inr (.inr (.inr (va_up (va_up (fun _ => none) (nI 0).toNatClampNeg (some (gb G + (k + 9)))) (nI 1).toNatClampNeg (some (gb G + (k + 13)))))))), .inl (G.2.2.1.1, 10, .inl (fun _ => 0)), .inl (G.2.2.1.1, 10, .inl (fun _ => 0)), .inl (G.2.2.1.1, 10, .inl (fun _ => 0)), .inl (G.2.2.1.1, 3, .inl (fun _ => 0)), .inl (G.2.2.1.1, 3, .inl (fun _ => 0)), .inl (G.2.2.1.1, 100, .inl (fun _ => 0)), .inl (G.2.2.1.1, 100, .inl (fun _ => 0))]) rfl rfl rfl (pf_ctor (Nat.le_of_ble_eq_true rfl)) ?_
  refine JI_ast F (r := (RX4, TX4, 3)) (i := nI 2) 1 3 17 (by decide) rfl rfl (by decide) ((pf_out (Nat.le_of_ble_eq_true rfl)).trans (ent_o (lay_sps hk).2.2 (by decide))) rfl (n_in (by decide) (by decide)) dI_X1_95 ?_
  refine JI_eq 21 20 6452 (pf G k [.inr (1, [.ref (gb G + (k + 1)), .ref (gb G + (k + 2)), .ref (gb G + (k + 3)), .ref (gb G + (k + 4)), .ref (gb G + (k + 5)), .ref (gb G + (k + 6)), .ref (gb G + (k + 7)), .ref (gb G + (k + 8)), .int (nI 0), .int (nI 1)]), .inl (G.2.2.1.2.2.2.1, 3, .inr (.inr (.inr (.inr (va_up (va_up (va_up (fun _ => none) (nI 0).toNatClampNeg (some (gb G + (k + 9)))) (nI 1).toNatClampNeg (some (gb G + (k + 13)))) (nI 2).toNatClampNeg (some (gb G + (k + 17)))))))), .inl (G.2.2.1.1, 10, .inl (fun _ => 0)), .inl (G.2.2.1.1, 10, .inl (fun _ => 0)), .inl (G.2.2.1.1, 10, .inl (fun _ => 0)), .inl (G.2.2.1.1, 3, .inl (fun _ => 0)), .inl (G.2.2.1.1, 3, .inl (fun _ => 0)), .inl (G.2.2.1.1, 100, .inl (fun _ => 0)), .inl (G.2.2.1.1, 100, .inl (fun _ => 0))]) rfl rfl rfl (pf_set (Nat.le_of_ble_eq_true rfl) rfl) ?_
  refine JI_iinc F (v := nI 3) (L' := [(1, .int (nI 3)), (0, .ref (gb G + k))]) 0 dI_X1_96 rfl (by decide) (by decide) rfl ?_
  refine JI_goto F (tgt := 78) dI_X1_99 (by decide) ?_
  refine JI_iln F 0 dI_X1_78 rfl rfl ?_
  refine JI_ic F (v := (nI 3)) dI_X1_79 (by decide) ?_
  refine JI_cge F (tgt := 102) dI_X1_80 (by decide) (fun _ => ?_) (fun h => absurd (by decide) h)
  refine JI_aln F 1 dI_X1_102 rfl rfl ?_
  refine JI_get F (ci := 1) (v := .ref (gb G + (k + 7))) (fs := [.ref (gb G + (k + 1)), .ref (gb G + (k + 2)), .ref (gb G + (k + 3)), .ref (gb G + (k + 4)), .ref (gb G + (k + 5)), .ref (gb G + (k + 6)), .ref (gb G + (k + 7)), .ref (gb G + (k + 8)), .int (nI 0), .int (nI 1)]) 0 6 rfl inX1 (by decide) rfl (by decide) zf_X1_33 rfl rfl dI_X1_103 ?_
  refine JI_ic F (v := (-1)) dI_X1_106 (by decide) ?_
  refine JI_fill F 7 (by decide) rfl (by decide) lm_X1_47 (by decide) (by decide) ⟨Nat.le_of_ble_eq_true rfl, Nat.le_of_ble_eq_true rfl⟩ dI_X1_107 ?_
  refine JI_eq 21 20 6452 (pf G k [.inr (1, [.ref (gb G + (k + 1)), .ref (gb G + (k + 2)), .ref (gb G + (k + 3)), .ref (gb G + (k + 4)), .ref (gb G + (k + 5)), .ref (gb G + (k + 6)), .ref (gb G + (k + 7)), .ref (gb G + (k + 8)), .int (nI 0), .int (nI 1)]), .inl (G.2.2.1.2.2.2.1, 3, .inr (.inr (.inr (.inr (va_up (va_up (va_up (fun _ => none) (nI 0).toNatClampNeg (some (gb G + (k + 9)))) (nI 1).toNatClampNeg (some (gb G + (k + 13)))) (nI 2).toNatClampNeg (some (gb G + (k + 17)))))))), .inl (G.2.2.1.1, 10, .inl (fun _ => 0)), .inl (G.2.2.1.1, 10, .inl (fun _ => 0)), .inl (G.2.2.1.1, 10, .inl (fun _ => 0)), .inl (G.2.2.1.1, 3, .inl (fun _ => 0)), .inl (G.2.2.1.1, 3, .inl (fun _ => 0)), .inl (G.2.2.1.1, 100, .inl (fun _ => (-1))), .inl (G.2.2.1.1, 100, .inl (fun _ => 0))]) rfl rfl rfl (pf_set (Nat.le_of_ble_eq_true rfl) rfl) ?_
  exact JI_ret F (Nat.le_refl _) (Nat.le_refl _) rfl (hfin_X1 G k hk) dI_X1_110
theorem dI_X2_0 : decode cX2_init 0 = .ok (.aload_n 0, 1) := by decide +kernel
theorem dI_X2_1 : decode cX2_init 1 = .ok (.invokespecial 3, 3) := by decide +kernel
theorem dI_X2_4 : decode cX2_init 4 = .ok (.aload_n 0, 1) := by decide +kernel
theorem dI_X2_5 : decode cX2_init 5 = .ok (.bipush 8, 2) := by decide +kernel
theorem dI_X2_7 : decode cX2_init 7 = .ok (.anewarray 9, 3) := by decide +kernel
theorem dI_X2_10 : decode cX2_init 10 = .ok (.putfield 11, 3) := by decide +kernel
theorem dI_X2_13 : decode cX2_init 13 = .ok (.aload_n 0, 1) := by decide +kernel
theorem dI_X2_14 : decode cX2_init 14 = .ok (.iconst 0, 1) := by decide +kernel
theorem dI_X2_15 : decode cX2_init 15 = .ok (.putfield 17, 3) := by decide +kernel
theorem dI_X2_18 : decode cX2_init 18 = .ok (.aload_n 0, 1) := by decide +kernel
theorem dI_X2_19 : decode cX2_init 19 = .ok (.iconst 0, 1) := by decide +kernel
theorem dI_X2_20 : decode cX2_init 20 = .ok (.putfield 21, 3) := by decide +kernel
theorem dI_X2_23 : decode cX2_init 23 = .ok (.iconst 0, 1) := by decide +kernel
theorem dI_X2_24 : decode cX2_init 24 = .ok (.istore_n 1, 1) := by decide +kernel
theorem dI_X2_25 : decode cX2_init 25 = .ok (.iload_n 1, 1) := by decide +kernel
theorem dI_X2_26 : decode cX2_init 26 = .ok (.bipush 8, 2) := by decide +kernel
theorem dI_X2_28 : decode cX2_init 28 = .ok (.if_icmp .ge 22, 3) := by decide +kernel
theorem dI_X2_31 : decode cX2_init 31 = .ok (.aload_n 0, 1) := by decide +kernel
theorem dI_X2_32 : decode cX2_init 32 = .ok (.getfield 11, 3) := by decide +kernel
theorem dI_X2_35 : decode cX2_init 35 = .ok (.iload_n 1, 1) := by decide +kernel
theorem dI_X2_36 : decode cX2_init 36 = .ok (.new 9, 3) := by decide +kernel
theorem dI_X2_39 : decode cX2_init 39 = .ok (.dup, 1) := by decide +kernel
theorem dI_X2_40 : decode cX2_init 40 = .ok (.invokespecial 24, 3) := by decide +kernel
theorem dI_X2_43 : decode cX2_init 43 = .ok (.aastore, 1) := by decide +kernel
theorem dI_X2_44 : decode cX2_init 44 = .ok (.iinc 1 1, 3) := by decide +kernel
theorem dI_X2_47 : decode cX2_init 47 = .ok (.goto (-22), 3) := by decide +kernel
theorem dI_X2_50 : decode cX2_init 50 = .ok (.return_, 1) := by decide +kernel
theorem zg_X2 (G : Gp) : [.ref (gb G + (6 + 1)), .int (nI 0), .int (nI 0)] = flds (gb G) 6 2 (st0 6) := by
  rfl
theorem hfin_X2 (G : Gp) : ∀ j, j < 170 → ∀ H : Heap, va_at (gD G) vwCl (gb G + (6 + j), pf G 6 [.inr (2, [.ref (gb G + (6 + 1)), .int (nI 0), .int (nI 0)]), .inl (G.2.2.1.2.2.1, 8, .inr (.inr (.inr (.inr (va_up (va_up (va_up (va_up (va_up (va_up (va_up (va_up (fun _ => none) (nI 0).toNatClampNeg (some (gb G + (6 + 2)))) (nI 1).toNatClampNeg (some (gb G + (6 + 23)))) (nI 2).toNatClampNeg (some (gb G + (6 + 44)))) (nI 3).toNatClampNeg (some (gb G + (6 + 65)))) (nI 4).toNatClampNeg (some (gb G + (6 + 86)))) (nI 5).toNatClampNeg (some (gb G + (6 + 107)))) (nI 6).toNatClampNeg (some (gb G + (6 + 128)))) (nI 7).toNatClampNeg (some (gb G + (6 + 149))))))))] j) H → va_at (gD G) vwCl (gb G + (6 + j), ent G (6 + j) (st0 (6 + j))) H := by
  intro j hj H h
  rcases (show j = 0 ∨ j = 1 ∨ 2 ≤ j by omega) with rfl | rfl | hj2
  · exact fin_o (ci := 2) ly_6 (by decide) (zg_X2 G) h
  · refine fin_N (N := 8) ly_7 (fun j hj => ?_) h
    rcases (show j = 0 ∨ j = 1 ∨ j = 2 ∨ j = 3 ∨ j = 4 ∨ j = 5 ∨ j = 6 ∨ j = 7 by omega) with rfl | rfl | rfl | rfl | rfl | rfl | rfl | rfl <;> rfl
  · rw [pf_out hj2] at h
    exact h
set_option maxRecDepth 20000 in
set_option maxHeartbeats 4000000 in
theorem C_init_X2 (l : Launch) (G : Gp) : CI l yX2_init cX2_init 2 3 61 169 51704 G 6 2 170 [] := by
  refine CI_of (L := [(0, .ref (gb G + 6))]) RX2 (by decide) rfl rfl (Nat.le_of_ble_eq_true rfl) rfl ?_
  intro p e s m below meth c F hx hm
  refine JI_eq 1 0 0 (pf G 6 [.inr (2, [.null, .int 0, .int 0])]) rfl rfl rfl rfl ?_
  refine JI_aln F 0 dI_X2_0 rfl rfl ?_
  refine JI_obj F zo_X2 zO1 zO2 (by decide) (Nat.le_of_ble_eq_true rfl) (Nat.le_of_ble_eq_true rfl) dI_X2_1 ?_
  refine JI_aln F 0 dI_X2_4 rfl rfl ?_
  refine JI_bi F (v := (nI 8)) dI_X2_5 (by decide) ?_
  refine JI_newq F (C := RX1) (cA := G.2.2.1.2.2.1) (N := 8) 2 rfl hx.2.1 zc_X2_9 (by decide) (by decide) (by decide) (Nat.le_of_ble_eq_true rfl) (Nat.le_of_ble_eq_true rfl) dI_X2_7 ?_
  refine JI_eq 2 1 8 (pf G 6 [.inr (2, [.null, .int 0, .int 0]), .inl (G.2.2.1.2.2.1, 8, .inr (.inr (.inr (.inr (fun _ => none)))))]) rfl rfl rfl (pf_new rfl rfl) ?_
  refine JI_putF F hm (ci := 2) 0 0 rfl inX2 tyX2 tyX2_ok nmX2 (by decide) rfl (by decide) zf_X2_11 rfl rfl rfl (tyX2_ok 0 (by decide)) rfl rfl (Nat.le_of_ble_eq_true rfl) dI_X2_10 ?_
  refine JI_eq 2 1 8 (pf G 6 [.inr (2, [.ref (gb G + (6 + 1)), .int 0, .int 0]), .inl (G.2.2.1.2.2.1, 8, .inr (.inr (.inr (.inr (fun _ => none)))))]) rfl rfl rfl (pf_set (Nat.le_of_ble_eq_true rfl) rfl) ?_
  refine JI_aln F 0 dI_X2_13 rfl rfl ?_
  refine JI_ic F (v := (nI 0)) dI_X2_14 (by decide) ?_
  refine JI_put F (ci := 2) 0 1 rfl inX2 tyX2 tyX2_ok nmX2 (by decide) rfl (by decide) zf_X2_17 rfl rfl (tyX2_ok 1 (by decide)) rfl rfl (Nat.le_of_ble_eq_true rfl) dI_X2_15 ?_
  refine JI_eq 2 1 8 (pf G 6 [.inr (2, [.ref (gb G + (6 + 1)), .int (nI 0), .int 0]), .inl (G.2.2.1.2.2.1, 8, .inr (.inr (.inr (.inr (fun _ => none)))))]) rfl rfl rfl (pf_set (Nat.le_of_ble_eq_true rfl) rfl) ?_
  refine JI_aln F 0 dI_X2_18 rfl rfl ?_
  refine JI_ic F (v := (nI 0)) dI_X2_19 (by decide) ?_
  refine JI_put F (ci := 2) 0 2 rfl inX2 tyX2 tyX2_ok nmX2 (by decide) rfl (by decide) zf_X2_21 rfl rfl (tyX2_ok 2 (by decide)) rfl rfl (Nat.le_of_ble_eq_true rfl) dI_X2_20 ?_
  refine JI_eq 2 1 8 (pf G 6 [.inr (2, [.ref (gb G + (6 + 1)), .int (nI 0), .int (nI 0)]), .inl (G.2.2.1.2.2.1, 8, .inr (.inr (.inr (.inr (fun _ => none)))))]) rfl rfl rfl (pf_set (Nat.le_of_ble_eq_true rfl) rfl) ?_
  refine JI_ic F (v := (nI 0)) dI_X2_23 (by decide) ?_
  refine JI_isn F (L' := [(1, .int (nI 0)), (0, .ref (gb G + 6))]) dI_X2_24 rfl (by decide) rfl ?_
  refine JI_iln F 0 dI_X2_25 rfl rfl ?_
  refine JI_bi F (v := (nI 8)) dI_X2_26 (by decide) ?_
  refine JI_cge F (tgt := 50) dI_X2_28 (by decide) (fun h => absurd h (by decide)) (fun _ => ?_)
  refine JI_aln F 1 dI_X2_31 rfl rfl ?_
  refine JI_get F (ci := 2) (v := .ref (gb G + (6 + 1))) (fs := [.ref (gb G + (6 + 1)), .int (nI 0), .int (nI 0)]) 0 0 rfl inX2 (by decide) rfl (by decide) zf_X2_11 rfl rfl dI_X2_32 ?_
  refine JI_iln F 0 dI_X2_35 rfl rfl ?_
  refine JI_new F (ci := 1) rfl inX1 tyX1 tyX1_ok zc_X2_9 zj_X1 zy_X1 zd_X1 (Nat.le_of_ble_eq_true rfl) (Nat.le_of_ble_eq_true rfl) dI_X2_36 ?_
  refine JI_eq 3 2 18 _ rfl rfl rfl rfl ?_
  refine JI_dup F dI_X2_39 rfl ?_
  refine JI_ctor F hx (As := []) (st := [.ref (gb G + (6 + 2)), .int (nI 0), .ref (gb G + (6 + 1))]) 2 (C_init_X1 l G (6 + 2) (by decide +kernel)) rfl (by unfold vu; rw [if_pos rfl]) zm_X2_24 zn_X1 zy_X1 zk_X1 rfl zh_X1 (by decide) (Nat.le_of_ble_eq_true rfl) ⟨Nat.le_of_ble_eq_true rfl, Nat.le_of_ble_eq_true rfl⟩ rfl dI_X2_40 ?_
  refine JI_eq 23 22 6470 (pf G 6 [.inr (2, [.ref (gb G + (6 + 1)), .int (nI 0), .int (nI 0)]), .inl (G.2.2.1.2.2.1, 8, .inr (.inr (.inr (.inr (fun _ => none)))))]) rfl rfl rfl (pf_ctor (Nat.le_of_ble_eq_true rfl)) ?_
  refine JI_ast F (r := (RX1, TX1, 10)) (i := nI 0) 1 2 2 (by decide) rfl rfl (by decide) ((pf_out (Nat.le_of_ble_eq_true rfl)).trans (ent_o (show lay (6 + 2) = (1, 0) by decide +kernel) (by decide))) rfl (n_in (by decide) (by decide)) dI_X2_43 ?_
  refine JI_eq 23 22 6470 (pf G 6 [.inr (2, [.ref (gb G + (6 + 1)), .int (nI 0), .int (nI 0)]), .inl (G.2.2.1.2.2.1, 8, .inr (.inr (.inr (.inr (va_up (fun _ => none) (nI 0).toNatClampNeg (some (gb G + (6 + 2))))))))]) rfl rfl rfl (pf_set (Nat.le_of_ble_eq_true rfl) rfl) ?_
  refine JI_iinc F (v := nI 1) (L' := [(1, .int (nI 1)), (0, .ref (gb G + 6))]) 0 dI_X2_44 rfl (by decide) (by decide) rfl ?_
  refine JI_goto F (tgt := 25) dI_X2_47 (by decide) ?_
  refine JI_iln F 0 dI_X2_25 rfl rfl ?_
  refine JI_bi F (v := (nI 8)) dI_X2_26 (by decide) ?_
  refine JI_cge F (tgt := 50) dI_X2_28 (by decide) (fun h => absurd h (by decide)) (fun _ => ?_)
  refine JI_aln F 1 dI_X2_31 rfl rfl ?_
  refine JI_get F (ci := 2) (v := .ref (gb G + (6 + 1))) (fs := [.ref (gb G + (6 + 1)), .int (nI 0), .int (nI 0)]) 0 0 rfl inX2 (by decide) rfl (by decide) zf_X2_11 rfl rfl dI_X2_32 ?_
  refine JI_iln F 0 dI_X2_35 rfl rfl ?_
  refine JI_new F (ci := 1) rfl inX1 tyX1 tyX1_ok zc_X2_9 zj_X1 zy_X1 zd_X1 (Nat.le_of_ble_eq_true rfl) (Nat.le_of_ble_eq_true rfl) dI_X2_36 ?_
  refine JI_eq 24 23 6480 _ rfl rfl rfl rfl ?_
  refine JI_dup F dI_X2_39 rfl ?_
  refine JI_ctor F hx (As := []) (st := [.ref (gb G + (6 + 23)), .int (nI 1), .ref (gb G + (6 + 1))]) 23 (C_init_X1 l G (6 + 23) (by decide +kernel)) rfl (by unfold vu; rw [if_pos rfl]) zm_X2_24 zn_X1 zy_X1 zk_X1 rfl zh_X1 (by decide) (Nat.le_of_ble_eq_true rfl) ⟨Nat.le_of_ble_eq_true rfl, Nat.le_of_ble_eq_true rfl⟩ rfl dI_X2_40 ?_
  refine JI_eq 44 43 12932 (pf G 6 [.inr (2, [.ref (gb G + (6 + 1)), .int (nI 0), .int (nI 0)]), .inl (G.2.2.1.2.2.1, 8, .inr (.inr (.inr (.inr (va_up (fun _ => none) (nI 0).toNatClampNeg (some (gb G + (6 + 2))))))))]) rfl rfl rfl (pf_ctor (Nat.le_of_ble_eq_true rfl)) ?_
  refine JI_ast F (r := (RX1, TX1, 10)) (i := nI 1) 1 2 23 (by decide) rfl rfl (by decide) ((pf_out (Nat.le_of_ble_eq_true rfl)).trans (ent_o (show lay (6 + 23) = (1, 0) by decide +kernel) (by decide))) rfl (n_in (by decide) (by decide)) dI_X2_43 ?_
  refine JI_eq 44 43 12932 (pf G 6 [.inr (2, [.ref (gb G + (6 + 1)), .int (nI 0), .int (nI 0)]), .inl (G.2.2.1.2.2.1, 8, .inr (.inr (.inr (.inr (va_up (va_up (fun _ => none) (nI 0).toNatClampNeg (some (gb G + (6 + 2)))) (nI 1).toNatClampNeg (some (gb G + (6 + 23))))))))]) rfl rfl rfl (pf_set (Nat.le_of_ble_eq_true rfl) rfl) ?_
  refine JI_iinc F (v := nI 2) (L' := [(1, .int (nI 2)), (0, .ref (gb G + 6))]) 0 dI_X2_44 rfl (by decide) (by decide) rfl ?_
  refine JI_goto F (tgt := 25) dI_X2_47 (by decide) ?_
  refine JI_iln F 0 dI_X2_25 rfl rfl ?_
  refine JI_bi F (v := (nI 8)) dI_X2_26 (by decide) ?_
  refine JI_cge F (tgt := 50) dI_X2_28 (by decide) (fun h => absurd h (by decide)) (fun _ => ?_)
  refine JI_aln F 1 dI_X2_31 rfl rfl ?_
  refine JI_get F (ci := 2) (v := .ref (gb G + (6 + 1))) (fs := [.ref (gb G + (6 + 1)), .int (nI 0), .int (nI 0)]) 0 0 rfl inX2 (by decide) rfl (by decide) zf_X2_11 rfl rfl dI_X2_32 ?_
  refine JI_iln F 0 dI_X2_35 rfl rfl ?_
  refine JI_new F (ci := 1) rfl inX1 tyX1 tyX1_ok zc_X2_9 zj_X1 zy_X1 zd_X1 (Nat.le_of_ble_eq_true rfl) (Nat.le_of_ble_eq_true rfl) dI_X2_36 ?_
  refine JI_eq 45 44 12942 _ rfl rfl rfl rfl ?_
  refine JI_dup F dI_X2_39 rfl ?_
  refine JI_ctor F hx (As := []) (st := [.ref (gb G + (6 + 44)), .int (nI 2), .ref (gb G + (6 + 1))]) 44 (C_init_X1 l G (6 + 44) (by decide +kernel)) rfl (by unfold vu; rw [if_pos rfl]) zm_X2_24 zn_X1 zy_X1 zk_X1 rfl zh_X1 (by decide) (Nat.le_of_ble_eq_true rfl) ⟨Nat.le_of_ble_eq_true rfl, Nat.le_of_ble_eq_true rfl⟩ rfl dI_X2_40 ?_
  refine JI_eq 65 64 19394 (pf G 6 [.inr (2, [.ref (gb G + (6 + 1)), .int (nI 0), .int (nI 0)]), .inl (G.2.2.1.2.2.1, 8, .inr (.inr (.inr (.inr (va_up (va_up (fun _ => none) (nI 0).toNatClampNeg (some (gb G + (6 + 2)))) (nI 1).toNatClampNeg (some (gb G + (6 + 23))))))))]) rfl rfl rfl (pf_ctor (Nat.le_of_ble_eq_true rfl)) ?_
  refine JI_ast F (r := (RX1, TX1, 10)) (i := nI 2) 1 2 44 (by decide) rfl rfl (by decide) ((pf_out (Nat.le_of_ble_eq_true rfl)).trans (ent_o (show lay (6 + 44) = (1, 0) by decide +kernel) (by decide))) rfl (n_in (by decide) (by decide)) dI_X2_43 ?_
  refine JI_eq 65 64 19394 (pf G 6 [.inr (2, [.ref (gb G + (6 + 1)), .int (nI 0), .int (nI 0)]), .inl (G.2.2.1.2.2.1, 8, .inr (.inr (.inr (.inr (va_up (va_up (va_up (fun _ => none) (nI 0).toNatClampNeg (some (gb G + (6 + 2)))) (nI 1).toNatClampNeg (some (gb G + (6 + 23)))) (nI 2).toNatClampNeg (some (gb G + (6 + 44))))))))]) rfl rfl rfl (pf_set (Nat.le_of_ble_eq_true rfl) rfl) ?_
  refine JI_iinc F (v := nI 3) (L' := [(1, .int (nI 3)), (0, .ref (gb G + 6))]) 0 dI_X2_44 rfl (by decide) (by decide) rfl ?_
  refine JI_goto F (tgt := 25) dI_X2_47 (by decide) ?_
  refine JI_iln F 0 dI_X2_25 rfl rfl ?_
  refine JI_bi F (v := (nI 8)) dI_X2_26 (by decide) ?_
  refine JI_cge F (tgt := 50) dI_X2_28 (by decide) (fun h => absurd h (by decide)) (fun _ => ?_)
  refine JI_aln F 1 dI_X2_31 rfl rfl ?_
  refine JI_get F (ci := 2) (v := .ref (gb G + (6 + 1))) (fs := [.ref (gb G + (6 + 1)), .int (nI 0), .int (nI 0)]) 0 0 rfl inX2 (by decide) rfl (by decide) zf_X2_11 rfl rfl dI_X2_32 ?_
  refine JI_iln F 0 dI_X2_35 rfl rfl ?_
  refine JI_new F (ci := 1) rfl inX1 tyX1 tyX1_ok zc_X2_9 zj_X1 zy_X1 zd_X1 (Nat.le_of_ble_eq_true rfl) (Nat.le_of_ble_eq_true rfl) dI_X2_36 ?_
  refine JI_eq 66 65 19404 _ rfl rfl rfl rfl ?_
  refine JI_dup F dI_X2_39 rfl ?_
  refine JI_ctor F hx (As := []) (st := [.ref (gb G + (6 + 65)), .int (nI 3), .ref (gb G + (6 + 1))]) 65 (C_init_X1 l G (6 + 65) (by decide +kernel)) rfl (by unfold vu; rw [if_pos rfl]) zm_X2_24 zn_X1 zy_X1 zk_X1 rfl zh_X1 (by decide) (Nat.le_of_ble_eq_true rfl) ⟨Nat.le_of_ble_eq_true rfl, Nat.le_of_ble_eq_true rfl⟩ rfl dI_X2_40 ?_
  refine JI_eq 86 85 25856 (pf G 6 [.inr (2, [.ref (gb G + (6 + 1)), .int (nI 0), .int (nI 0)]), .inl (G.2.2.1.2.2.1, 8, .inr (.inr (.inr (.inr (va_up (va_up (va_up (fun _ => none) (nI 0).toNatClampNeg (some (gb G + (6 + 2)))) (nI 1).toNatClampNeg (some (gb G + (6 + 23)))) (nI 2).toNatClampNeg (some (gb G + (6 + 44))))))))]) rfl rfl rfl (pf_ctor (Nat.le_of_ble_eq_true rfl)) ?_
  refine JI_ast F (r := (RX1, TX1, 10)) (i := nI 3) 1 2 65 (by decide) rfl rfl (by decide) ((pf_out (Nat.le_of_ble_eq_true rfl)).trans (ent_o (show lay (6 + 65) = (1, 0) by decide +kernel) (by decide))) rfl (n_in (by decide) (by decide)) dI_X2_43 ?_
  refine JI_eq 86 85 25856 (pf G 6 [.inr (2, [.ref (gb G + (6 + 1)), .int (nI 0), .int (nI 0)]), .inl (G.2.2.1.2.2.1, 8, .inr (.inr (.inr (.inr (va_up (va_up (va_up (va_up (fun _ => none) (nI 0).toNatClampNeg (some (gb G + (6 + 2)))) (nI 1).toNatClampNeg (some (gb G + (6 + 23)))) (nI 2).toNatClampNeg (some (gb G + (6 + 44)))) (nI 3).toNatClampNeg (some (gb G + (6 + 65))))))))]) rfl rfl rfl (pf_set (Nat.le_of_ble_eq_true rfl) rfl) ?_
  refine JI_iinc F (v := nI 4) (L' := [(1, .int (nI 4)), (0, .ref (gb G + 6))]) 0 dI_X2_44 rfl (by decide) (by decide) rfl ?_
  refine JI_goto F (tgt := 25) dI_X2_47 (by decide) ?_
  refine JI_iln F 0 dI_X2_25 rfl rfl ?_
  refine JI_bi F (v := (nI 8)) dI_X2_26 (by decide) ?_
  refine JI_cge F (tgt := 50) dI_X2_28 (by decide) (fun h => absurd h (by decide)) (fun _ => ?_)
  refine JI_aln F 1 dI_X2_31 rfl rfl ?_
  refine JI_get F (ci := 2) (v := .ref (gb G + (6 + 1))) (fs := [.ref (gb G + (6 + 1)), .int (nI 0), .int (nI 0)]) 0 0 rfl inX2 (by decide) rfl (by decide) zf_X2_11 rfl rfl dI_X2_32 ?_
  refine JI_iln F 0 dI_X2_35 rfl rfl ?_
  refine JI_new F (ci := 1) rfl inX1 tyX1 tyX1_ok zc_X2_9 zj_X1 zy_X1 zd_X1 (Nat.le_of_ble_eq_true rfl) (Nat.le_of_ble_eq_true rfl) dI_X2_36 ?_
  refine JI_eq 87 86 25866 _ rfl rfl rfl rfl ?_
  refine JI_dup F dI_X2_39 rfl ?_
  refine JI_ctor F hx (As := []) (st := [.ref (gb G + (6 + 86)), .int (nI 4), .ref (gb G + (6 + 1))]) 86 (C_init_X1 l G (6 + 86) (by decide +kernel)) rfl (by unfold vu; rw [if_pos rfl]) zm_X2_24 zn_X1 zy_X1 zk_X1 rfl zh_X1 (by decide) (Nat.le_of_ble_eq_true rfl) ⟨Nat.le_of_ble_eq_true rfl, Nat.le_of_ble_eq_true rfl⟩ rfl dI_X2_40 ?_
  refine JI_eq 107 106 32318 (pf G 6 [.inr (2, [.ref (gb G + (6 + 1)), .int (nI 0), .int (nI 0)]), .inl (G.2.2.1.2.2.1, 8, .inr (.inr (.inr (.inr (va_up (va_up (va_up (va_up (fun _ => none) (nI 0).toNatClampNeg (some (gb G + (6 + 2)))) (nI 1).toNatClampNeg (some (gb G + (6 + 23)))) (nI 2).toNatClampNeg (some (gb G + (6 + 44)))) (nI 3).toNatClampNeg (some (gb G + (6 + 65))))))))]) rfl rfl rfl (pf_ctor (Nat.le_of_ble_eq_true rfl)) ?_
  refine JI_ast F (r := (RX1, TX1, 10)) (i := nI 4) 1 2 86 (by decide) rfl rfl (by decide) ((pf_out (Nat.le_of_ble_eq_true rfl)).trans (ent_o (show lay (6 + 86) = (1, 0) by decide +kernel) (by decide))) rfl (n_in (by decide) (by decide)) dI_X2_43 ?_
  refine JI_eq 107 106 32318 (pf G 6 [.inr (2, [.ref (gb G + (6 + 1)), .int (nI 0), .int (nI 0)]), .inl (G.2.2.1.2.2.1, 8, .inr (.inr (.inr (.inr (va_up (va_up (va_up (va_up (va_up (fun _ => none) (nI 0).toNatClampNeg (some (gb G + (6 + 2)))) (nI 1).toNatClampNeg (some (gb G + (6 + 23)))) (nI 2).toNatClampNeg (some (gb G + (6 + 44)))) (nI 3).toNatClampNeg (some (gb G + (6 + 65)))) (nI 4).toNatClampNeg (some (gb G + (6 + 86))))))))]) rfl rfl rfl (pf_set (Nat.le_of_ble_eq_true rfl) rfl) ?_
  refine JI_iinc F (v := nI 5) (L' := [(1, .int (nI 5)), (0, .ref (gb G + 6))]) 0 dI_X2_44 rfl (by decide) (by decide) rfl ?_
  refine JI_goto F (tgt := 25) dI_X2_47 (by decide) ?_
  refine JI_iln F 0 dI_X2_25 rfl rfl ?_
  refine JI_bi F (v := (nI 8)) dI_X2_26 (by decide) ?_
  refine JI_cge F (tgt := 50) dI_X2_28 (by decide) (fun h => absurd h (by decide)) (fun _ => ?_)
  refine JI_aln F 1 dI_X2_31 rfl rfl ?_
  refine JI_get F (ci := 2) (v := .ref (gb G + (6 + 1))) (fs := [.ref (gb G + (6 + 1)), .int (nI 0), .int (nI 0)]) 0 0 rfl inX2 (by decide) rfl (by decide) zf_X2_11 rfl rfl dI_X2_32 ?_
  refine JI_iln F 0 dI_X2_35 rfl rfl ?_
  refine JI_new F (ci := 1) rfl inX1 tyX1 tyX1_ok zc_X2_9 zj_X1 zy_X1 zd_X1 (Nat.le_of_ble_eq_true rfl) (Nat.le_of_ble_eq_true rfl) dI_X2_36 ?_
  refine JI_eq 108 107 32328 _ rfl rfl rfl rfl ?_
  refine JI_dup F dI_X2_39 rfl ?_
  refine JI_ctor F hx (As := []) (st := [.ref (gb G + (6 + 107)), .int (nI 5), .ref (gb G + (6 + 1))]) 107 (C_init_X1 l G (6 + 107) (by decide +kernel)) rfl (by unfold vu; rw [if_pos rfl]) zm_X2_24 zn_X1 zy_X1 zk_X1 rfl zh_X1 (by decide) (Nat.le_of_ble_eq_true rfl) ⟨Nat.le_of_ble_eq_true rfl, Nat.le_of_ble_eq_true rfl⟩ rfl dI_X2_40 ?_
  refine JI_eq 128 127 38780 (pf G 6 [.inr (2, [.ref (gb G + (6 + 1)), .int (nI 0), .int (nI 0)]), .inl (G.2.2.1.2.2.1, 8, .inr (.inr (.inr (.inr (va_up (va_up (va_up (va_up (va_up (fun _ => none) (nI 0).toNatClampNeg (some (gb G + (6 + 2)))) (nI 1).toNatClampNeg (some (gb G + (6 + 23)))) (nI 2).toNatClampNeg (some (gb G + (6 + 44)))) (nI 3).toNatClampNeg (some (gb G + (6 + 65)))) (nI 4).toNatClampNeg (some (gb G + (6 + 86))))))))]) rfl rfl rfl (pf_ctor (Nat.le_of_ble_eq_true rfl)) ?_
  refine JI_ast F (r := (RX1, TX1, 10)) (i := nI 5) 1 2 107 (by decide) rfl rfl (by decide) ((pf_out (Nat.le_of_ble_eq_true rfl)).trans (ent_o (show lay (6 + 107) = (1, 0) by decide +kernel) (by decide))) rfl (n_in (by decide) (by decide)) dI_X2_43 ?_
  refine JI_eq 128 127 38780 (pf G 6 [.inr (2, [.ref (gb G + (6 + 1)), .int (nI 0), .int (nI 0)]), .inl (G.2.2.1.2.2.1, 8, .inr (.inr (.inr (.inr (va_up (va_up (va_up (va_up (va_up (va_up (fun _ => none) (nI 0).toNatClampNeg (some (gb G + (6 + 2)))) (nI 1).toNatClampNeg (some (gb G + (6 + 23)))) (nI 2).toNatClampNeg (some (gb G + (6 + 44)))) (nI 3).toNatClampNeg (some (gb G + (6 + 65)))) (nI 4).toNatClampNeg (some (gb G + (6 + 86)))) (nI 5).toNatClampNeg (some (gb G + (6 + 107))))))))]) rfl rfl rfl (pf_set (Nat.le_of_ble_eq_true rfl) rfl) ?_
  refine JI_iinc F (v := nI 6) (L' := [(1, .int (nI 6)), (0, .ref (gb G + 6))]) 0 dI_X2_44 rfl (by decide) (by decide) rfl ?_
  refine JI_goto F (tgt := 25) dI_X2_47 (by decide) ?_
  refine JI_iln F 0 dI_X2_25 rfl rfl ?_
  refine JI_bi F (v := (nI 8)) dI_X2_26 (by decide) ?_
  refine JI_cge F (tgt := 50) dI_X2_28 (by decide) (fun h => absurd h (by decide)) (fun _ => ?_)
  refine JI_aln F 1 dI_X2_31 rfl rfl ?_
  refine JI_get F (ci := 2) (v := .ref (gb G + (6 + 1))) (fs := [.ref (gb G + (6 + 1)), .int (nI 0), .int (nI 0)]) 0 0 rfl inX2 (by decide) rfl (by decide) zf_X2_11 rfl rfl dI_X2_32 ?_
  refine JI_iln F 0 dI_X2_35 rfl rfl ?_
  refine JI_new F (ci := 1) rfl inX1 tyX1 tyX1_ok zc_X2_9 zj_X1 zy_X1 zd_X1 (Nat.le_of_ble_eq_true rfl) (Nat.le_of_ble_eq_true rfl) dI_X2_36 ?_
  refine JI_eq 129 128 38790 _ rfl rfl rfl rfl ?_
  refine JI_dup F dI_X2_39 rfl ?_
  refine JI_ctor F hx (As := []) (st := [.ref (gb G + (6 + 128)), .int (nI 6), .ref (gb G + (6 + 1))]) 128 (C_init_X1 l G (6 + 128) (by decide +kernel)) rfl (by unfold vu; rw [if_pos rfl]) zm_X2_24 zn_X1 zy_X1 zk_X1 rfl zh_X1 (by decide) (Nat.le_of_ble_eq_true rfl) ⟨Nat.le_of_ble_eq_true rfl, Nat.le_of_ble_eq_true rfl⟩ rfl dI_X2_40 ?_
  refine JI_eq 149 148 45242 (pf G 6 [.inr (2, [.ref (gb G + (6 + 1)), .int (nI 0), .int (nI 0)]), .inl (G.2.2.1.2.2.1, 8, .inr (.inr (.inr (.inr (va_up (va_up (va_up (va_up (va_up (va_up (fun _ => none) (nI 0).toNatClampNeg (some (gb G + (6 + 2)))) (nI 1).toNatClampNeg (some (gb G + (6 + 23)))) (nI 2).toNatClampNeg (some (gb G + (6 + 44)))) (nI 3).toNatClampNeg (some (gb G + (6 + 65)))) (nI 4).toNatClampNeg (some (gb G + (6 + 86)))) (nI 5).toNatClampNeg (some (gb G + (6 + 107))))))))]) rfl rfl rfl (pf_ctor (Nat.le_of_ble_eq_true rfl)) ?_
  refine JI_ast F (r := (RX1, TX1, 10)) (i := nI 6) 1 2 128 (by decide) rfl rfl (by decide) ((pf_out (Nat.le_of_ble_eq_true rfl)).trans (ent_o (show lay (6 + 128) = (1, 0) by decide +kernel) (by decide))) rfl (n_in (by decide) (by decide)) dI_X2_43 ?_
  refine JI_eq 149 148 45242 (pf G 6 [.inr (2, [.ref (gb G + (6 + 1)), .int (nI 0), .int (nI 0)]), .inl (G.2.2.1.2.2.1, 8, .inr (.inr (.inr (.inr (va_up (va_up (va_up (va_up (va_up (va_up (va_up (fun _ => none) (nI 0).toNatClampNeg (some (gb G + (6 + 2)))) (nI 1).toNatClampNeg (some (gb G + (6 + 23)))) (nI 2).toNatClampNeg (some (gb G + (6 + 44)))) (nI 3).toNatClampNeg (some (gb G + (6 + 65)))) (nI 4).toNatClampNeg (some (gb G + (6 + 86)))) (nI 5).toNatClampNeg (some (gb G + (6 + 107)))) (nI 6).toNatClampNeg (some (gb G + (6 + 128))))))))]) rfl rfl rfl (pf_set (Nat.le_of_ble_eq_true rfl) rfl) ?_
  refine JI_iinc F (v := nI 7) (L' := [(1, .int (nI 7)), (0, .ref (gb G + 6))]) 0 dI_X2_44 rfl (by decide) (by decide) rfl ?_
  refine JI_goto F (tgt := 25) dI_X2_47 (by decide) ?_
  refine JI_iln F 0 dI_X2_25 rfl rfl ?_
  refine JI_bi F (v := (nI 8)) dI_X2_26 (by decide) ?_
  refine JI_cge F (tgt := 50) dI_X2_28 (by decide) (fun h => absurd h (by decide)) (fun _ => ?_)
  refine JI_aln F 1 dI_X2_31 rfl rfl ?_
  refine JI_get F (ci := 2) (v := .ref (gb G + (6 + 1))) (fs := [.ref (gb G + (6 + 1)), .int (nI 0), .int (nI 0)]) 0 0 rfl inX2 (by decide) rfl (by decide) zf_X2_11 rfl rfl dI_X2_32 ?_
  refine JI_iln F 0 dI_X2_35 rfl rfl ?_
  refine JI_new F (ci := 1) rfl inX1 tyX1 tyX1_ok zc_X2_9 zj_X1 zy_X1 zd_X1 (Nat.le_of_ble_eq_true rfl) (Nat.le_of_ble_eq_true rfl) dI_X2_36 ?_
  refine JI_eq 150 149 45252 _ rfl rfl rfl rfl ?_
  refine JI_dup F dI_X2_39 rfl ?_
  refine JI_ctor F hx (As := []) (st := [.ref (gb G + (6 + 149)), .int (nI 7), .ref (gb G + (6 + 1))]) 149 (C_init_X1 l G (6 + 149) (by decide +kernel)) rfl (by unfold vu; rw [if_pos rfl]) zm_X2_24 zn_X1 zy_X1 zk_X1 rfl zh_X1 (by decide) (Nat.le_of_ble_eq_true rfl) ⟨Nat.le_of_ble_eq_true rfl, Nat.le_of_ble_eq_true rfl⟩ rfl dI_X2_40 ?_
  refine JI_eq 170 169 51704 (pf G 6 [.inr (2, [.ref (gb G + (6 + 1)), .int (nI 0), .int (nI 0)]), .inl (G.2.2.1.2.2.1, 8, .inr (.inr (.inr (.inr (va_up (va_up (va_up (va_up (va_up (va_up (va_up (fun _ => none) (nI 0).toNatClampNeg (some (gb G + (6 + 2)))) (nI 1).toNatClampNeg (some (gb G + (6 + 23)))) (nI 2).toNatClampNeg (some (gb G + (6 + 44)))) (nI 3).toNatClampNeg (some (gb G + (6 + 65)))) (nI 4).toNatClampNeg (some (gb G + (6 + 86)))) (nI 5).toNatClampNeg (some (gb G + (6 + 107)))) (nI 6).toNatClampNeg (some (gb G + (6 + 128))))))))]) rfl rfl rfl (pf_ctor (Nat.le_of_ble_eq_true rfl)) ?_
  refine JI_ast F (r := (RX1, TX1, 10)) (i := nI 7) 1 2 149 (by decide) rfl rfl (by decide) ((pf_out (Nat.le_of_ble_eq_true rfl)).trans (ent_o (show lay (6 + 149) = (1, 0) by decide +kernel) (by decide))) rfl (n_in (by decide) (by decide)) dI_X2_43 ?_
  refine JI_eq 170 169 51704 (pf G 6 [.inr (2, [.ref (gb G + (6 + 1)), .int (nI 0), .int (nI 0)]), .inl (G.2.2.1.2.2.1, 8, .inr (.inr (.inr (.inr (va_up (va_up (va_up (va_up (va_up (va_up (va_up (va_up (fun _ => none) (nI 0).toNatClampNeg (some (gb G + (6 + 2)))) (nI 1).toNatClampNeg (some (gb G + (6 + 23)))) (nI 2).toNatClampNeg (some (gb G + (6 + 44)))) (nI 3).toNatClampNeg (some (gb G + (6 + 65)))) (nI 4).toNatClampNeg (some (gb G + (6 + 86)))) (nI 5).toNatClampNeg (some (gb G + (6 + 107)))) (nI 6).toNatClampNeg (some (gb G + (6 + 128)))) (nI 7).toNatClampNeg (some (gb G + (6 + 149))))))))]) rfl rfl rfl (pf_set (Nat.le_of_ble_eq_true rfl) rfl) ?_
  refine JI_iinc F (v := nI 8) (L' := [(1, .int (nI 8)), (0, .ref (gb G + 6))]) 0 dI_X2_44 rfl (by decide) (by decide) rfl ?_
  refine JI_goto F (tgt := 25) dI_X2_47 (by decide) ?_
  refine JI_iln F 0 dI_X2_25 rfl rfl ?_
  refine JI_bi F (v := (nI 8)) dI_X2_26 (by decide) ?_
  refine JI_cge F (tgt := 50) dI_X2_28 (by decide) (fun _ => ?_) (fun h => absurd (by decide) h)
  exact JI_ret F (Nat.le_refl _) (Nat.le_refl _) rfl (hfin_X2 G) dI_X2_50
theorem dI_X7_0 : decode cX7_init 0 = .ok (.aload_n 0, 1) := by decide +kernel
theorem dI_X7_1 : decode cX7_init 1 = .ok (.invokespecial 3, 3) := by decide +kernel
theorem dI_X7_4 : decode cX7_init 4 = .ok (.aload_n 0, 1) := by decide +kernel
theorem dI_X7_5 : decode cX7_init 5 = .ok (.bipush 30, 2) := by decide +kernel
theorem dI_X7_7 : decode cX7_init 7 = .ok (.newarray .int, 2) := by decide +kernel
theorem dI_X7_9 : decode cX7_init 9 = .ok (.putfield 9, 3) := by decide +kernel
theorem dI_X7_12 : decode cX7_init 12 = .ok (.aload_n 0, 1) := by decide +kernel
theorem dI_X7_13 : decode cX7_init 13 = .ok (.bipush 30, 2) := by decide +kernel
theorem dI_X7_15 : decode cX7_init 15 = .ok (.newarray .int, 2) := by decide +kernel
theorem dI_X7_17 : decode cX7_init 17 = .ok (.putfield 15, 3) := by decide +kernel
theorem dI_X7_20 : decode cX7_init 20 = .ok (.aload_n 0, 1) := by decide +kernel
theorem dI_X7_21 : decode cX7_init 21 = .ok (.bipush 11, 2) := by decide +kernel
theorem dI_X7_23 : decode cX7_init 23 = .ok (.newarray .int, 2) := by decide +kernel
theorem dI_X7_25 : decode cX7_init 25 = .ok (.putfield 18, 3) := by decide +kernel
theorem dI_X7_28 : decode cX7_init 28 = .ok (.aload_n 0, 1) := by decide +kernel
theorem dI_X7_29 : decode cX7_init 29 = .ok (.iconst 0, 1) := by decide +kernel
theorem dI_X7_30 : decode cX7_init 30 = .ok (.putfield 21, 3) := by decide +kernel
theorem dI_X7_33 : decode cX7_init 33 = .ok (.aload_n 0, 1) := by decide +kernel
theorem dI_X7_34 : decode cX7_init 34 = .ok (.iconst 0, 1) := by decide +kernel
theorem dI_X7_35 : decode cX7_init 35 = .ok (.putfield 25, 3) := by decide +kernel
theorem dI_X7_38 : decode cX7_init 38 = .ok (.return_, 1) := by decide +kernel
theorem zg_X7 (G : Gp) : [.ref (gb G + (176 + 1)), .ref (gb G + (176 + 2)), .ref (gb G + (176 + 3)), .int (nI 0), .int (nI 0)] = flds (gb G) 176 7 (st0 176) := by
  rfl
theorem hfin_X7 (G : Gp) : ∀ j, j < 4 → ∀ H : Heap, va_at (gD G) vwCl (gb G + (176 + j), pf G 176 [.inr (7, [.ref (gb G + (176 + 1)), .ref (gb G + (176 + 2)), .ref (gb G + (176 + 3)), .int (nI 0), .int (nI 0)]), .inl (G.2.2.1.1, 30, .inl (fun _ => 0)), .inl (G.2.2.1.1, 30, .inl (fun _ => 0)), .inl (G.2.2.1.1, 11, .inl (fun _ => 0))] j) H → va_at (gD G) vwCl (gb G + (176 + j), ent G (176 + j) (st0 (176 + j))) H := by
  intro j hj H h
  rcases (show j = 0 ∨ j = 1 ∨ j = 2 ∨ j = 3 ∨ 4 ≤ j by omega) with rfl | rfl | rfl | rfl | hj2
  · exact fin_o (ci := 7) ly_176 (by decide) (zg_X7 G) h
  · exact fin_i (N := 30) ly_177 (fun j _ => (st0_z ly_177 (by decide) (by decide) (by decide) (by decide) (by decide) (by decide) j).symm) h
  · exact fin_i (N := 30) ly_178 (fun j _ => (st0_z ly_178 (by decide) (by decide) (by decide) (by decide) (by decide) (by decide) j).symm) h
  · exact fin_i (N := 11) ly_179 (fun j _ => (st0_z ly_179 (by decide) (by decide) (by decide) (by decide) (by decide) (by decide) j).symm) h
  · rw [pf_out hj2] at h
    exact h
set_option maxRecDepth 20000 in
set_option maxHeartbeats 4000000 in
theorem C_init_X7 (l : Launch) (G : Gp) : CI l yX7_init cX7_init 1 1 20 3 71 G 176 7 4 [] := by
  refine CI_of (L := [(0, .ref (gb G + 176))]) RX7 (by decide) rfl rfl (Nat.le_of_ble_eq_true rfl) rfl ?_
  intro p e s m below meth c F hx hm
  refine JI_eq 1 0 0 (pf G 176 [.inr (7, [.null, .null, .null, .int 0, .int 0])]) rfl rfl rfl rfl ?_
  refine JI_aln F 0 dI_X7_0 rfl rfl ?_
  refine JI_obj F zo_X7 zO1 zO2 (by decide) (Nat.le_of_ble_eq_true rfl) (Nat.le_of_ble_eq_true rfl) dI_X7_1 ?_
  refine JI_aln F 0 dI_X7_4 rfl rfl ?_
  refine JI_bi F (v := (nI 30)) dI_X7_5 (by decide) ?_
  refine JI_newa F (atype := .int) (ty := .int) (cA := G.2.2.1.1) (a0 := (30, .inl (fun _ => 0))) (N := 30) 0 rfl rfl (fun h => h) (fun cA => vc_int cA 30) za_int (by decide) (by decide) (by decide) (Nat.le_of_ble_eq_true rfl) (Nat.le_of_ble_eq_true rfl) dI_X7_7 ?_
  refine JI_eq 2 1 30 (pf G 176 [.inr (7, [.null, .null, .null, .int 0, .int 0]), .inl (G.2.2.1.1, 30, .inl (fun _ => 0))]) rfl rfl rfl (pf_new rfl rfl) ?_
  refine JI_putF F hm (ci := 7) 0 0 rfl inX7 tyX7 tyX7_ok nmX7 (by decide) rfl (by decide) zf_X7_9 rfl rfl rfl (tyX7_ok 0 (by decide)) rfl rfl (Nat.le_of_ble_eq_true rfl) dI_X7_9 ?_
  refine JI_eq 2 1 30 (pf G 176 [.inr (7, [.ref (gb G + (176 + 1)), .null, .null, .int 0, .int 0]), .inl (G.2.2.1.1, 30, .inl (fun _ => 0))]) rfl rfl rfl (pf_set (Nat.le_of_ble_eq_true rfl) rfl) ?_
  refine JI_aln F 0 dI_X7_12 rfl rfl ?_
  refine JI_bi F (v := (nI 30)) dI_X7_13 (by decide) ?_
  refine JI_newa F (atype := .int) (ty := .int) (cA := G.2.2.1.1) (a0 := (30, .inl (fun _ => 0))) (N := 30) 0 rfl rfl (fun h => h) (fun cA => vc_int cA 30) za_int (by decide) (by decide) (by decide) (Nat.le_of_ble_eq_true rfl) (Nat.le_of_ble_eq_true rfl) dI_X7_15 ?_
  refine JI_eq 3 2 60 (pf G 176 [.inr (7, [.ref (gb G + (176 + 1)), .null, .null, .int 0, .int 0]), .inl (G.2.2.1.1, 30, .inl (fun _ => 0)), .inl (G.2.2.1.1, 30, .inl (fun _ => 0))]) rfl rfl rfl (pf_new rfl rfl) ?_
  refine JI_putF F hm (ci := 7) 0 1 rfl inX7 tyX7 tyX7_ok nmX7 (by decide) rfl (by decide) zf_X7_15 rfl rfl rfl (tyX7_ok 1 (by decide)) rfl rfl (Nat.le_of_ble_eq_true rfl) dI_X7_17 ?_
  refine JI_eq 3 2 60 (pf G 176 [.inr (7, [.ref (gb G + (176 + 1)), .ref (gb G + (176 + 2)), .null, .int 0, .int 0]), .inl (G.2.2.1.1, 30, .inl (fun _ => 0)), .inl (G.2.2.1.1, 30, .inl (fun _ => 0))]) rfl rfl rfl (pf_set (Nat.le_of_ble_eq_true rfl) rfl) ?_
  refine JI_aln F 0 dI_X7_20 rfl rfl ?_
  refine JI_bi F (v := (nI 11)) dI_X7_21 (by decide) ?_
  refine JI_newa F (atype := .int) (ty := .int) (cA := G.2.2.1.1) (a0 := (11, .inl (fun _ => 0))) (N := 11) 0 rfl rfl (fun h => h) (fun cA => vc_int cA 11) za_int (by decide) (by decide) (by decide) (Nat.le_of_ble_eq_true rfl) (Nat.le_of_ble_eq_true rfl) dI_X7_23 ?_
  refine JI_eq 4 3 71 (pf G 176 [.inr (7, [.ref (gb G + (176 + 1)), .ref (gb G + (176 + 2)), .null, .int 0, .int 0]), .inl (G.2.2.1.1, 30, .inl (fun _ => 0)), .inl (G.2.2.1.1, 30, .inl (fun _ => 0)), .inl (G.2.2.1.1, 11, .inl (fun _ => 0))]) rfl rfl rfl (pf_new rfl rfl) ?_
  refine JI_putF F hm (ci := 7) 0 2 rfl inX7 tyX7 tyX7_ok nmX7 (by decide) rfl (by decide) zf_X7_18 rfl rfl rfl (tyX7_ok 2 (by decide)) rfl rfl (Nat.le_of_ble_eq_true rfl) dI_X7_25 ?_
  refine JI_eq 4 3 71 (pf G 176 [.inr (7, [.ref (gb G + (176 + 1)), .ref (gb G + (176 + 2)), .ref (gb G + (176 + 3)), .int 0, .int 0]), .inl (G.2.2.1.1, 30, .inl (fun _ => 0)), .inl (G.2.2.1.1, 30, .inl (fun _ => 0)), .inl (G.2.2.1.1, 11, .inl (fun _ => 0))]) rfl rfl rfl (pf_set (Nat.le_of_ble_eq_true rfl) rfl) ?_
  refine JI_aln F 0 dI_X7_28 rfl rfl ?_
  refine JI_ic F (v := (nI 0)) dI_X7_29 (by decide) ?_
  refine JI_put F (ci := 7) 0 3 rfl inX7 tyX7 tyX7_ok nmX7 (by decide) rfl (by decide) zf_X7_21 rfl rfl (tyX7_ok 3 (by decide)) rfl rfl (Nat.le_of_ble_eq_true rfl) dI_X7_30 ?_
  refine JI_eq 4 3 71 (pf G 176 [.inr (7, [.ref (gb G + (176 + 1)), .ref (gb G + (176 + 2)), .ref (gb G + (176 + 3)), .int (nI 0), .int 0]), .inl (G.2.2.1.1, 30, .inl (fun _ => 0)), .inl (G.2.2.1.1, 30, .inl (fun _ => 0)), .inl (G.2.2.1.1, 11, .inl (fun _ => 0))]) rfl rfl rfl (pf_set (Nat.le_of_ble_eq_true rfl) rfl) ?_
  refine JI_aln F 0 dI_X7_33 rfl rfl ?_
  refine JI_ic F (v := (nI 0)) dI_X7_34 (by decide) ?_
  refine JI_put F (ci := 7) 0 4 rfl inX7 tyX7 tyX7_ok nmX7 (by decide) rfl (by decide) zf_X7_25 rfl rfl (tyX7_ok 4 (by decide)) rfl rfl (Nat.le_of_ble_eq_true rfl) dI_X7_35 ?_
  refine JI_eq 4 3 71 (pf G 176 [.inr (7, [.ref (gb G + (176 + 1)), .ref (gb G + (176 + 2)), .ref (gb G + (176 + 3)), .int (nI 0), .int (nI 0)]), .inl (G.2.2.1.1, 30, .inl (fun _ => 0)), .inl (G.2.2.1.1, 30, .inl (fun _ => 0)), .inl (G.2.2.1.1, 11, .inl (fun _ => 0))]) rfl rfl rfl (pf_set (Nat.le_of_ble_eq_true rfl) rfl) ?_
  exact JI_ret F (Nat.le_refl _) (Nat.le_refl _) rfl (hfin_X7 G) dI_X7_38
theorem dI_X5_0 : decode cX5_init 0 = .ok (.aload_n 0, 1) := by decide +kernel
theorem dI_X5_1 : decode cX5_init 1 = .ok (.invokespecial 3, 3) := by decide +kernel
theorem dI_X5_4 : decode cX5_init 4 = .ok (.aload_n 0, 1) := by decide +kernel
theorem dI_X5_5 : decode cX5_init 5 = .ok (.iconst 0, 1) := by decide +kernel
theorem dI_X5_6 : decode cX5_init 6 = .ok (.putfield 9, 3) := by decide +kernel
theorem dI_X5_9 : decode cX5_init 9 = .ok (.aload_n 0, 1) := by decide +kernel
theorem dI_X5_10 : decode cX5_init 10 = .ok (.iconst 0, 1) := by decide +kernel
theorem dI_X5_11 : decode cX5_init 11 = .ok (.putfield 15, 3) := by decide +kernel
theorem dI_X5_14 : decode cX5_init 14 = .ok (.aload_n 0, 1) := by decide +kernel
theorem dI_X5_15 : decode cX5_init 15 = .ok (.iconst (-1), 1) := by decide +kernel
theorem dI_X5_16 : decode cX5_init 16 = .ok (.putfield 18, 3) := by decide +kernel
theorem dI_X5_19 : decode cX5_init 19 = .ok (.aload_n 0, 1) := by decide +kernel
theorem dI_X5_20 : decode cX5_init 20 = .ok (.iconst 0, 1) := by decide +kernel
theorem dI_X5_21 : decode cX5_init 21 = .ok (.putfield 21, 3) := by decide +kernel
theorem dI_X5_24 : decode cX5_init 24 = .ok (.aload_n 0, 1) := by decide +kernel
theorem dI_X5_25 : decode cX5_init 25 = .ok (.aload_n 1, 1) := by decide +kernel
theorem dI_X5_26 : decode cX5_init 26 = .ok (.putfield 24, 3) := by decide +kernel
theorem dI_X5_29 : decode cX5_init 29 = .ok (.return_, 1) := by decide +kernel
theorem zg_X5 (G : Gp) : [.ref (gb G + 176), .int (nI 0), .int (nI 0), .int (-1), .int (nI 0)] = flds (gb G) 180 5 (st0 180) := by
  rfl
theorem hfin_X5 (G : Gp) : ∀ j, j < 1 → ∀ H : Heap, va_at (gD G) vwCl (gb G + (180 + j), pf G 180 [.inr (5, [.ref (gb G + 176), .int (nI 0), .int (nI 0), .int (-1), .int (nI 0)])] j) H → va_at (gD G) vwCl (gb G + (180 + j), ent G (180 + j) (st0 (180 + j))) H := by
  intro j hj H h
  rcases (show j = 0 ∨ 1 ≤ j by omega) with rfl | hj2
  · exact fin_o (ci := 5) ly_180 (by decide) (zg_X5 G) h
  · rw [pf_out hj2] at h
    exact h
set_option maxRecDepth 20000 in
set_option maxHeartbeats 4000000 in
theorem C_init_X5 (l : Launch) (G : Gp) : CI l yX5_init cX5_init 2 1 20 0 0 G 180 5 1 [.ref (gb G + 176)] := by
  refine CI_of (L := [(0, .ref (gb G + 180)), (1, .ref (gb G + 176))]) RX5 (by decide) rfl rfl (Nat.le_of_ble_eq_true rfl) rfl ?_
  intro p e s m below meth c F hx hm
  refine JI_eq 1 0 0 (pf G 180 [.inr (5, [.null, .int 0, .int 0, .int 0, .int 0])]) rfl rfl rfl rfl ?_
  refine JI_aln F 0 dI_X5_0 rfl rfl ?_
  refine JI_obj F zo_X5 zO1 zO2 (by decide) (Nat.le_of_ble_eq_true rfl) (Nat.le_of_ble_eq_true rfl) dI_X5_1 ?_
  refine JI_aln F 0 dI_X5_4 rfl rfl ?_
  refine JI_ic F (v := (nI 0)) dI_X5_5 (by decide) ?_
  refine JI_put F (ci := 5) 0 1 rfl inX5 tyX5 tyX5_ok nmX5 (by decide) rfl (by decide) zf_X5_9 rfl rfl (tyX5_ok 1 (by decide)) rfl rfl (Nat.le_of_ble_eq_true rfl) dI_X5_6 ?_
  refine JI_eq 1 0 0 (pf G 180 [.inr (5, [.null, .int (nI 0), .int 0, .int 0, .int 0])]) rfl rfl rfl (pf_set (Nat.le_of_ble_eq_true rfl) rfl) ?_
  refine JI_aln F 0 dI_X5_9 rfl rfl ?_
  refine JI_ic F (v := (nI 0)) dI_X5_10 (by decide) ?_
  refine JI_put F (ci := 5) 0 2 rfl inX5 tyX5 tyX5_ok nmX5 (by decide) rfl (by decide) zf_X5_15 rfl rfl (tyX5_ok 2 (by decide)) rfl rfl (Nat.le_of_ble_eq_true rfl) dI_X5_11 ?_
  refine JI_eq 1 0 0 (pf G 180 [.inr (5, [.null, .int (nI 0), .int (nI 0), .int 0, .int 0])]) rfl rfl rfl (pf_set (Nat.le_of_ble_eq_true rfl) rfl) ?_
  refine JI_aln F 0 dI_X5_14 rfl rfl ?_
  refine JI_ic F (v := (-1)) dI_X5_15 (by decide) ?_
  refine JI_put F (ci := 5) 0 3 rfl inX5 tyX5 tyX5_ok nmX5 (by decide) rfl (by decide) zf_X5_18 rfl rfl (tyX5_ok 3 (by decide)) rfl rfl (Nat.le_of_ble_eq_true rfl) dI_X5_16 ?_
  refine JI_eq 1 0 0 (pf G 180 [.inr (5, [.null, .int (nI 0), .int (nI 0), .int (-1), .int 0])]) rfl rfl rfl (pf_set (Nat.le_of_ble_eq_true rfl) rfl) ?_
  refine JI_aln F 0 dI_X5_19 rfl rfl ?_
  refine JI_ic F (v := (nI 0)) dI_X5_20 (by decide) ?_
  refine JI_put F (ci := 5) 0 4 rfl inX5 tyX5 tyX5_ok nmX5 (by decide) rfl (by decide) zf_X5_21 rfl rfl (tyX5_ok 4 (by decide)) rfl rfl (Nat.le_of_ble_eq_true rfl) dI_X5_21 ?_
  refine JI_eq 1 0 0 (pf G 180 [.inr (5, [.null, .int (nI 0), .int (nI 0), .int (-1), .int (nI 0)])]) rfl rfl rfl (pf_set (Nat.le_of_ble_eq_true rfl) rfl) ?_
  refine JI_aln F 0 dI_X5_24 rfl rfl ?_
  refine JI_aln F 1 dI_X5_25 rfl rfl ?_
  refine JI_putF F hm (ci := 5) 0 0 rfl inX5 tyX5 tyX5_ok nmX5 (by decide) rfl (by decide) zf_X5_24 rfl rfl rfl (tyX5_ok 0 (by decide)) rfl rfl (Nat.le_of_ble_eq_true rfl) dI_X5_26 ?_
  refine JI_eq 1 0 0 (pf G 180 [.inr (5, [.ref (gb G + 176), .int (nI 0), .int (nI 0), .int (-1), .int (nI 0)])]) rfl rfl rfl (pf_set (Nat.le_of_ble_eq_true rfl) rfl) ?_
  exact JI_ret F (Nat.le_refl _) (Nat.le_refl _) rfl (hfin_X5 G) dI_X5_29
theorem dI_X8_0 : decode cX8_init 0 = .ok (.aload_n 0, 1) := by decide +kernel
theorem dI_X8_1 : decode cX8_init 1 = .ok (.invokespecial 3, 3) := by decide +kernel
theorem dI_X8_4 : decode cX8_init 4 = .ok (.aload_n 0, 1) := by decide +kernel
theorem dI_X8_5 : decode cX8_init 5 = .ok (.new 9, 3) := by decide +kernel
theorem dI_X8_8 : decode cX8_init 8 = .ok (.dup, 1) := by decide +kernel
theorem dI_X8_9 : decode cX8_init 9 = .ok (.invokespecial 11, 3) := by decide +kernel
theorem dI_X8_12 : decode cX8_init 12 = .ok (.putfield 12, 3) := by decide +kernel
theorem dI_X8_15 : decode cX8_init 15 = .ok (.aload_n 0, 1) := by decide +kernel
theorem dI_X8_16 : decode cX8_init 16 = .ok (.new 16, 3) := by decide +kernel
theorem dI_X8_19 : decode cX8_init 19 = .ok (.dup, 1) := by decide +kernel
theorem dI_X8_20 : decode cX8_init 20 = .ok (.aload_n 0, 1) := by decide +kernel
theorem dI_X8_21 : decode cX8_init 21 = .ok (.getfield 12, 3) := by decide +kernel
theorem dI_X8_24 : decode cX8_init 24 = .ok (.invokespecial 18, 3) := by decide +kernel
theorem dI_X8_27 : decode cX8_init 27 = .ok (.putfield 21, 3) := by decide +kernel
theorem dI_X8_30 : decode cX8_init 30 = .ok (.aload_n 0, 1) := by decide +kernel
theorem dI_X8_31 : decode cX8_init 31 = .ok (.new 25, 3) := by decide +kernel
theorem dI_X8_34 : decode cX8_init 34 = .ok (.dup, 1) := by decide +kernel
theorem dI_X8_35 : decode cX8_init 35 = .ok (.invokespecial 27, 3) := by decide +kernel
theorem dI_X8_38 : decode cX8_init 38 = .ok (.putfield 28, 3) := by decide +kernel
theorem dI_X8_41 : decode cX8_init 41 = .ok (.aload_n 0, 1) := by decide +kernel
theorem dI_X8_42 : decode cX8_init 42 = .ok (.new 32, 3) := by decide +kernel
theorem dI_X8_45 : decode cX8_init 45 = .ok (.dup, 1) := by decide +kernel
theorem dI_X8_46 : decode cX8_init 46 = .ok (.invokespecial 34, 3) := by decide +kernel
theorem dI_X8_49 : decode cX8_init 49 = .ok (.putfield 35, 3) := by decide +kernel
theorem dI_X8_52 : decode cX8_init 52 = .ok (.aload_n 0, 1) := by decide +kernel
theorem dI_X8_53 : decode cX8_init 53 = .ok (.new 39, 3) := by decide +kernel
theorem dI_X8_56 : decode cX8_init 56 = .ok (.dup, 1) := by decide +kernel
theorem dI_X8_57 : decode cX8_init 57 = .ok (.invokespecial 41, 3) := by decide +kernel
theorem dI_X8_60 : decode cX8_init 60 = .ok (.putfield 42, 3) := by decide +kernel
theorem dI_X8_63 : decode cX8_init 63 = .ok (.aload_n 0, 1) := by decide +kernel
theorem dI_X8_64 : decode cX8_init 64 = .ok (.new 46, 3) := by decide +kernel
theorem dI_X8_67 : decode cX8_init 67 = .ok (.dup, 1) := by decide +kernel
theorem dI_X8_68 : decode cX8_init 68 = .ok (.aload_n 0, 1) := by decide +kernel
theorem dI_X8_69 : decode cX8_init 69 = .ok (.getfield 42, 3) := by decide +kernel
theorem dI_X8_72 : decode cX8_init 72 = .ok (.invokespecial 48, 3) := by decide +kernel
theorem dI_X8_75 : decode cX8_init 75 = .ok (.putfield 51, 3) := by decide +kernel
theorem dI_X8_78 : decode cX8_init 78 = .ok (.aload_n 0, 1) := by decide +kernel
theorem dI_X8_79 : decode cX8_init 79 = .ok (.new 55, 3) := by decide +kernel
theorem dI_X8_82 : decode cX8_init 82 = .ok (.dup, 1) := by decide +kernel
theorem dI_X8_83 : decode cX8_init 83 = .ok (.invokespecial 57, 3) := by decide +kernel
theorem dI_X8_86 : decode cX8_init 86 = .ok (.putfield 58, 3) := by decide +kernel
theorem dI_X8_89 : decode cX8_init 89 = .ok (.aload_n 0, 1) := by decide +kernel
theorem dI_X8_90 : decode cX8_init 90 = .ok (.iconst 0, 1) := by decide +kernel
theorem dI_X8_91 : decode cX8_init 91 = .ok (.putfield 62, 3) := by decide +kernel
theorem dI_X8_94 : decode cX8_init 94 = .ok (.aload_n 0, 1) := by decide +kernel
theorem dI_X8_95 : decode cX8_init 95 = .ok (.new 55, 3) := by decide +kernel
theorem dI_X8_98 : decode cX8_init 98 = .ok (.dup, 1) := by decide +kernel
theorem dI_X8_99 : decode cX8_init 99 = .ok (.invokespecial 57, 3) := by decide +kernel
theorem dI_X8_102 : decode cX8_init 102 = .ok (.putfield 66, 3) := by decide +kernel
theorem dI_X8_105 : decode cX8_init 105 = .ok (.aload_n 0, 1) := by decide +kernel
theorem dI_X8_106 : decode cX8_init 106 = .ok (.new 55, 3) := by decide +kernel
theorem dI_X8_109 : decode cX8_init 109 = .ok (.dup, 1) := by decide +kernel
theorem dI_X8_110 : decode cX8_init 110 = .ok (.invokespecial 57, 3) := by decide +kernel
theorem dI_X8_113 : decode cX8_init 113 = .ok (.putfield 69, 3) := by decide +kernel
theorem dI_X8_116 : decode cX8_init 116 = .ok (.aload_n 0, 1) := by decide +kernel
theorem dI_X8_117 : decode cX8_init 117 = .ok (.iconst (-1), 1) := by decide +kernel
theorem dI_X8_118 : decode cX8_init 118 = .ok (.putfield 72, 3) := by decide +kernel
theorem dI_X8_121 : decode cX8_init 121 = .ok (.aload_n 0, 1) := by decide +kernel
theorem dI_X8_122 : decode cX8_init 122 = .ok (.iconst 0, 1) := by decide +kernel
theorem dI_X8_123 : decode cX8_init 123 = .ok (.putfield 76, 3) := by decide +kernel
theorem dI_X8_126 : decode cX8_init 126 = .ok (.return_, 1) := by decide +kernel
theorem zg_X8 (G : Gp) : [.ref (gb G + (0 + 1)), .ref (gb G + (0 + 3)), .ref (gb G + (0 + 4)), .ref (gb G + (0 + 6)), .ref (gb G + (0 + 176)), .ref (gb G + (0 + 180)), .ref (gb G + (0 + 181)), .int (nI 0), .ref (gb G + (0 + 202)), .ref (gb G + (0 + 223)), .int (-1), .int (nI 0)] = flds (gb G) 0 8 (st0 0) := by
  rfl
theorem hfin_X8 (G : Gp) : ∀ j, j < 244 → ∀ H : Heap, va_at (gD G) vwCl (gb G + (0 + j), pf G 0 [.inr (8, [.ref (gb G + (0 + 1)), .ref (gb G + (0 + 3)), .ref (gb G + (0 + 4)), .ref (gb G + (0 + 6)), .ref (gb G + (0 + 176)), .ref (gb G + (0 + 180)), .ref (gb G + (0 + 181)), .int (nI 0), .ref (gb G + (0 + 202)), .ref (gb G + (0 + 223)), .int (-1), .int (nI 0)])] j) H → va_at (gD G) vwCl (gb G + (0 + j), ent G (0 + j) (st0 (0 + j))) H := by
  intro j hj H h
  rcases (show j = 0 ∨ 1 ≤ j by omega) with rfl | hj2
  · exact fin_o (ci := 8) ly_0 (by decide) (zg_X8 G) h
  · rw [pf_out hj2] at h
    exact h
set_option maxRecDepth 20000 in
set_option maxHeartbeats 4000000 in
theorem C_init_X8 (l : Launch) (G : Gp) : CI l yX8_init cX8_init 1 4 82 243 71587 G 0 8 244 [] := by
  refine CI_of (L := [(0, .ref (gb G + 0))]) RX8 (by decide) rfl rfl (Nat.le_of_ble_eq_true rfl) rfl ?_
  intro p e s m below meth c F hx hm
  refine JI_eq 1 0 0 (pf G 0 [.inr (8, [.null, .null, .null, .null, .null, .null, .null, .int 0, .null, .null, .int 0, .int 0])]) rfl rfl rfl rfl ?_
  refine JI_aln F 0 dI_X8_0 rfl rfl ?_
  refine JI_obj F zo_X8 zO1 zO2 (by decide) (Nat.le_of_ble_eq_true rfl) (Nat.le_of_ble_eq_true rfl) dI_X8_1 ?_
  refine JI_aln F 0 dI_X8_4 rfl rfl ?_
  refine JI_new F (ci := 6) rfl inX6 tyX6 tyX6_ok zc_X8_9 zj_X6 zy_X6 zd_X6 (Nat.le_of_ble_eq_true rfl) (Nat.le_of_ble_eq_true rfl) dI_X8_5 ?_
  refine JI_eq 2 1 2 _ rfl rfl rfl rfl ?_
  refine JI_dup F dI_X8_8 rfl ?_
  refine JI_ctorN F hx (As := []) (st := [.ref (gb G + (0 + 1)), .ref (gb G + 0)]) 1 (C_init_X6 l G) rfl (by unfold vu; rw [if_pos rfl]) hx.1.1 zn_X6 zy_X6 zk_X6 rfl zh_X6 (by decide) (Nat.le_of_ble_eq_true rfl) ⟨Nat.le_of_ble_eq_true rfl, Nat.le_of_ble_eq_true rfl⟩ rfl dI_X8_9 ?_
  refine JI_eq 3 2 402 (pf G 0 [.inr (8, [.null, .null, .null, .null, .null, .null, .null, .int 0, .null, .null, .int 0, .int 0])]) rfl rfl rfl (pf_ctor (Nat.le_of_ble_eq_true rfl)) ?_
  refine JI_putF F hm (ci := 8) 0 0 rfl inX8 tyX8 tyX8_ok nmX8 (by decide) rfl (by decide) zf_X8_12 rfl rfl rfl (tyX8_ok 0 (by decide)) rfl rfl (Nat.le_of_ble_eq_true rfl) dI_X8_12 ?_
  refine JI_eq 3 2 402 (pf G 0 [.inr (8, [.ref (gb G + (0 + 1)), .null, .null, .null, .null, .null, .null, .int 0, .null, .null, .int 0, .int 0])]) rfl rfl rfl (pf_set (Nat.le_of_ble_eq_true rfl) rfl) ?_
  refine JI_aln F 0 dI_X8_15 rfl rfl ?_
  refine JI_new F (ci := 3) rfl inX3 tyX3 tyX3_ok zc_X8_16 zj_X3 zy_X3 zd_X3 (Nat.le_of_ble_eq_true rfl) (Nat.le_of_ble_eq_true rfl) dI_X8_16 ?_
  refine JI_eq 4 3 407 _ rfl rfl rfl rfl ?_
  refine JI_dup F dI_X8_19 rfl ?_
  refine JI_aln F 0 dI_X8_20 rfl rfl ?_
  refine JI_get F (ci := 8) (v := .ref (gb G + (0 + 1))) (fs := [.ref (gb G + (0 + 1)), .null, .null, .null, .null, .null, .null, .int 0, .null, .null, .int 0, .int 0]) 0 0 rfl inX8 (by decide) rfl (by decide) zf_X8_12 rfl rfl dI_X8_21 ?_
  refine JI_ctor F hx (As := [.ref (gb G + (0 + 1))]) (st := [.ref (gb G + (0 + 3)), .ref (gb G + 0)]) 3 (C_init_X3 l G) rfl (by unfold vu; rw [if_pos rfl]) zm_X8_18 zn_X3 zy_X3 zk_X3 rfl zh_X3 (by decide) (Nat.le_of_ble_eq_true rfl) ⟨Nat.le_of_ble_eq_true rfl, Nat.le_of_ble_eq_true rfl⟩ rfl dI_X8_24 ?_
  refine JI_eq 4 3 407 (pf G 0 [.inr (8, [.ref (gb G + (0 + 1)), .null, .null, .null, .null, .null, .null, .int 0, .null, .null, .int 0, .int 0])]) rfl rfl rfl (pf_ctor (Nat.le_of_ble_eq_true rfl)) ?_
  refine JI_putF F hm (ci := 8) 0 1 rfl inX8 tyX8 tyX8_ok nmX8 (by decide) rfl (by decide) zf_X8_21 rfl rfl rfl (tyX8_ok 1 (by decide)) rfl rfl (Nat.le_of_ble_eq_true rfl) dI_X8_27 ?_
  refine JI_eq 4 3 407 (pf G 0 [.inr (8, [.ref (gb G + (0 + 1)), .ref (gb G + (0 + 3)), .null, .null, .null, .null, .null, .int 0, .null, .null, .int 0, .int 0])]) rfl rfl rfl (pf_set (Nat.le_of_ble_eq_true rfl) rfl) ?_
  refine JI_aln F 0 dI_X8_30 rfl rfl ?_
  refine JI_new F (ci := 0) rfl inX0 tyX0 tyX0_ok zc_X8_25 zj_X0 zy_X0 zd_X0 (Nat.le_of_ble_eq_true rfl) (Nat.le_of_ble_eq_true rfl) dI_X8_31 ?_
  refine JI_eq 5 4 409 _ rfl rfl rfl rfl ?_
  refine JI_dup F dI_X8_34 rfl ?_
  refine JI_ctorN F hx (As := []) (st := [.ref (gb G + (0 + 4)), .ref (gb G + 0)]) 4 (C_init_X0 l G) rfl (by unfold vu; rw [if_pos rfl]) hx.1.2.1 zn_X0 zy_X0 zk_X0 rfl zh_X0 (by decide) (Nat.le_of_ble_eq_true rfl) ⟨Nat.le_of_ble_eq_true rfl, Nat.le_of_ble_eq_true rfl⟩ rfl dI_X8_35 ?_
  refine JI_eq 6 5 413 (pf G 0 [.inr (8, [.ref (gb G + (0 + 1)), .ref (gb G + (0 + 3)), .null, .null, .null, .null, .null, .int 0, .null, .null, .int 0, .int 0])]) rfl rfl rfl (pf_ctor (Nat.le_of_ble_eq_true rfl)) ?_
  refine JI_putF F hm (ci := 8) 0 2 rfl inX8 tyX8 tyX8_ok nmX8 (by decide) rfl (by decide) zf_X8_28 rfl rfl rfl (tyX8_ok 2 (by decide)) rfl rfl (Nat.le_of_ble_eq_true rfl) dI_X8_38 ?_
  refine JI_eq 6 5 413 (pf G 0 [.inr (8, [.ref (gb G + (0 + 1)), .ref (gb G + (0 + 3)), .ref (gb G + (0 + 4)), .null, .null, .null, .null, .int 0, .null, .null, .int 0, .int 0])]) rfl rfl rfl (pf_set (Nat.le_of_ble_eq_true rfl) rfl) ?_
  refine JI_aln F 0 dI_X8_41 rfl rfl ?_
  refine JI_new F (ci := 2) rfl inX2 tyX2 tyX2_ok zc_X8_32 zj_X2 zy_X2 zd_X2 (Nat.le_of_ble_eq_true rfl) (Nat.le_of_ble_eq_true rfl) dI_X8_42 ?_
  refine JI_eq 7 6 416 _ rfl rfl rfl rfl ?_
  refine JI_dup F dI_X8_45 rfl ?_
  refine JI_ctor F hx (As := []) (st := [.ref (gb G + (0 + 6)), .ref (gb G + 0)]) 6 (C_init_X2 l G) rfl (by unfold vu; rw [if_pos rfl]) zm_X8_34 zn_X2 zy_X2 zk_X2 rfl zh_X2 (by decide) (Nat.le_of_ble_eq_true rfl) ⟨Nat.le_of_ble_eq_true rfl, Nat.le_of_ble_eq_true rfl⟩ rfl dI_X8_46 ?_
  refine JI_eq 176 175 52120 (pf G 0 [.inr (8, [.ref (gb G + (0 + 1)), .ref (gb G + (0 + 3)), .ref (gb G + (0 + 4)), .null, .null, .null, .null, .int 0, .null, .null, .int 0, .int 0])]) rfl rfl rfl (pf_ctor (Nat.le_of_ble_eq_true rfl)) ?_
  refine JI_putF F hm (ci := 8) 0 3 rfl inX8 tyX8 tyX8_ok nmX8 (by decide) rfl (by decide) zf_X8_35 rfl rfl rfl (tyX8_ok 3 (by decide)) rfl rfl (Nat.le_of_ble_eq_true rfl) dI_X8_49 ?_
  refine JI_eq 176 175 52120 (pf G 0 [.inr (8, [.ref (gb G + (0 + 1)), .ref (gb G + (0 + 3)), .ref (gb G + (0 + 4)), .ref (gb G + (0 + 6)), .null, .null, .null, .int 0, .null, .null, .int 0, .int 0])]) rfl rfl rfl (pf_set (Nat.le_of_ble_eq_true rfl) rfl) ?_
  refine JI_aln F 0 dI_X8_52 rfl rfl ?_
  refine JI_new F (ci := 7) rfl inX7 tyX7 tyX7_ok zc_X8_39 zj_X7 zy_X7 zd_X7 (Nat.le_of_ble_eq_true rfl) (Nat.le_of_ble_eq_true rfl) dI_X8_53 ?_
  refine JI_eq 177 176 52125 _ rfl rfl rfl rfl ?_
  refine JI_dup F dI_X8_56 rfl ?_
  refine JI_ctorN F hx (As := []) (st := [.ref (gb G + (0 + 176)), .ref (gb G + 0)]) 176 (C_init_X7 l G) rfl (by unfold vu; rw [if_pos rfl]) hx.1.2.2.1 zn_X7 zy_X7 zk_X7 rfl zh_X7 (by decide) (Nat.le_of_ble_eq_true rfl) ⟨Nat.le_of_ble_eq_true rfl, Nat.le_of_ble_eq_true rfl⟩ rfl dI_X8_57 ?_
  refine JI_eq 180 179 52196 (pf G 0 [.inr (8, [.ref (gb G + (0 + 1)), .ref (gb G + (0 + 3)), .ref (gb G + (0 + 4)), .ref (gb G + (0 + 6)), .null, .null, .null, .int 0, .null, .null, .int 0, .int 0])]) rfl rfl rfl (pf_ctor (Nat.le_of_ble_eq_true rfl)) ?_
  refine JI_putF F hm (ci := 8) 0 4 rfl inX8 tyX8 tyX8_ok nmX8 (by decide) rfl (by decide) zf_X8_42 rfl rfl rfl (tyX8_ok 4 (by decide)) rfl rfl (Nat.le_of_ble_eq_true rfl) dI_X8_60 ?_
  refine JI_eq 180 179 52196 (pf G 0 [.inr (8, [.ref (gb G + (0 + 1)), .ref (gb G + (0 + 3)), .ref (gb G + (0 + 4)), .ref (gb G + (0 + 6)), .ref (gb G + (0 + 176)), .null, .null, .int 0, .null, .null, .int 0, .int 0])]) rfl rfl rfl (pf_set (Nat.le_of_ble_eq_true rfl) rfl) ?_
  refine JI_aln F 0 dI_X8_63 rfl rfl ?_
  refine JI_new F (ci := 5) rfl inX5 tyX5 tyX5_ok zc_X8_46 zj_X5 zy_X5 zd_X5 (Nat.le_of_ble_eq_true rfl) (Nat.le_of_ble_eq_true rfl) dI_X8_64 ?_
  refine JI_eq 181 180 52201 _ rfl rfl rfl rfl ?_
  refine JI_dup F dI_X8_67 rfl ?_
  refine JI_aln F 0 dI_X8_68 rfl rfl ?_
  refine JI_get F (ci := 8) (v := .ref (gb G + (0 + 176))) (fs := [.ref (gb G + (0 + 1)), .ref (gb G + (0 + 3)), .ref (gb G + (0 + 4)), .ref (gb G + (0 + 6)), .ref (gb G + (0 + 176)), .null, .null, .int 0, .null, .null, .int 0, .int 0]) 0 4 rfl inX8 (by decide) rfl (by decide) zf_X8_42 rfl rfl dI_X8_69 ?_
  refine JI_ctor F hx (As := [.ref (gb G + (0 + 176))]) (st := [.ref (gb G + (0 + 180)), .ref (gb G + 0)]) 180 (C_init_X5 l G) rfl (by unfold vu; rw [if_pos rfl]) zm_X8_48 zn_X5 zy_X5 zk_X5 rfl zh_X5 (by decide) (Nat.le_of_ble_eq_true rfl) ⟨Nat.le_of_ble_eq_true rfl, Nat.le_of_ble_eq_true rfl⟩ rfl dI_X8_72 ?_
  refine JI_eq 181 180 52201 (pf G 0 [.inr (8, [.ref (gb G + (0 + 1)), .ref (gb G + (0 + 3)), .ref (gb G + (0 + 4)), .ref (gb G + (0 + 6)), .ref (gb G + (0 + 176)), .null, .null, .int 0, .null, .null, .int 0, .int 0])]) rfl rfl rfl (pf_ctor (Nat.le_of_ble_eq_true rfl)) ?_
  refine JI_putF F hm (ci := 8) 0 5 rfl inX8 tyX8 tyX8_ok nmX8 (by decide) rfl (by decide) zf_X8_51 rfl rfl rfl (tyX8_ok 5 (by decide)) rfl rfl (Nat.le_of_ble_eq_true rfl) dI_X8_75 ?_
  refine JI_eq 181 180 52201 (pf G 0 [.inr (8, [.ref (gb G + (0 + 1)), .ref (gb G + (0 + 3)), .ref (gb G + (0 + 4)), .ref (gb G + (0 + 6)), .ref (gb G + (0 + 176)), .ref (gb G + (0 + 180)), .null, .int 0, .null, .null, .int 0, .int 0])]) rfl rfl rfl (pf_set (Nat.le_of_ble_eq_true rfl) rfl) ?_
  refine JI_aln F 0 dI_X8_78 rfl rfl ?_
  refine JI_new F (ci := 1) rfl inX1 tyX1 tyX1_ok zc_X8_55 zj_X1 zy_X1 zd_X1 (Nat.le_of_ble_eq_true rfl) (Nat.le_of_ble_eq_true rfl) dI_X8_79 ?_
  refine JI_eq 182 181 52211 _ rfl rfl rfl rfl ?_
  refine JI_dup F dI_X8_82 rfl ?_
  refine JI_ctor F hx (As := []) (st := [.ref (gb G + (0 + 181)), .ref (gb G + 0)]) 181 (C_init_X1 l G (0 + 181) (by decide +kernel)) rfl (by unfold vu; rw [if_pos rfl]) zm_X8_57 zn_X1 zy_X1 zk_X1 rfl zh_X1 (by decide) (Nat.le_of_ble_eq_true rfl) ⟨Nat.le_of_ble_eq_true rfl, Nat.le_of_ble_eq_true rfl⟩ rfl dI_X8_83 ?_
  refine JI_eq 202 201 58663 (pf G 0 [.inr (8, [.ref (gb G + (0 + 1)), .ref (gb G + (0 + 3)), .ref (gb G + (0 + 4)), .ref (gb G + (0 + 6)), .ref (gb G + (0 + 176)), .ref (gb G + (0 + 180)), .null, .int 0, .null, .null, .int 0, .int 0])]) rfl rfl rfl (pf_ctor (Nat.le_of_ble_eq_true rfl)) ?_
  refine JI_putF F hm (ci := 8) 0 6 rfl inX8 tyX8 tyX8_ok nmX8 (by decide) rfl (by decide) zf_X8_58 rfl rfl rfl (tyX8_ok 6 (by decide)) rfl rfl (Nat.le_of_ble_eq_true rfl) dI_X8_86 ?_
  refine JI_eq 202 201 58663 (pf G 0 [.inr (8, [.ref (gb G + (0 + 1)), .ref (gb G + (0 + 3)), .ref (gb G + (0 + 4)), .ref (gb G + (0 + 6)), .ref (gb G + (0 + 176)), .ref (gb G + (0 + 180)), .ref (gb G + (0 + 181)), .int 0, .null, .null, .int 0, .int 0])]) rfl rfl rfl (pf_set (Nat.le_of_ble_eq_true rfl) rfl) ?_
  refine JI_aln F 0 dI_X8_89 rfl rfl ?_
  refine JI_ic F (v := (nI 0)) dI_X8_90 (by decide) ?_
  refine JI_put F (ci := 8) 0 7 rfl inX8 tyX8 tyX8_ok nmX8 (by decide) rfl (by decide) zf_X8_62 rfl rfl (tyX8_ok 7 (by decide)) rfl rfl (Nat.le_of_ble_eq_true rfl) dI_X8_91 ?_
  refine JI_eq 202 201 58663 (pf G 0 [.inr (8, [.ref (gb G + (0 + 1)), .ref (gb G + (0 + 3)), .ref (gb G + (0 + 4)), .ref (gb G + (0 + 6)), .ref (gb G + (0 + 176)), .ref (gb G + (0 + 180)), .ref (gb G + (0 + 181)), .int (nI 0), .null, .null, .int 0, .int 0])]) rfl rfl rfl (pf_set (Nat.le_of_ble_eq_true rfl) rfl) ?_
  refine JI_aln F 0 dI_X8_94 rfl rfl ?_
  refine JI_new F (ci := 1) rfl inX1 tyX1 tyX1_ok zc_X8_55 zj_X1 zy_X1 zd_X1 (Nat.le_of_ble_eq_true rfl) (Nat.le_of_ble_eq_true rfl) dI_X8_95 ?_
  refine JI_eq 203 202 58673 _ rfl rfl rfl rfl ?_
  refine JI_dup F dI_X8_98 rfl ?_
  refine JI_ctor F hx (As := []) (st := [.ref (gb G + (0 + 202)), .ref (gb G + 0)]) 202 (C_init_X1 l G (0 + 202) (by decide +kernel)) rfl (by unfold vu; rw [if_pos rfl]) zm_X8_57 zn_X1 zy_X1 zk_X1 rfl zh_X1 (by decide) (Nat.le_of_ble_eq_true rfl) ⟨Nat.le_of_ble_eq_true rfl, Nat.le_of_ble_eq_true rfl⟩ rfl dI_X8_99 ?_
  refine JI_eq 223 222 65125 (pf G 0 [.inr (8, [.ref (gb G + (0 + 1)), .ref (gb G + (0 + 3)), .ref (gb G + (0 + 4)), .ref (gb G + (0 + 6)), .ref (gb G + (0 + 176)), .ref (gb G + (0 + 180)), .ref (gb G + (0 + 181)), .int (nI 0), .null, .null, .int 0, .int 0])]) rfl rfl rfl (pf_ctor (Nat.le_of_ble_eq_true rfl)) ?_
  refine JI_put F (ci := 8) 0 8 rfl inX8 tyX8 tyX8_ok nmX8 (by decide) rfl (by decide) zf_X8_66 rfl rfl (tyX8_ok 8 (by decide)) rfl rfl (Nat.le_of_ble_eq_true rfl) dI_X8_102 ?_
  refine JI_eq 223 222 65125 (pf G 0 [.inr (8, [.ref (gb G + (0 + 1)), .ref (gb G + (0 + 3)), .ref (gb G + (0 + 4)), .ref (gb G + (0 + 6)), .ref (gb G + (0 + 176)), .ref (gb G + (0 + 180)), .ref (gb G + (0 + 181)), .int (nI 0), .ref (gb G + (0 + 202)), .null, .int 0, .int 0])]) rfl rfl rfl (pf_set (Nat.le_of_ble_eq_true rfl) rfl) ?_
  refine JI_aln F 0 dI_X8_105 rfl rfl ?_
  refine JI_new F (ci := 1) rfl inX1 tyX1 tyX1_ok zc_X8_55 zj_X1 zy_X1 zd_X1 (Nat.le_of_ble_eq_true rfl) (Nat.le_of_ble_eq_true rfl) dI_X8_106 ?_
  refine JI_eq 224 223 65135 _ rfl rfl rfl rfl ?_
  refine JI_dup F dI_X8_109 rfl ?_
  refine JI_ctor F hx (As := []) (st := [.ref (gb G + (0 + 223)), .ref (gb G + 0)]) 223 (C_init_X1 l G (0 + 223) (by decide +kernel)) rfl (by unfold vu; rw [if_pos rfl]) zm_X8_57 zn_X1 zy_X1 zk_X1 rfl zh_X1 (by decide) (Nat.le_of_ble_eq_true rfl) ⟨Nat.le_of_ble_eq_true rfl, Nat.le_of_ble_eq_true rfl⟩ rfl dI_X8_110 ?_
  refine JI_eq 244 243 71587 (pf G 0 [.inr (8, [.ref (gb G + (0 + 1)), .ref (gb G + (0 + 3)), .ref (gb G + (0 + 4)), .ref (gb G + (0 + 6)), .ref (gb G + (0 + 176)), .ref (gb G + (0 + 180)), .ref (gb G + (0 + 181)), .int (nI 0), .ref (gb G + (0 + 202)), .null, .int 0, .int 0])]) rfl rfl rfl (pf_ctor (Nat.le_of_ble_eq_true rfl)) ?_
  refine JI_put F (ci := 8) 0 9 rfl inX8 tyX8 tyX8_ok nmX8 (by decide) rfl (by decide) zf_X8_69 rfl rfl (tyX8_ok 9 (by decide)) rfl rfl (Nat.le_of_ble_eq_true rfl) dI_X8_113 ?_
  refine JI_eq 244 243 71587 (pf G 0 [.inr (8, [.ref (gb G + (0 + 1)), .ref (gb G + (0 + 3)), .ref (gb G + (0 + 4)), .ref (gb G + (0 + 6)), .ref (gb G + (0 + 176)), .ref (gb G + (0 + 180)), .ref (gb G + (0 + 181)), .int (nI 0), .ref (gb G + (0 + 202)), .ref (gb G + (0 + 223)), .int 0, .int 0])]) rfl rfl rfl (pf_set (Nat.le_of_ble_eq_true rfl) rfl) ?_
  refine JI_aln F 0 dI_X8_116 rfl rfl ?_
  refine JI_ic F (v := (-1)) dI_X8_117 (by decide) ?_
  refine JI_put F (ci := 8) 0 10 rfl inX8 tyX8 tyX8_ok nmX8 (by decide) rfl (by decide) zf_X8_72 rfl rfl (tyX8_ok 10 (by decide)) rfl rfl (Nat.le_of_ble_eq_true rfl) dI_X8_118 ?_
  refine JI_eq 244 243 71587 (pf G 0 [.inr (8, [.ref (gb G + (0 + 1)), .ref (gb G + (0 + 3)), .ref (gb G + (0 + 4)), .ref (gb G + (0 + 6)), .ref (gb G + (0 + 176)), .ref (gb G + (0 + 180)), .ref (gb G + (0 + 181)), .int (nI 0), .ref (gb G + (0 + 202)), .ref (gb G + (0 + 223)), .int (-1), .int 0])]) rfl rfl rfl (pf_set (Nat.le_of_ble_eq_true rfl) rfl) ?_
  refine JI_aln F 0 dI_X8_121 rfl rfl ?_
  refine JI_ic F (v := (nI 0)) dI_X8_122 (by decide) ?_
  refine JI_put F (ci := 8) 0 11 rfl inX8 tyX8 tyX8_ok nmX8 (by decide) rfl (by decide) zf_X8_76 rfl rfl (tyX8_ok 11 (by decide)) rfl rfl (Nat.le_of_ble_eq_true rfl) dI_X8_123 ?_
  refine JI_eq 244 243 71587 (pf G 0 [.inr (8, [.ref (gb G + (0 + 1)), .ref (gb G + (0 + 3)), .ref (gb G + (0 + 4)), .ref (gb G + (0 + 6)), .ref (gb G + (0 + 176)), .ref (gb G + (0 + 180)), .ref (gb G + (0 + 181)), .int (nI 0), .ref (gb G + (0 + 202)), .ref (gb G + (0 + 223)), .int (-1), .int (nI 0)])]) rfl rfl rfl (pf_set (Nat.le_of_ble_eq_true rfl) rfl) ?_
  exact JI_ret F (Nat.le_refl _) (Nat.le_refl _) rfl (hfin_X8 G) dI_X8_126
theorem dI_X9_0 : decode cX9_init 0 = .ok (.aload_n 0, 1) := by decide +kernel
theorem dI_X9_1 : decode cX9_init 1 = .ok (.invokespecial 1, 3) := by decide +kernel
theorem dI_X9_4 : decode cX9_init 4 = .ok (.aload_n 0, 1) := by decide +kernel
theorem dI_X9_5 : decode cX9_init 5 = .ok (.sipush 6682, 3) := by decide +kernel
theorem dI_X9_8 : decode cX9_init 8 = .ok (.newarray .int, 2) := by decide +kernel
theorem dI_X9_10 : decode cX9_init 10 = .ok (.putfield 7, 3) := by decide +kernel
theorem dI_X9_13 : decode cX9_init 13 = .ok (.aload_n 0, 1) := by decide +kernel
theorem dI_X9_14 : decode cX9_init 14 = .ok (.sipush 6682, 3) := by decide +kernel
theorem dI_X9_17 : decode cX9_init 17 = .ok (.newarray .int, 2) := by decide +kernel
theorem dI_X9_19 : decode cX9_init 19 = .ok (.putfield 13, 3) := by decide +kernel
theorem dI_X9_22 : decode cX9_init 22 = .ok (.aload_n 0, 1) := by decide +kernel
theorem dI_X9_23 : decode cX9_init 23 = .ok (.sipush 6682, 3) := by decide +kernel
theorem dI_X9_26 : decode cX9_init 26 = .ok (.newarray .int, 2) := by decide +kernel
theorem dI_X9_28 : decode cX9_init 28 = .ok (.putfield 16, 3) := by decide +kernel
theorem dI_X9_31 : decode cX9_init 31 = .ok (.aload_n 0, 1) := by decide +kernel
theorem dI_X9_32 : decode cX9_init 32 = .ok (.ldc 19, 2) := by decide +kernel
theorem dI_X9_34 : decode cX9_init 34 = .ok (.newarray .int, 2) := by decide +kernel
theorem dI_X9_36 : decode cX9_init 36 = .ok (.putfield 20, 3) := by decide +kernel
theorem dI_X9_39 : decode cX9_init 39 = .ok (.aload_n 0, 1) := by decide +kernel
theorem dI_X9_40 : decode cX9_init 40 = .ok (.sipush 400, 3) := by decide +kernel
theorem dI_X9_43 : decode cX9_init 43 = .ok (.newarray .int, 2) := by decide +kernel
theorem dI_X9_45 : decode cX9_init 45 = .ok (.putfield 23, 3) := by decide +kernel
theorem dI_X9_48 : decode cX9_init 48 = .ok (.aload_n 0, 1) := by decide +kernel
theorem dI_X9_49 : decode cX9_init 49 = .ok (.iconst (-1), 1) := by decide +kernel
theorem dI_X9_50 : decode cX9_init 50 = .ok (.putfield 26, 3) := by decide +kernel
theorem dI_X9_53 : decode cX9_init 53 = .ok (.aload_n 0, 1) := by decide +kernel
theorem dI_X9_54 : decode cX9_init 54 = .ok (.sipush 2048, 3) := by decide +kernel
theorem dI_X9_57 : decode cX9_init 57 = .ok (.newarray .int, 2) := by decide +kernel
theorem dI_X9_59 : decode cX9_init 59 = .ok (.putfield 30, 3) := by decide +kernel
theorem dI_X9_62 : decode cX9_init 62 = .ok (.aload_n 0, 1) := by decide +kernel
theorem dI_X9_63 : decode cX9_init 63 = .ok (.sipush 2048, 3) := by decide +kernel
theorem dI_X9_66 : decode cX9_init 66 = .ok (.newarray .int, 2) := by decide +kernel
theorem dI_X9_68 : decode cX9_init 68 = .ok (.putfield 33, 3) := by decide +kernel
theorem dI_X9_71 : decode cX9_init 71 = .ok (.aload_n 0, 1) := by decide +kernel
theorem dI_X9_72 : decode cX9_init 72 = .ok (.sipush 2048, 3) := by decide +kernel
theorem dI_X9_75 : decode cX9_init 75 = .ok (.newarray .int, 2) := by decide +kernel
theorem dI_X9_77 : decode cX9_init 77 = .ok (.putfield 36, 3) := by decide +kernel
theorem dI_X9_80 : decode cX9_init 80 = .ok (.aload_n 0, 1) := by decide +kernel
theorem dI_X9_81 : decode cX9_init 81 = .ok (.sipush 2048, 3) := by decide +kernel
theorem dI_X9_84 : decode cX9_init 84 = .ok (.newarray .int, 2) := by decide +kernel
theorem dI_X9_86 : decode cX9_init 86 = .ok (.putfield 39, 3) := by decide +kernel
theorem dI_X9_89 : decode cX9_init 89 = .ok (.aload_n 0, 1) := by decide +kernel
theorem dI_X9_90 : decode cX9_init 90 = .ok (.sipush 2048, 3) := by decide +kernel
theorem dI_X9_93 : decode cX9_init 93 = .ok (.newarray .int, 2) := by decide +kernel
theorem dI_X9_95 : decode cX9_init 95 = .ok (.putfield 42, 3) := by decide +kernel
theorem dI_X9_98 : decode cX9_init 98 = .ok (.aload_n 0, 1) := by decide +kernel
theorem dI_X9_99 : decode cX9_init 99 = .ok (.sipush 2048, 3) := by decide +kernel
theorem dI_X9_102 : decode cX9_init 102 = .ok (.newarray .int, 2) := by decide +kernel
theorem dI_X9_104 : decode cX9_init 104 = .ok (.putfield 45, 3) := by decide +kernel
theorem dI_X9_107 : decode cX9_init 107 = .ok (.aload_n 0, 1) := by decide +kernel
theorem dI_X9_108 : decode cX9_init 108 = .ok (.sipush 2048, 3) := by decide +kernel
theorem dI_X9_111 : decode cX9_init 111 = .ok (.newarray .int, 2) := by decide +kernel
theorem dI_X9_113 : decode cX9_init 113 = .ok (.putfield 48, 3) := by decide +kernel
theorem dI_X9_116 : decode cX9_init 116 = .ok (.aload_n 0, 1) := by decide +kernel
theorem dI_X9_117 : decode cX9_init 117 = .ok (.bipush 40, 2) := by decide +kernel
theorem dI_X9_119 : decode cX9_init 119 = .ok (.newarray .int, 2) := by decide +kernel
theorem dI_X9_121 : decode cX9_init 121 = .ok (.putfield 51, 3) := by decide +kernel
theorem dI_X9_124 : decode cX9_init 124 = .ok (.aload_n 0, 1) := by decide +kernel
theorem dI_X9_125 : decode cX9_init 125 = .ok (.getfield 7, 3) := by decide +kernel
theorem dI_X9_128 : decode cX9_init 128 = .ok (.bipush 37, 2) := by decide +kernel
theorem dI_X9_130 : decode cX9_init 130 = .ok (.iconst 1, 1) := by decide +kernel
theorem dI_X9_131 : decode cX9_init 131 = .ok (.iastore, 1) := by decide +kernel
theorem dI_X9_132 : decode cX9_init 132 = .ok (.return_, 1) := by decide +kernel
theorem st244 : st0 244 = fun j => if j = 12 then -1 else nI 0 := by
  funext j
  unfold st0
  rw [if_neg (by decide), if_neg (by decide), if_pos rfl]
theorem zg_X9 (G : Gp) : [.int 0, .ref (gb G + (244 + 1)), .ref (gb G + (244 + 2)), .ref (gb G + (244 + 3)), .ref (gb G + (244 + 4)), .int 0, .int 0, .int 0, .ref (gb G + (244 + 5)), .int 0, .int 0, .int 0, .int (-1), .int 0, .int 0, .int 0, .int 0, .ref (gb G + (244 + 6)), .ref (gb G + (244 + 7)), .ref (gb G + (244 + 8)), .ref (gb G + (244 + 9)), .ref (gb G + (244 + 10)), .ref (gb G + (244 + 11)), .int 0, .ref (gb G + (244 + 12)), .ref (gb G + (244 + 13)), .int 0, .int 0, .int 0, .int 0, .int 0, .int 0, .int 0] = flds (gb G) 244 9 (st0 244) := by
  rw [st244]
  simp [flds, fsp, fval, List.mapIdx_cons, nI_0]
theorem hfin_X9 (G : Gp) : ∀ j, j < 14 → ∀ H : Heap, va_at (gD G) vwCl (gb G + (244 + j), pf G 244 [.inr (9, [.int 0, .ref (gb G + (244 + 1)), .ref (gb G + (244 + 2)), .ref (gb G + (244 + 3)), .ref (gb G + (244 + 4)), .int 0, .int 0, .int 0, .ref (gb G + (244 + 5)), .int 0, .int 0, .int 0, .int (-1), .int 0, .int 0, .int 0, .int 0, .ref (gb G + (244 + 6)), .ref (gb G + (244 + 7)), .ref (gb G + (244 + 8)), .ref (gb G + (244 + 9)), .ref (gb G + (244 + 10)), .ref (gb G + (244 + 11)), .int 0, .ref (gb G + (244 + 12)), .ref (gb G + (244 + 13)), .int 0, .int 0, .int 0, .int 0, .int 0, .int 0, .int 0]), .inl (G.2.2.1.1, 6682, .inl (upd (fun _ => 0) (nI 37).toNatClampNeg (nI 1))), .inl (G.2.2.1.1, 6682, .inl (fun _ => 0)), .inl (G.2.2.1.1, 6682, .inl (fun _ => 0)), .inl (G.2.2.1.1, 53456, .inl (fun _ => 0)), .inl (G.2.2.1.1, 400, .inl (fun _ => 0)), .inl (G.2.2.1.1, 2048, .inl (fun _ => 0)), .inl (G.2.2.1.1, 2048, .inl (fun _ => 0)), .inl (G.2.2.1.1, 2048, .inl (fun _ => 0)), .inl (G.2.2.1.1, 2048, .inl (fun _ => 0)), .inl (G.2.2.1.1, 2048, .inl (fun _ => 0)), .inl (G.2.2.1.1, 2048, .inl (fun _ => 0)), .inl (G.2.2.1.1, 2048, .inl (fun _ => 0)), .inl (G.2.2.1.1, 40, .inl (fun _ => 0))] j) H → va_at (gD G) vwCl (gb G + (244 + j), ent G (244 + j) (st0 (244 + j))) H := by
  intro j hj H h
  rcases (show j = 0 ∨ j = 1 ∨ j = 2 ∨ j = 3 ∨ j = 4 ∨ j = 5 ∨ j = 6 ∨ j = 7 ∨ j = 8 ∨ j = 9 ∨ j = 10 ∨ j = 11 ∨ j = 12 ∨ j = 13 ∨ 14 ≤ j by omega) with rfl | rfl | rfl | rfl | rfl | rfl | rfl | rfl | rfl | rfl | rfl | rfl | rfl | rfl | hj2
  · exact fin_o (ci := 9) ly_244 (by decide) (zg_X9 G) h
  · exact fin_i (N := 6682) ly_245 (fun j _ => st245 j) h
  · exact fin_i (N := 6682) ly_246 (fun j _ => st246 j) h
  · exact fin_i (N := 6682) ly_247 (fun j _ => st247 j) h
  · exact fin_i (N := 53456) ly_248 (fun j _ => (st0_z ly_248 (by decide) (by decide) (by decide) (by decide) (by decide) (by decide) j).symm) h
  · exact fin_i (N := 400) ly_249 (fun j _ => (st0_z ly_249 (by decide) (by decide) (by decide) (by decide) (by decide) (by decide) j).symm) h
  · exact fin_i (N := 2048) ly_250 (fun j _ => (st0_z ly_250 (by decide) (by decide) (by decide) (by decide) (by decide) (by decide) j).symm) h
  · exact fin_i (N := 2048) ly_251 (fun j _ => (st0_z ly_251 (by decide) (by decide) (by decide) (by decide) (by decide) (by decide) j).symm) h
  · exact fin_i (N := 2048) ly_252 (fun j _ => (st0_z ly_252 (by decide) (by decide) (by decide) (by decide) (by decide) (by decide) j).symm) h
  · exact fin_i (N := 2048) ly_253 (fun j _ => (st0_z ly_253 (by decide) (by decide) (by decide) (by decide) (by decide) (by decide) j).symm) h
  · exact fin_i (N := 2048) ly_254 (fun j _ => (st0_z ly_254 (by decide) (by decide) (by decide) (by decide) (by decide) (by decide) j).symm) h
  · exact fin_i (N := 2048) ly_255 (fun j _ => (st0_z ly_255 (by decide) (by decide) (by decide) (by decide) (by decide) (by decide) j).symm) h
  · exact fin_i (N := 2048) ly_256 (fun j _ => (st0_z ly_256 (by decide) (by decide) (by decide) (by decide) (by decide) (by decide) j).symm) h
  · exact fin_i (N := 40) ly_257 (fun j _ => (st0_z ly_257 (by decide) (by decide) (by decide) (by decide) (by decide) (by decide) j).symm) h
  · rw [pf_out hj2] at h
    exact h
set_option maxRecDepth 20000 in
set_option maxHeartbeats 4000000 in
theorem C_init_X9 (l : Launch) (G : Gp) : CI l yX9_init cX9_init 1 1 20 13 88278 G 244 9 14 [] := by
  refine CI_of (L := [(0, .ref (gb G + 244))]) RX9 (by decide) rfl rfl (Nat.le_of_ble_eq_true rfl) rfl ?_
  intro p e s m below meth c F hx hm
  refine JI_eq 1 0 0 (pf G 244 [.inr (9, [.int 0, .null, .null, .null, .null, .int 0, .int 0, .int 0, .null, .int 0, .int 0, .int 0, .int 0, .int 0, .int 0, .int 0, .int 0, .null, .null, .null, .null, .null, .null, .int 0, .null, .null, .int 0, .int 0, .int 0, .int 0, .int 0, .int 0, .int 0])]) rfl rfl rfl rfl ?_
  refine JI_aln F 0 dI_X9_0 rfl rfl ?_
  refine JI_obj F zo_X9 zO1 zO2 (by decide) (Nat.le_of_ble_eq_true rfl) (Nat.le_of_ble_eq_true rfl) dI_X9_1 ?_
  refine JI_aln F 0 dI_X9_4 rfl rfl ?_
  refine JI_si F (v := (nI 6682)) dI_X9_5 (by decide) ?_
  refine JI_newa F (atype := .int) (ty := .int) (cA := G.2.2.1.1) (a0 := (6682, .inl (fun _ => 0))) (N := 6682) 0 rfl rfl (fun h => h) (fun cA => vc_int cA 6682) za_int (by decide) (by decide) (by decide) (Nat.le_of_ble_eq_true rfl) (Nat.le_of_ble_eq_true rfl) dI_X9_8 ?_
  refine JI_eq 2 1 6682 (pf G 244 [.inr (9, [.int 0, .null, .null, .null, .null, .int 0, .int 0, .int 0, .null, .int 0, .int 0, .int 0, .int 0, .int 0, .int 0, .int 0, .int 0, .null, .null, .null, .null, .null, .null, .int 0, .null, .null, .int 0, .int 0, .int 0, .int 0, .int 0, .int 0, .int 0]), .inl (G.2.2.1.1, 6682, .inl (fun _ => 0))]) rfl rfl rfl (pf_new rfl rfl) ?_
  refine JI_putF F hm (ci := 9) 0 1 rfl inX9 tyX9 tyX9_ok nmX9 (by decide) rfl (by decide) zf_X9_7 rfl rfl rfl (tyX9_ok 1 (by decide)) rfl rfl (Nat.le_of_ble_eq_true rfl) dI_X9_10 ?_
  refine JI_eq 2 1 6682 (pf G 244 [.inr (9, [.int 0, .ref (gb G + (244 + 1)), .null, .null, .null, .int 0, .int 0, .int 0, .null, .int 0, .int 0, .int 0, .int 0, .int 0, .int 0, .int 0, .int 0, .null, .null, .null, .null, .null, .null, .int 0, .null, .null, .int 0, .int 0, .int 0, .int 0, .int 0, .int 0, .int 0]), .inl (G.2.2.1.1, 6682, .inl (fun _ => 0))]) rfl rfl rfl (pf_set (Nat.le_of_ble_eq_true rfl) rfl) ?_
  refine JI_aln F 0 dI_X9_13 rfl rfl ?_
  refine JI_si F (v := (nI 6682)) dI_X9_14 (by decide) ?_
  refine JI_newa F (atype := .int) (ty := .int) (cA := G.2.2.1.1) (a0 := (6682, .inl (fun _ => 0))) (N := 6682) 0 rfl rfl (fun h => h) (fun cA => vc_int cA 6682) za_int (by decide) (by decide) (by decide) (Nat.le_of_ble_eq_true rfl) (Nat.le_of_ble_eq_true rfl) dI_X9_17 ?_
  refine JI_eq 3 2 13364 (pf G 244 [.inr (9, [.int 0, .ref (gb G + (244 + 1)), .null, .null, .null, .int 0, .int 0, .int 0, .null, .int 0, .int 0, .int 0, .int 0, .int 0, .int 0, .int 0, .int 0, .null, .null, .null, .null, .null, .null, .int 0, .null, .null, .int 0, .int 0, .int 0, .int 0, .int 0, .int 0, .int 0]), .inl (G.2.2.1.1, 6682, .inl (fun _ => 0)), .inl (G.2.2.1.1, 6682, .inl (fun _ => 0))]) rfl rfl rfl (pf_new rfl rfl) ?_
  refine JI_putF F hm (ci := 9) 0 2 rfl inX9 tyX9 tyX9_ok nmX9 (by decide) rfl (by decide) zf_X9_13 rfl rfl rfl (tyX9_ok 2 (by decide)) rfl rfl (Nat.le_of_ble_eq_true rfl) dI_X9_19 ?_
  refine JI_eq 3 2 13364 (pf G 244 [.inr (9, [.int 0, .ref (gb G + (244 + 1)), .ref (gb G + (244 + 2)), .null, .null, .int 0, .int 0, .int 0, .null, .int 0, .int 0, .int 0, .int 0, .int 0, .int 0, .int 0, .int 0, .null, .null, .null, .null, .null, .null, .int 0, .null, .null, .int 0, .int 0, .int 0, .int 0, .int 0, .int 0, .int 0]), .inl (G.2.2.1.1, 6682, .inl (fun _ => 0)), .inl (G.2.2.1.1, 6682, .inl (fun _ => 0))]) rfl rfl rfl (pf_set (Nat.le_of_ble_eq_true rfl) rfl) ?_
  refine JI_aln F 0 dI_X9_22 rfl rfl ?_
  refine JI_si F (v := (nI 6682)) dI_X9_23 (by decide) ?_
  refine JI_newa F (atype := .int) (ty := .int) (cA := G.2.2.1.1) (a0 := (6682, .inl (fun _ => 0))) (N := 6682) 0 rfl rfl (fun h => h) (fun cA => vc_int cA 6682) za_int (by decide) (by decide) (by decide) (Nat.le_of_ble_eq_true rfl) (Nat.le_of_ble_eq_true rfl) dI_X9_26 ?_
  refine JI_eq 4 3 20046 (pf G 244 [.inr (9, [.int 0, .ref (gb G + (244 + 1)), .ref (gb G + (244 + 2)), .null, .null, .int 0, .int 0, .int 0, .null, .int 0, .int 0, .int 0, .int 0, .int 0, .int 0, .int 0, .int 0, .null, .null, .null, .null, .null, .null, .int 0, .null, .null, .int 0, .int 0, .int 0, .int 0, .int 0, .int 0, .int 0]), .inl (G.2.2.1.1, 6682, .inl (fun _ => 0)), .inl (G.2.2.1.1, 6682, .inl (fun _ => 0)), .inl (G.2.2.1.1, 6682, .inl (fun _ => 0))]) rfl rfl rfl (pf_new rfl rfl) ?_
  refine JI_putF F hm (ci := 9) 0 3 rfl inX9 tyX9 tyX9_ok nmX9 (by decide) rfl (by decide) zf_X9_16 rfl rfl rfl (tyX9_ok 3 (by decide)) rfl rfl (Nat.le_of_ble_eq_true rfl) dI_X9_28 ?_
  refine JI_eq 4 3 20046 (pf G 244 [.inr (9, [.int 0, .ref (gb G + (244 + 1)), .ref (gb G + (244 + 2)), .ref (gb G + (244 + 3)), .null, .int 0, .int 0, .int 0, .null, .int 0, .int 0, .int 0, .int 0, .int 0, .int 0, .int 0, .int 0, .null, .null, .null, .null, .null, .null, .int 0, .null, .null, .int 0, .int 0, .int 0, .int 0, .int 0, .int 0, .int 0]), .inl (G.2.2.1.1, 6682, .inl (fun _ => 0)), .inl (G.2.2.1.1, 6682, .inl (fun _ => 0)), .inl (G.2.2.1.1, 6682, .inl (fun _ => 0))]) rfl rfl rfl (pf_set (Nat.le_of_ble_eq_true rfl) rfl) ?_
  refine JI_aln F 0 dI_X9_31 rfl rfl ?_
  refine JI_ldc F (v := nI 53456) dI_X9_32 zl_X9_19 ?_
  refine JI_newa F (atype := .int) (ty := .int) (cA := G.2.2.1.1) (a0 := (53456, .inl (fun _ => 0))) (N := 53456) 0 rfl rfl (fun h => h) (fun cA => vc_int cA 53456) za_int (by decide) (by decide) (by decide) (Nat.le_of_ble_eq_true rfl) (Nat.le_of_ble_eq_true rfl) dI_X9_34 ?_
  refine JI_eq 5 4 73502 (pf G 244 [.inr (9, [.int 0, .ref (gb G + (244 + 1)), .ref (gb G + (244 + 2)), .ref (gb G + (244 + 3)), .null, .int 0, .int 0, .int 0, .null, .int 0, .int 0, .int 0, .int 0, .int 0, .int 0, .int 0, .int 0, .null, .null, .null, .null, .null, .null, .int 0, .null, .null, .int 0, .int 0, .int 0, .int 0, .int 0, .int 0, .int 0]), .inl (G.2.2.1.1, 6682, .inl (fun _ => 0)), .inl (G.2.2.1.1, 6682, .inl (fun _ => 0)), .inl (G.2.2.1.1, 6682, .inl (fun _ => 0)), .inl (G.2.2.1.1, 53456, .inl (fun _ => 0))]) rfl rfl rfl (pf_new rfl rfl) ?_
  refine JI_putF F hm (ci := 9) 0 4 rfl inX9 tyX9 tyX9_ok nmX9 (by decide) rfl (by decide) zf_X9_20 rfl rfl rfl (tyX9_ok 4 (by decide)) rfl rfl (Nat.le_of_ble_eq_true rfl) dI_X9_36 ?_
  refine JI_eq 5 4 73502 (pf G 244 [.inr (9, [.int 0, .ref (gb G + (244 + 1)), .ref (gb G + (244 + 2)), .ref (gb G + (244 + 3)), .ref (gb G + (244 + 4)), .int 0, .int 0, .int 0, .null, .int 0, .int 0, .int 0, .int 0, .int 0, .int 0, .int 0, .int 0, .null, .null, .null, .null, .null, .null, .int 0, .null, .null, .int 0, .int 0, .int 0, .int 0, .int 0, .int 0, .int 0]), .inl (G.2.2.1.1, 6682, .inl (fun _ => 0)), .inl (G.2.2.1.1, 6682, .inl (fun _ => 0)), .inl (G.2.2.1.1, 6682, .inl (fun _ => 0)), .inl (G.2.2.1.1, 53456, .inl (fun _ => 0))]) rfl rfl rfl (pf_set (Nat.le_of_ble_eq_true rfl) rfl) ?_
  refine JI_aln F 0 dI_X9_39 rfl rfl ?_
  refine JI_si F (v := (nI 400)) dI_X9_40 (by decide) ?_
  refine JI_newa F (atype := .int) (ty := .int) (cA := G.2.2.1.1) (a0 := (400, .inl (fun _ => 0))) (N := 400) 0 rfl rfl (fun h => h) (fun cA => vc_int cA 400) za_int (by decide) (by decide) (by decide) (Nat.le_of_ble_eq_true rfl) (Nat.le_of_ble_eq_true rfl) dI_X9_43 ?_
  refine JI_eq 6 5 73902 (pf G 244 [.inr (9, [.int 0, .ref (gb G + (244 + 1)), .ref (gb G + (244 + 2)), .ref (gb G + (244 + 3)), .ref (gb G + (244 + 4)), .int 0, .int 0, .int 0, .null, .int 0, .int 0, .int 0, .int 0, .int 0, .int 0, .int 0, .int 0, .null, .null, .null, .null, .null, .null, .int 0, .null, .null, .int 0, .int 0, .int 0, .int 0, .int 0, .int 0, .int 0]), .inl (G.2.2.1.1, 6682, .inl (fun _ => 0)), .inl (G.2.2.1.1, 6682, .inl (fun _ => 0)), .inl (G.2.2.1.1, 6682, .inl (fun _ => 0)), .inl (G.2.2.1.1, 53456, .inl (fun _ => 0)), .inl (G.2.2.1.1, 400, .inl (fun _ => 0))]) rfl rfl rfl (pf_new rfl rfl) ?_
  refine JI_putF F hm (ci := 9) 0 8 rfl inX9 tyX9 tyX9_ok nmX9 (by decide) rfl (by decide) zf_X9_23 rfl rfl rfl (tyX9_ok 8 (by decide)) rfl rfl (Nat.le_of_ble_eq_true rfl) dI_X9_45 ?_
  refine JI_eq 6 5 73902 (pf G 244 [.inr (9, [.int 0, .ref (gb G + (244 + 1)), .ref (gb G + (244 + 2)), .ref (gb G + (244 + 3)), .ref (gb G + (244 + 4)), .int 0, .int 0, .int 0, .ref (gb G + (244 + 5)), .int 0, .int 0, .int 0, .int 0, .int 0, .int 0, .int 0, .int 0, .null, .null, .null, .null, .null, .null, .int 0, .null, .null, .int 0, .int 0, .int 0, .int 0, .int 0, .int 0, .int 0]), .inl (G.2.2.1.1, 6682, .inl (fun _ => 0)), .inl (G.2.2.1.1, 6682, .inl (fun _ => 0)), .inl (G.2.2.1.1, 6682, .inl (fun _ => 0)), .inl (G.2.2.1.1, 53456, .inl (fun _ => 0)), .inl (G.2.2.1.1, 400, .inl (fun _ => 0))]) rfl rfl rfl (pf_set (Nat.le_of_ble_eq_true rfl) rfl) ?_
  refine JI_aln F 0 dI_X9_48 rfl rfl ?_
  refine JI_ic F (v := (-1)) dI_X9_49 (by decide) ?_
  refine JI_put F (ci := 9) 0 12 rfl inX9 tyX9 tyX9_ok nmX9 (by decide) rfl (by decide) zf_X9_26 rfl rfl (tyX9_ok 12 (by decide)) rfl rfl (Nat.le_of_ble_eq_true rfl) dI_X9_50 ?_
  refine JI_eq 6 5 73902 (pf G 244 [.inr (9, [.int 0, .ref (gb G + (244 + 1)), .ref (gb G + (244 + 2)), .ref (gb G + (244 + 3)), .ref (gb G + (244 + 4)), .int 0, .int 0, .int 0, .ref (gb G + (244 + 5)), .int 0, .int 0, .int 0, .int (-1), .int 0, .int 0, .int 0, .int 0, .null, .null, .null, .null, .null, .null, .int 0, .null, .null, .int 0, .int 0, .int 0, .int 0, .int 0, .int 0, .int 0]), .inl (G.2.2.1.1, 6682, .inl (fun _ => 0)), .inl (G.2.2.1.1, 6682, .inl (fun _ => 0)), .inl (G.2.2.1.1, 6682, .inl (fun _ => 0)), .inl (G.2.2.1.1, 53456, .inl (fun _ => 0)), .inl (G.2.2.1.1, 400, .inl (fun _ => 0))]) rfl rfl rfl (pf_set (Nat.le_of_ble_eq_true rfl) rfl) ?_
  refine JI_aln F 0 dI_X9_53 rfl rfl ?_
  refine JI_si F (v := (nI 2048)) dI_X9_54 (by decide) ?_
  refine JI_newa F (atype := .int) (ty := .int) (cA := G.2.2.1.1) (a0 := (2048, .inl (fun _ => 0))) (N := 2048) 0 rfl rfl (fun h => h) (fun cA => vc_int cA 2048) za_int (by decide) (by decide) (by decide) (Nat.le_of_ble_eq_true rfl) (Nat.le_of_ble_eq_true rfl) dI_X9_57 ?_
  refine JI_eq 7 6 75950 (pf G 244 [.inr (9, [.int 0, .ref (gb G + (244 + 1)), .ref (gb G + (244 + 2)), .ref (gb G + (244 + 3)), .ref (gb G + (244 + 4)), .int 0, .int 0, .int 0, .ref (gb G + (244 + 5)), .int 0, .int 0, .int 0, .int (-1), .int 0, .int 0, .int 0, .int 0, .null, .null, .null, .null, .null, .null, .int 0, .null, .null, .int 0, .int 0, .int 0, .int 0, .int 0, .int 0, .int 0]), .inl (G.2.2.1.1, 6682, .inl (fun _ => 0)), .inl (G.2.2.1.1, 6682, .inl (fun _ => 0)), .inl (G.2.2.1.1, 6682, .inl (fun _ => 0)), .inl (G.2.2.1.1, 53456, .inl (fun _ => 0)), .inl (G.2.2.1.1, 400, .inl (fun _ => 0)), .inl (G.2.2.1.1, 2048, .inl (fun _ => 0))]) rfl rfl rfl (pf_new rfl rfl) ?_
  refine JI_putF F hm (ci := 9) 0 17 rfl inX9 tyX9 tyX9_ok nmX9 (by decide) rfl (by decide) zf_X9_30 rfl rfl rfl (tyX9_ok 17 (by decide)) rfl rfl (Nat.le_of_ble_eq_true rfl) dI_X9_59 ?_
  refine JI_eq 7 6 75950 (pf G 244 [.inr (9, [.int 0, .ref (gb G + (244 + 1)), .ref (gb G + (244 + 2)), .ref (gb G + (244 + 3)), .ref (gb G + (244 + 4)), .int 0, .int 0, .int 0, .ref (gb G + (244 + 5)), .int 0, .int 0, .int 0, .int (-1), .int 0, .int 0, .int 0, .int 0, .ref (gb G + (244 + 6)), .null, .null, .null, .null, .null, .int 0, .null, .null, .int 0, .int 0, .int 0, .int 0, .int 0, .int 0, .int 0]), .inl (G.2.2.1.1, 6682, .inl (fun _ => 0)), .inl (G.2.2.1.1, 6682, .inl (fun _ => 0)), .inl (G.2.2.1.1, 6682, .inl (fun _ => 0)), .inl (G.2.2.1.1, 53456, .inl (fun _ => 0)), .inl (G.2.2.1.1, 400, .inl (fun _ => 0)), .inl (G.2.2.1.1, 2048, .inl (fun _ => 0))]) rfl rfl rfl (pf_set (Nat.le_of_ble_eq_true rfl) rfl) ?_
  refine JI_aln F 0 dI_X9_62 rfl rfl ?_
  refine JI_si F (v := (nI 2048)) dI_X9_63 (by decide) ?_
  refine JI_newa F (atype := .int) (ty := .int) (cA := G.2.2.1.1) (a0 := (2048, .inl (fun _ => 0))) (N := 2048) 0 rfl rfl (fun h => h) (fun cA => vc_int cA 2048) za_int (by decide) (by decide) (by decide) (Nat.le_of_ble_eq_true rfl) (Nat.le_of_ble_eq_true rfl) dI_X9_66 ?_
  refine JI_eq 8 7 77998 (pf G 244 [.inr (9, [.int 0, .ref (gb G + (244 + 1)), .ref (gb G + (244 + 2)), .ref (gb G + (244 + 3)), .ref (gb G + (244 + 4)), .int 0, .int 0, .int 0, .ref (gb G + (244 + 5)), .int 0, .int 0, .int 0, .int (-1), .int 0, .int 0, .int 0, .int 0, .ref (gb G + (244 + 6)), .null, .null, .null, .null, .null, .int 0, .null, .null, .int 0, .int 0, .int 0, .int 0, .int 0, .int 0, .int 0]), .inl (G.2.2.1.1, 6682, .inl (fun _ => 0)), .inl (G.2.2.1.1, 6682, .inl (fun _ => 0)), .inl (G.2.2.1.1, 6682, .inl (fun _ => 0)), .inl (G.2.2.1.1, 53456, .inl (fun _ => 0)), .inl (G.2.2.1.1, 400, .inl (fun _ => 0)), .inl (G.2.2.1.1, 2048, .inl (fun _ => 0)), .inl (G.2.2.1.1, 2048, .inl (fun _ => 0))]) rfl rfl rfl (pf_new rfl rfl) ?_
  refine JI_putF F hm (ci := 9) 0 18 rfl inX9 tyX9 tyX9_ok nmX9 (by decide) rfl (by decide) zf_X9_33 rfl rfl rfl (tyX9_ok 18 (by decide)) rfl rfl (Nat.le_of_ble_eq_true rfl) dI_X9_68 ?_
  refine JI_eq 8 7 77998 (pf G 244 [.inr (9, [.int 0, .ref (gb G + (244 + 1)), .ref (gb G + (244 + 2)), .ref (gb G + (244 + 3)), .ref (gb G + (244 + 4)), .int 0, .int 0, .int 0, .ref (gb G + (244 + 5)), .int 0, .int 0, .int 0, .int (-1), .int 0, .int 0, .int 0, .int 0, .ref (gb G + (244 + 6)), .ref (gb G + (244 + 7)), .null, .null, .null, .null, .int 0, .null, .null, .int 0, .int 0, .int 0, .int 0, .int 0, .int 0, .int 0]), .inl (G.2.2.1.1, 6682, .inl (fun _ => 0)), .inl (G.2.2.1.1, 6682, .inl (fun _ => 0)), .inl (G.2.2.1.1, 6682, .inl (fun _ => 0)), .inl (G.2.2.1.1, 53456, .inl (fun _ => 0)), .inl (G.2.2.1.1, 400, .inl (fun _ => 0)), .inl (G.2.2.1.1, 2048, .inl (fun _ => 0)), .inl (G.2.2.1.1, 2048, .inl (fun _ => 0))]) rfl rfl rfl (pf_set (Nat.le_of_ble_eq_true rfl) rfl) ?_
  refine JI_aln F 0 dI_X9_71 rfl rfl ?_
  refine JI_si F (v := (nI 2048)) dI_X9_72 (by decide) ?_
  refine JI_newa F (atype := .int) (ty := .int) (cA := G.2.2.1.1) (a0 := (2048, .inl (fun _ => 0))) (N := 2048) 0 rfl rfl (fun h => h) (fun cA => vc_int cA 2048) za_int (by decide) (by decide) (by decide) (Nat.le_of_ble_eq_true rfl) (Nat.le_of_ble_eq_true rfl) dI_X9_75 ?_
  refine JI_eq 9 8 80046 (pf G 244 [.inr (9, [.int 0, .ref (gb G + (244 + 1)), .ref (gb G + (244 + 2)), .ref (gb G + (244 + 3)), .ref (gb G + (244 + 4)), .int 0, .int 0, .int 0, .ref (gb G + (244 + 5)), .int 0, .int 0, .int 0, .int (-1), .int 0, .int 0, .int 0, .int 0, .ref (gb G + (244 + 6)), .ref (gb G + (244 + 7)), .null, .null, .null, .null, .int 0, .null, .null, .int 0, .int 0, .int 0, .int 0, .int 0, .int 0, .int 0]), .inl (G.2.2.1.1, 6682, .inl (fun _ => 0)), .inl (G.2.2.1.1, 6682, .inl (fun _ => 0)), .inl (G.2.2.1.1, 6682, .inl (fun _ => 0)), .inl (G.2.2.1.1, 53456, .inl (fun _ => 0)), .inl (G.2.2.1.1, 400, .inl (fun _ => 0)), .inl (G.2.2.1.1, 2048, .inl (fun _ => 0)), .inl (G.2.2.1.1, 2048, .inl (fun _ => 0)), .inl (G.2.2.1.1, 2048, .inl (fun _ => 0))]) rfl rfl rfl (pf_new rfl rfl) ?_
  refine JI_putF F hm (ci := 9) 0 19 rfl inX9 tyX9 tyX9_ok nmX9 (by decide) rfl (by decide) zf_X9_36 rfl rfl rfl (tyX9_ok 19 (by decide)) rfl rfl (Nat.le_of_ble_eq_true rfl) dI_X9_77 ?_
  refine JI_eq 9 8 80046 (pf G 244 [.inr (9, [.int 0, .ref (gb G + (244 + 1)), .ref (gb G + (244 + 2)), .ref (gb G + (244 + 3)), .ref (gb G + (244 + 4)), .int 0, .int 0, .int 0, .ref (gb G + (244 + 5)), .int 0, .int 0, .int 0, .int (-1), .int 0, .int 0, .int 0, .int 0, .ref (gb G + (244 + 6)), .ref (gb G + (244 + 7)), .ref (gb G + (244 + 8)), .null, .null, .null, .int 0, .null, .null, .int 0, .int 0, .int 0, .int 0, .int 0, .int 0, .int 0]), .inl (G.2.2.1.1, 6682, .inl (fun _ => 0)), .inl (G.2.2.1.1, 6682, .inl (fun _ => 0)), .inl (G.2.2.1.1, 6682, .inl (fun _ => 0)), .inl (G.2.2.1.1, 53456, .inl (fun _ => 0)), .inl (G.2.2.1.1, 400, .inl (fun _ => 0)), .inl (G.2.2.1.1, 2048, .inl (fun _ => 0)), .inl (G.2.2.1.1, 2048, .inl (fun _ => 0)), .inl (G.2.2.1.1, 2048, .inl (fun _ => 0))]) rfl rfl rfl (pf_set (Nat.le_of_ble_eq_true rfl) rfl) ?_
  refine JI_aln F 0 dI_X9_80 rfl rfl ?_
  refine JI_si F (v := (nI 2048)) dI_X9_81 (by decide) ?_
  refine JI_newa F (atype := .int) (ty := .int) (cA := G.2.2.1.1) (a0 := (2048, .inl (fun _ => 0))) (N := 2048) 0 rfl rfl (fun h => h) (fun cA => vc_int cA 2048) za_int (by decide) (by decide) (by decide) (Nat.le_of_ble_eq_true rfl) (Nat.le_of_ble_eq_true rfl) dI_X9_84 ?_
  refine JI_eq 10 9 82094 (pf G 244 [.inr (9, [.int 0, .ref (gb G + (244 + 1)), .ref (gb G + (244 + 2)), .ref (gb G + (244 + 3)), .ref (gb G + (244 + 4)), .int 0, .int 0, .int 0, .ref (gb G + (244 + 5)), .int 0, .int 0, .int 0, .int (-1), .int 0, .int 0, .int 0, .int 0, .ref (gb G + (244 + 6)), .ref (gb G + (244 + 7)), .ref (gb G + (244 + 8)), .null, .null, .null, .int 0, .null, .null, .int 0, .int 0, .int 0, .int 0, .int 0, .int 0, .int 0]), .inl (G.2.2.1.1, 6682, .inl (fun _ => 0)), .inl (G.2.2.1.1, 6682, .inl (fun _ => 0)), .inl (G.2.2.1.1, 6682, .inl (fun _ => 0)), .inl (G.2.2.1.1, 53456, .inl (fun _ => 0)), .inl (G.2.2.1.1, 400, .inl (fun _ => 0)), .inl (G.2.2.1.1, 2048, .inl (fun _ => 0)), .inl (G.2.2.1.1, 2048, .inl (fun _ => 0)), .inl (G.2.2.1.1, 2048, .inl (fun _ => 0)), .inl (G.2.2.1.1, 2048, .inl (fun _ => 0))]) rfl rfl rfl (pf_new rfl rfl) ?_
  refine JI_putF F hm (ci := 9) 0 20 rfl inX9 tyX9 tyX9_ok nmX9 (by decide) rfl (by decide) zf_X9_39 rfl rfl rfl (tyX9_ok 20 (by decide)) rfl rfl (Nat.le_of_ble_eq_true rfl) dI_X9_86 ?_
  refine JI_eq 10 9 82094 (pf G 244 [.inr (9, [.int 0, .ref (gb G + (244 + 1)), .ref (gb G + (244 + 2)), .ref (gb G + (244 + 3)), .ref (gb G + (244 + 4)), .int 0, .int 0, .int 0, .ref (gb G + (244 + 5)), .int 0, .int 0, .int 0, .int (-1), .int 0, .int 0, .int 0, .int 0, .ref (gb G + (244 + 6)), .ref (gb G + (244 + 7)), .ref (gb G + (244 + 8)), .ref (gb G + (244 + 9)), .null, .null, .int 0, .null, .null, .int 0, .int 0, .int 0, .int 0, .int 0, .int 0, .int 0]), .inl (G.2.2.1.1, 6682, .inl (fun _ => 0)), .inl (G.2.2.1.1, 6682, .inl (fun _ => 0)), .inl (G.2.2.1.1, 6682, .inl (fun _ => 0)), .inl (G.2.2.1.1, 53456, .inl (fun _ => 0)), .inl (G.2.2.1.1, 400, .inl (fun _ => 0)), .inl (G.2.2.1.1, 2048, .inl (fun _ => 0)), .inl (G.2.2.1.1, 2048, .inl (fun _ => 0)), .inl (G.2.2.1.1, 2048, .inl (fun _ => 0)), .inl (G.2.2.1.1, 2048, .inl (fun _ => 0))]) rfl rfl rfl (pf_set (Nat.le_of_ble_eq_true rfl) rfl) ?_
  refine JI_aln F 0 dI_X9_89 rfl rfl ?_
  refine JI_si F (v := (nI 2048)) dI_X9_90 (by decide) ?_
  refine JI_newa F (atype := .int) (ty := .int) (cA := G.2.2.1.1) (a0 := (2048, .inl (fun _ => 0))) (N := 2048) 0 rfl rfl (fun h => h) (fun cA => vc_int cA 2048) za_int (by decide) (by decide) (by decide) (Nat.le_of_ble_eq_true rfl) (Nat.le_of_ble_eq_true rfl) dI_X9_93 ?_
  refine JI_eq 11 10 84142 (pf G 244 [.inr (9, [.int 0, .ref (gb G + (244 + 1)), .ref (gb G + (244 + 2)), .ref (gb G + (244 + 3)), .ref (gb G + (244 + 4)), .int 0, .int 0, .int 0, .ref (gb G + (244 + 5)), .int 0, .int 0, .int 0, .int (-1), .int 0, .int 0, .int 0, .int 0, .ref (gb G + (244 + 6)), .ref (gb G + (244 + 7)), .ref (gb G + (244 + 8)), .ref (gb G + (244 + 9)), .null, .null, .int 0, .null, .null, .int 0, .int 0, .int 0, .int 0, .int 0, .int 0, .int 0]), .inl (G.2.2.1.1, 6682, .inl (fun _ => 0)), .inl (G.2.2.1.1, 6682, .inl (fun _ => 0)), .inl (G.2.2.1.1, 6682, .inl (fun _ => 0)), .inl (G.2.2.1.1, 53456, .inl (fun _ => 0)), .inl (G.2.2.1.1, 400, .inl (fun _ => 0)), .inl (G.2.2.1.1, 2048, .inl (fun _ => 0)), .inl (G.2.2.1.1, 2048, .inl (fun _ => 0)), .inl (G.2.2.1.1, 2048, .inl (fun _ => 0)), .inl (G.2.2.1.1, 2048, .inl (fun _ => 0)), .inl (G.2.2.1.1, 2048, .inl (fun _ => 0))]) rfl rfl rfl (pf_new rfl rfl) ?_
  refine JI_putF F hm (ci := 9) 0 21 rfl inX9 tyX9 tyX9_ok nmX9 (by decide) rfl (by decide) zf_X9_42 rfl rfl rfl (tyX9_ok 21 (by decide)) rfl rfl (Nat.le_of_ble_eq_true rfl) dI_X9_95 ?_
  refine JI_eq 11 10 84142 (pf G 244 [.inr (9, [.int 0, .ref (gb G + (244 + 1)), .ref (gb G + (244 + 2)), .ref (gb G + (244 + 3)), .ref (gb G + (244 + 4)), .int 0, .int 0, .int 0, .ref (gb G + (244 + 5)), .int 0, .int 0, .int 0, .int (-1), .int 0, .int 0, .int 0, .int 0, .ref (gb G + (244 + 6)), .ref (gb G + (244 + 7)), .ref (gb G + (244 + 8)), .ref (gb G + (244 + 9)), .ref (gb G + (244 + 10)), .null, .int 0, .null, .null, .int 0, .int 0, .int 0, .int 0, .int 0, .int 0, .int 0]), .inl (G.2.2.1.1, 6682, .inl (fun _ => 0)), .inl (G.2.2.1.1, 6682, .inl (fun _ => 0)), .inl (G.2.2.1.1, 6682, .inl (fun _ => 0)), .inl (G.2.2.1.1, 53456, .inl (fun _ => 0)), .inl (G.2.2.1.1, 400, .inl (fun _ => 0)), .inl (G.2.2.1.1, 2048, .inl (fun _ => 0)), .inl (G.2.2.1.1, 2048, .inl (fun _ => 0)), .inl (G.2.2.1.1, 2048, .inl (fun _ => 0)), .inl (G.2.2.1.1, 2048, .inl (fun _ => 0)), .inl (G.2.2.1.1, 2048, .inl (fun _ => 0))]) rfl rfl rfl (pf_set (Nat.le_of_ble_eq_true rfl) rfl) ?_
  refine JI_aln F 0 dI_X9_98 rfl rfl ?_
  refine JI_si F (v := (nI 2048)) dI_X9_99 (by decide) ?_
  refine JI_newa F (atype := .int) (ty := .int) (cA := G.2.2.1.1) (a0 := (2048, .inl (fun _ => 0))) (N := 2048) 0 rfl rfl (fun h => h) (fun cA => vc_int cA 2048) za_int (by decide) (by decide) (by decide) (Nat.le_of_ble_eq_true rfl) (Nat.le_of_ble_eq_true rfl) dI_X9_102 ?_
  refine JI_eq 12 11 86190 (pf G 244 [.inr (9, [.int 0, .ref (gb G + (244 + 1)), .ref (gb G + (244 + 2)), .ref (gb G + (244 + 3)), .ref (gb G + (244 + 4)), .int 0, .int 0, .int 0, .ref (gb G + (244 + 5)), .int 0, .int 0, .int 0, .int (-1), .int 0, .int 0, .int 0, .int 0, .ref (gb G + (244 + 6)), .ref (gb G + (244 + 7)), .ref (gb G + (244 + 8)), .ref (gb G + (244 + 9)), .ref (gb G + (244 + 10)), .null, .int 0, .null, .null, .int 0, .int 0, .int 0, .int 0, .int 0, .int 0, .int 0]), .inl (G.2.2.1.1, 6682, .inl (fun _ => 0)), .inl (G.2.2.1.1, 6682, .inl (fun _ => 0)), .inl (G.2.2.1.1, 6682, .inl (fun _ => 0)), .inl (G.2.2.1.1, 53456, .inl (fun _ => 0)), .inl (G.2.2.1.1, 400, .inl (fun _ => 0)), .inl (G.2.2.1.1, 2048, .inl (fun _ => 0)), .inl (G.2.2.1.1, 2048, .inl (fun _ => 0)), .inl (G.2.2.1.1, 2048, .inl (fun _ => 0)), .inl (G.2.2.1.1, 2048, .inl (fun _ => 0)), .inl (G.2.2.1.1, 2048, .inl (fun _ => 0)), .inl (G.2.2.1.1, 2048, .inl (fun _ => 0))]) rfl rfl rfl (pf_new rfl rfl) ?_
  refine JI_putF F hm (ci := 9) 0 22 rfl inX9 tyX9 tyX9_ok nmX9 (by decide) rfl (by decide) zf_X9_45 rfl rfl rfl (tyX9_ok 22 (by decide)) rfl rfl (Nat.le_of_ble_eq_true rfl) dI_X9_104 ?_
  refine JI_eq 12 11 86190 (pf G 244 [.inr (9, [.int 0, .ref (gb G + (244 + 1)), .ref (gb G + (244 + 2)), .ref (gb G + (244 + 3)), .ref (gb G + (244 + 4)), .int 0, .int 0, .int 0, .ref (gb G + (244 + 5)), .int 0, .int 0, .int 0, .int (-1), .int 0, .int 0, .int 0, .int 0, .ref (gb G + (244 + 6)), .ref (gb G + (244 + 7)), .ref (gb G + (244 + 8)), .ref (gb G + (244 + 9)), .ref (gb G + (244 + 10)), .ref (gb G + (244 + 11)), .int 0, .null, .null, .int 0, .int 0, .int 0, .int 0, .int 0, .int 0, .int 0]), .inl (G.2.2.1.1, 6682, .inl (fun _ => 0)), .inl (G.2.2.1.1, 6682, .inl (fun _ => 0)), .inl (G.2.2.1.1, 6682, .inl (fun _ => 0)), .inl (G.2.2.1.1, 53456, .inl (fun _ => 0)), .inl (G.2.2.1.1, 400, .inl (fun _ => 0)), .inl (G.2.2.1.1, 2048, .inl (fun _ => 0)), .inl (G.2.2.1.1, 2048, .inl (fun _ => 0)), .inl (G.2.2.1.1, 2048, .inl (fun _ => 0)), .inl (G.2.2.1.1, 2048, .inl (fun _ => 0)), .inl (G.2.2.1.1, 2048, .inl (fun _ => 0)), .inl (G.2.2.1.1, 2048, .inl (fun _ => 0))]) rfl rfl rfl (pf_set (Nat.le_of_ble_eq_true rfl) rfl) ?_
  refine JI_aln F 0 dI_X9_107 rfl rfl ?_
  refine JI_si F (v := (nI 2048)) dI_X9_108 (by decide) ?_
  refine JI_newa F (atype := .int) (ty := .int) (cA := G.2.2.1.1) (a0 := (2048, .inl (fun _ => 0))) (N := 2048) 0 rfl rfl (fun h => h) (fun cA => vc_int cA 2048) za_int (by decide) (by decide) (by decide) (Nat.le_of_ble_eq_true rfl) (Nat.le_of_ble_eq_true rfl) dI_X9_111 ?_
  refine JI_eq 13 12 88238 (pf G 244 [.inr (9, [.int 0, .ref (gb G + (244 + 1)), .ref (gb G + (244 + 2)), .ref (gb G + (244 + 3)), .ref (gb G + (244 + 4)), .int 0, .int 0, .int 0, .ref (gb G + (244 + 5)), .int 0, .int 0, .int 0, .int (-1), .int 0, .int 0, .int 0, .int 0, .ref (gb G + (244 + 6)), .ref (gb G + (244 + 7)), .ref (gb G + (244 + 8)), .ref (gb G + (244 + 9)), .ref (gb G + (244 + 10)), .ref (gb G + (244 + 11)), .int 0, .null, .null, .int 0, .int 0, .int 0, .int 0, .int 0, .int 0, .int 0]), .inl (G.2.2.1.1, 6682, .inl (fun _ => 0)), .inl (G.2.2.1.1, 6682, .inl (fun _ => 0)), .inl (G.2.2.1.1, 6682, .inl (fun _ => 0)), .inl (G.2.2.1.1, 53456, .inl (fun _ => 0)), .inl (G.2.2.1.1, 400, .inl (fun _ => 0)), .inl (G.2.2.1.1, 2048, .inl (fun _ => 0)), .inl (G.2.2.1.1, 2048, .inl (fun _ => 0)), .inl (G.2.2.1.1, 2048, .inl (fun _ => 0)), .inl (G.2.2.1.1, 2048, .inl (fun _ => 0)), .inl (G.2.2.1.1, 2048, .inl (fun _ => 0)), .inl (G.2.2.1.1, 2048, .inl (fun _ => 0)), .inl (G.2.2.1.1, 2048, .inl (fun _ => 0))]) rfl rfl rfl (pf_new rfl rfl) ?_
  refine JI_putF F hm (ci := 9) 0 24 rfl inX9 tyX9 tyX9_ok nmX9 (by decide) rfl (by decide) zf_X9_48 rfl rfl rfl (tyX9_ok 24 (by decide)) rfl rfl (Nat.le_of_ble_eq_true rfl) dI_X9_113 ?_
  refine JI_eq 13 12 88238 (pf G 244 [.inr (9, [.int 0, .ref (gb G + (244 + 1)), .ref (gb G + (244 + 2)), .ref (gb G + (244 + 3)), .ref (gb G + (244 + 4)), .int 0, .int 0, .int 0, .ref (gb G + (244 + 5)), .int 0, .int 0, .int 0, .int (-1), .int 0, .int 0, .int 0, .int 0, .ref (gb G + (244 + 6)), .ref (gb G + (244 + 7)), .ref (gb G + (244 + 8)), .ref (gb G + (244 + 9)), .ref (gb G + (244 + 10)), .ref (gb G + (244 + 11)), .int 0, .ref (gb G + (244 + 12)), .null, .int 0, .int 0, .int 0, .int 0, .int 0, .int 0, .int 0]), .inl (G.2.2.1.1, 6682, .inl (fun _ => 0)), .inl (G.2.2.1.1, 6682, .inl (fun _ => 0)), .inl (G.2.2.1.1, 6682, .inl (fun _ => 0)), .inl (G.2.2.1.1, 53456, .inl (fun _ => 0)), .inl (G.2.2.1.1, 400, .inl (fun _ => 0)), .inl (G.2.2.1.1, 2048, .inl (fun _ => 0)), .inl (G.2.2.1.1, 2048, .inl (fun _ => 0)), .inl (G.2.2.1.1, 2048, .inl (fun _ => 0)), .inl (G.2.2.1.1, 2048, .inl (fun _ => 0)), .inl (G.2.2.1.1, 2048, .inl (fun _ => 0)), .inl (G.2.2.1.1, 2048, .inl (fun _ => 0)), .inl (G.2.2.1.1, 2048, .inl (fun _ => 0))]) rfl rfl rfl (pf_set (Nat.le_of_ble_eq_true rfl) rfl) ?_
  refine JI_aln F 0 dI_X9_116 rfl rfl ?_
  refine JI_bi F (v := (nI 40)) dI_X9_117 (by decide) ?_
  refine JI_newa F (atype := .int) (ty := .int) (cA := G.2.2.1.1) (a0 := (40, .inl (fun _ => 0))) (N := 40) 0 rfl rfl (fun h => h) (fun cA => vc_int cA 40) za_int (by decide) (by decide) (by decide) (Nat.le_of_ble_eq_true rfl) (Nat.le_of_ble_eq_true rfl) dI_X9_119 ?_
  refine JI_eq 14 13 88278 (pf G 244 [.inr (9, [.int 0, .ref (gb G + (244 + 1)), .ref (gb G + (244 + 2)), .ref (gb G + (244 + 3)), .ref (gb G + (244 + 4)), .int 0, .int 0, .int 0, .ref (gb G + (244 + 5)), .int 0, .int 0, .int 0, .int (-1), .int 0, .int 0, .int 0, .int 0, .ref (gb G + (244 + 6)), .ref (gb G + (244 + 7)), .ref (gb G + (244 + 8)), .ref (gb G + (244 + 9)), .ref (gb G + (244 + 10)), .ref (gb G + (244 + 11)), .int 0, .ref (gb G + (244 + 12)), .null, .int 0, .int 0, .int 0, .int 0, .int 0, .int 0, .int 0]), .inl (G.2.2.1.1, 6682, .inl (fun _ => 0)), .inl (G.2.2.1.1, 6682, .inl (fun _ => 0)), .inl (G.2.2.1.1, 6682, .inl (fun _ => 0)), .inl (G.2.2.1.1, 53456, .inl (fun _ => 0)), .inl (G.2.2.1.1, 400, .inl (fun _ => 0)), .inl (G.2.2.1.1, 2048, .inl (fun _ => 0)), .inl (G.2.2.1.1, 2048, .inl (fun _ => 0)), .inl (G.2.2.1.1, 2048, .inl (fun _ => 0)), .inl (G.2.2.1.1, 2048, .inl (fun _ => 0)), .inl (G.2.2.1.1, 2048, .inl (fun _ => 0)), .inl (G.2.2.1.1, 2048, .inl (fun _ => 0)), .inl (G.2.2.1.1, 2048, .inl (fun _ => 0)), .inl (G.2.2.1.1, 40, .inl (fun _ => 0))]) rfl rfl rfl (pf_new rfl rfl) ?_
  refine JI_putF F hm (ci := 9) 0 25 rfl inX9 tyX9 tyX9_ok nmX9 (by decide) rfl (by decide) zf_X9_51 rfl rfl rfl (tyX9_ok 25 (by decide)) rfl rfl (Nat.le_of_ble_eq_true rfl) dI_X9_121 ?_
  refine JI_eq 14 13 88278 (pf G 244 [.inr (9, [.int 0, .ref (gb G + (244 + 1)), .ref (gb G + (244 + 2)), .ref (gb G + (244 + 3)), .ref (gb G + (244 + 4)), .int 0, .int 0, .int 0, .ref (gb G + (244 + 5)), .int 0, .int 0, .int 0, .int (-1), .int 0, .int 0, .int 0, .int 0, .ref (gb G + (244 + 6)), .ref (gb G + (244 + 7)), .ref (gb G + (244 + 8)), .ref (gb G + (244 + 9)), .ref (gb G + (244 + 10)), .ref (gb G + (244 + 11)), .int 0, .ref (gb G + (244 + 12)), .ref (gb G + (244 + 13)), .int 0, .int 0, .int 0, .int 0, .int 0, .int 0, .int 0]), .inl (G.2.2.1.1, 6682, .inl (fun _ => 0)), .inl (G.2.2.1.1, 6682, .inl (fun _ => 0)), .inl (G.2.2.1.1, 6682, .inl (fun _ => 0)), .inl (G.2.2.1.1, 53456, .inl (fun _ => 0)), .inl (G.2.2.1.1, 400, .inl (fun _ => 0)), .inl (G.2.2.1.1, 2048, .inl (fun _ => 0)), .inl (G.2.2.1.1, 2048, .inl (fun _ => 0)), .inl (G.2.2.1.1, 2048, .inl (fun _ => 0)), .inl (G.2.2.1.1, 2048, .inl (fun _ => 0)), .inl (G.2.2.1.1, 2048, .inl (fun _ => 0)), .inl (G.2.2.1.1, 2048, .inl (fun _ => 0)), .inl (G.2.2.1.1, 2048, .inl (fun _ => 0)), .inl (G.2.2.1.1, 40, .inl (fun _ => 0))]) rfl rfl rfl (pf_set (Nat.le_of_ble_eq_true rfl) rfl) ?_
  refine JI_aln F 0 dI_X9_124 rfl rfl ?_
  refine JI_get F (ci := 9) (v := .ref (gb G + (244 + 1))) (fs := [.int 0, .ref (gb G + (244 + 1)), .ref (gb G + (244 + 2)), .ref (gb G + (244 + 3)), .ref (gb G + (244 + 4)), .int 0, .int 0, .int 0, .ref (gb G + (244 + 5)), .int 0, .int 0, .int 0, .int (-1), .int 0, .int 0, .int 0, .int 0, .ref (gb G + (244 + 6)), .ref (gb G + (244 + 7)), .ref (gb G + (244 + 8)), .ref (gb G + (244 + 9)), .ref (gb G + (244 + 10)), .ref (gb G + (244 + 11)), .int 0, .ref (gb G + (244 + 12)), .ref (gb G + (244 + 13)), .int 0, .int 0, .int 0, .int 0, .int 0, .int 0, .int 0]) 0 1 rfl inX9 (by decide) rfl (by decide) zf_X9_7 rfl rfl dI_X9_125 ?_
  refine JI_bi F (v := (nI 37)) dI_X9_128 (by decide) ?_
  refine JI_ic F (v := (nI 1)) dI_X9_130 (by decide) ?_
  refine JI_iast F 1 (by decide) rfl (n_in (by decide) (by decide)) dI_X9_131 ?_
  refine JI_eq 14 13 88278 (pf G 244 [.inr (9, [.int 0, .ref (gb G + (244 + 1)), .ref (gb G + (244 + 2)), .ref (gb G + (244 + 3)), .ref (gb G + (244 + 4)), .int 0, .int 0, .int 0, .ref (gb G + (244 + 5)), .int 0, .int 0, .int 0, .int (-1), .int 0, .int 0, .int 0, .int 0, .ref (gb G + (244 + 6)), .ref (gb G + (244 + 7)), .ref (gb G + (244 + 8)), .ref (gb G + (244 + 9)), .ref (gb G + (244 + 10)), .ref (gb G + (244 + 11)), .int 0, .ref (gb G + (244 + 12)), .ref (gb G + (244 + 13)), .int 0, .int 0, .int 0, .int 0, .int 0, .int 0, .int 0]), .inl (G.2.2.1.1, 6682, .inl (upd (fun _ => 0) (nI 37).toNatClampNeg (nI 1))), .inl (G.2.2.1.1, 6682, .inl (fun _ => 0)), .inl (G.2.2.1.1, 6682, .inl (fun _ => 0)), .inl (G.2.2.1.1, 53456, .inl (fun _ => 0)), .inl (G.2.2.1.1, 400, .inl (fun _ => 0)), .inl (G.2.2.1.1, 2048, .inl (fun _ => 0)), .inl (G.2.2.1.1, 2048, .inl (fun _ => 0)), .inl (G.2.2.1.1, 2048, .inl (fun _ => 0)), .inl (G.2.2.1.1, 2048, .inl (fun _ => 0)), .inl (G.2.2.1.1, 2048, .inl (fun _ => 0)), .inl (G.2.2.1.1, 2048, .inl (fun _ => 0)), .inl (G.2.2.1.1, 2048, .inl (fun _ => 0)), .inl (G.2.2.1.1, 40, .inl (fun _ => 0))]) rfl rfl rfl (pf_set (Nat.le_of_ble_eq_true rfl) rfl) ?_
  exact JI_ret F (Nat.le_refl _) (Nat.le_refl _) rfl (hfin_X9 G) dI_X9_132
