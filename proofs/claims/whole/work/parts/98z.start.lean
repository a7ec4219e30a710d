/-! THE WALK FROM THE ENTRY -/
def wa_0 : List Cond := [Cond.classLink RL 8 RX8, Cond.classLink RL 93 RX9, Cond.methodLink RL 92 yX8_init, Cond.methodLink RL 95 yX9_init, Cond.arrayClass .long]
theorem wb_0 : ∀ w ∈ wa_0, w ∈ TBL := tb_ch _ [151, 1215, 153, 1217, 1875] (by decide +kernel) (by decide +kernel)
theorem wc8 : Cond.classLink RL 8 RX8 ∈ TBL := wb_0 _ (List.mem_of_getElem? (i := 0) rfl)
theorem wc93 : Cond.classLink RL 93 RX9 ∈ TBL := wb_0 _ (List.mem_of_getElem? (i := 1) rfl)
theorem wm92 : Cond.methodLink RL 92 yX8_init ∈ TBL := wb_0 _ (List.mem_of_getElem? (i := 2) rfl)
theorem wm95 : Cond.methodLink RL 95 yX9_init ∈ TBL := wb_0 _ (List.mem_of_getElem? (i := 3) rfl)
theorem wlong : Cond.arrayClass .long ∈ TBL := wb_0 _ (List.mem_of_getElem? (i := 4) rfl)
theorem vc_long (cA : ClassId) (n : Nat) : vp_cell cA (n, .inr (.inl (fun _ => 0))) = arrV cA n (fun _ => defaultValue .long) := rfl
theorem arr_congrL {cA : ClassId} {N : Nat} {f g : Nat → Int64} (h : ∀ j, j < N → f j = g j) : vp_cell cA (N, .inr (.inl f)) = vp_cell cA (N, .inr (.inl g)) := by
  rw [vp_cell_l, vp_cell_l]
  unfold arrV
  congr 1
  apply congrArg
  funext j
  dsimp only
  rw [h j.val j.isLt]
theorem fin_l {G : Gp} {a k N : Nat} {f : Nat → Int64} {H : Heap} (hl : lay k = (14, N)) (hf : ∀ j, j < N → f j = (st0 k j).toInt64) (h : va_at (gD G) vwCl (a, .inl (G.2.2.1.2.2.2.2, N, .inr (.inl f))) H) : va_at (gD G) vwCl (a, ent G k (st0 k)) H := by
  rw [ent_l hl]
  show H[a]? = some (vp_cell _ _)
  rw [← arr_congrL hf]
  exact h
theorem JI_to_J {p : Program} {l : Launch} {e : Env} {R : Room} {s : State} {m : MethodId} {args : Array Value} {below : List Frame} {meth : Method} {c : Code} {nL : Nat} {G : Gp} {Qm : State → Prop} {kc ks pc : Nat} {L : List (Nat × Value)} {st : List Value} {E : Nat → va_E} (h : ∀ j, j < 259 → ∀ H : Heap, va_at (gD G) vwCl (gb G + (0 + j), E j) H → va_at (gD G) vwCl (gb G + (0 + j), ent G (0 + j) (st0 (0 + j))) H) (k : J p l e R s m args below meth c nL G Qm kc ks pc L st st0) : JI p l e R s m args below meth c nL G 0 Qm kc ks pc L st 259 E :=
  fun ls H locs hl hP hZ hS => k ls H locs hl (fun j q hq => by
    obtain ⟨hj, e⟩ := ws_some hq
    rw [e]
    have h1 := h j hj H (hP.to_I hj)
    rw [Nat.zero_add] at h1
    exact h1) hS
set_option maxRecDepth 20000 in
set_option maxHeartbeats 4000000 in
/-- YOUR PART: from the entry, for every script of at most 3072 ints, the law comes to its end with true ('hflags': the launch's flags, for a law that throws: no stack traces) -/
theorem whole_start {p : Program} {e : Env} {s : State} {m : MethodId} {below : List Frame} {meth : Method} {c : Code} (l : Launch) (hflags : l.flags = flags0) {b L : Nat} {xs : Nat → Int32} (hL : L ≤ 3072) (C0 : lw_At p s m meth c b L xs) : W p l e room_1 s m #[Value.ref b] below meth c s.heap [] 0 0 (lw_Z below #[Value.ref b] s) (entryFrame m ([Value.ref b] : List Value).toArray 7) := by
  have hl : l.stackTraces = false := by
    unfold Launch.stackTraces
    rw [hflags]
    decide +kernel
  obtain ⟨hx, hcode, hret, hml, hown, hts, hX, hbl, hlk, hgv⟩ := C0
  obtain ⟨G, hgb, hK, hSx, hNx⟩ := base_ex hts hgv
  have F : FX p s m #[Value.ref b] meth c code 7 ret RL G := ⟨hx, hcode, hret, hlk, hml, hown, base_T hts, hK, hSx⟩
  have A : LA p s m meth c G b L xs := ⟨F, hX, by rw [hgb]; exact hbl, hgb⟩
  have hv := lv_entry ([Value.ref b]) (n := 7) (Nat.le_of_ble_eq_true rfl)
  rw [lg_entry_eq]
  generalize (lg_sl ([Value.ref b]) ++ List.replicate (7 - (lg_sl ([Value.ref b])).length) Slot.unset).toArray = ls at hv ⊢
  have hv : lv_has ls 7 [(0, .ref b)] := hv
  have key : JI p l e room_1 s m #[Value.ref b] below meth c 7 G 0 (lw_Z below #[Value.ref b] s) 0 0 0 [(0, .ref b)] [] 0 (pf G 0 []) := by
    refine JI_new F (ci := 8) rfl inX8 tyX8 tyX8_ok wc8 zj_X8 zy_X8 zd_X8 (by decide) (by decide) dW_0 ?_
    refine JI_eq 1 1 12 _ rfl rfl rfl rfl ?_
    refine JI_dup F dW_3 rfl ?_
    refine JI_ctor F hNx (As := []) (st := [.ref (gb G + (0 + 0))]) 0 (C_init_X8 l G) rfl (by unfold vu; rw [if_pos rfl]) wm92 zn_X8 zy_X8 zk_X8 rfl zh_X8 (by decide) (Nat.le_of_ble_eq_true rfl) (by decide) rfl dW_4 ?_
    refine JI_eq 244 244 71599 (pf G 0 []) rfl rfl rfl (pf_ctor (Nat.le_of_ble_eq_true rfl)) ?_
    refine JI_asn F (L' := [(1, .ref (gb G + 0)), (0, .ref b)]) dW_7 rfl (by decide) rfl ?_
    refine JI_new F (ci := 9) rfl inX9 tyX9 tyX9_ok wc93 zj_X9 zy_X9 zd_X9 (by decide) (by decide) dW_8 ?_
    refine JI_eq 245 245 71632 _ rfl rfl rfl rfl ?_
    refine JI_dup F dW_11 rfl ?_
    refine JI_ctor F hNx (As := []) (st := [.ref (gb G + (0 + 244))]) 244 (C_init_X9 l G) rfl (by unfold vu; rw [if_pos rfl]) wm95 zn_X9 zy_X9 zk_X9 rfl zh_X9 (by decide) (Nat.le_of_ble_eq_true rfl) (by decide) rfl dW_12 ?_
    refine JI_eq 258 258 159910 (pf G 0 []) rfl rfl rfl (pf_ctor (Nat.le_of_ble_eq_true rfl)) ?_
    refine JI_asn F (L' := [(2, .ref (gb G + 244)), (1, .ref (gb G + 0)), (0, .ref b)]) dW_15 rfl (by decide) rfl ?_
    refine JI_ic F (v := nI 1) dW_16 (by decide) ?_
    refine JI_newa F (atype := .long) (ty := .long) (cA := G.2.2.1.2.2.2.2) (a0 := (1, .inr (.inl (fun _ => 0)))) (N := 1) 4 rfl rfl (fun h => h) (fun cA => vc_long cA 1) wlong (by decide) (by decide) (by decide) (by decide) (by decide) dW_17 ?_
    refine JI_eq 259 259 159911 _ rfl rfl rfl rfl ?_
    refine JI_asn F (L' := [(3, .ref (gb G + 258)), (2, .ref (gb G + 244)), (1, .ref (gb G + 0)), (0, .ref b)]) dW_19 rfl (by decide) rfl ?_
    refine JI_to_J (fun j hj H h => ?_) ?_
    · unfold vu at h
      by_cases c : j = 258
      · rw [if_pos c] at h
        subst c
        exact fin_l (k := 258) (N := 1) ly_258 (fun j _ => by rw [st0_z ly_258 (by decide) (by decide) (by decide) (by decide) (by decide) (by decide) j]; rfl) h
      · rw [if_neg c, pf_out (Nat.zero_le _)] at h
        exact h
    · refine J_ic F dW_20 ki_0 ?_
      refine J_is F (L' := Lw G b (nI 0)) dW_21 (by decide) rfl ?_
      exact L_loop hl A hL 512 0 st0 s00 rfl st0_CR st0_RR s00_ok
  exact key ls s.heap [] hv (va_P.of_I fun j hj => absurd hj (Nat.not_lt_zero _)) hgb.symm va_S.rf
