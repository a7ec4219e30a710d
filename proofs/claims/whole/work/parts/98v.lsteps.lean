/-! THE LAW'S CASES, walked (written by gen_law.py) -/
set_option maxRecDepth 20000 in
set_option maxHeartbeats 4000000 in
theorem S_feed {p : Program} {l : Launch} {e : Env} {s : State} {m : MethodId} {below : List Frame} {meth : Method} {c : Code} {G : Gp} {b Ln : Nat} {xs : Nat → Int32} {Qm : State → Prop} {x4 : Int32} (hl : l.stackTraces = false) (A : LA p s m meth c G b Ln xs) (hin : ∀ c, c < 6 → vp_in (x4 + nI c) Ln) : LStep p l e s m below meth c G b Qm x4 180 := by
  intro kc ks σ u hkc hks hC hR hs K
  obtain ⟨F, hX, hb, hg⟩ := A
  refine J_aln F 3 dW_180 rfl rfl ?_
  refine J_aln F 4 dW_181 rfl rfl ?_
  refine J_il F 0 dW_182 rfl ?_
  refine J_ic F dW_184 ki_1 ?_
  refine J_iadd F dW_185 ?_
  refine J_sld F hX hb hg (hin 1 (by decide)) dW_186 ?_
  refine J_aln F 4 dW_187 rfl rfl ?_
  refine J_il F 0 dW_188 rfl ?_
  refine J_ic F dW_190 ki_2 ?_
  refine J_iadd F dW_191 ?_
  refine J_sld F hX hb hg (hin 2 (by decide)) dW_192 ?_
  refine J_aln F 4 dW_193 rfl rfl ?_
  refine J_il F 0 dW_194 rfl ?_
  refine J_ic F dW_196 ki_3 ?_
  refine J_iadd F dW_197 ?_
  refine J_sld F hX hb hg (hin 3 (by decide)) dW_198 ?_
  refine J_aln F 4 dW_199 rfl rfl ?_
  refine J_il F 0 dW_200 rfl ?_
  refine J_ic F dW_202 ki_4 ?_
  refine J_iadd F dW_203 ?_
  refine J_sld F hX hb hg (hin 4 (by decide)) dW_204 ?_
  refine J_aln F 4 dW_205 rfl rfl ?_
  refine J_il F 0 dW_206 rfl ?_
  refine J_ic F dW_208 ki_5 ?_
  refine J_iadd F dW_209 ?_
  refine J_sld F hX hb hg (hin 5 (by decide)) dW_210 ?_
  refine J_callVi F (As := [.int (sc xs x4 1), .int (sc xs x4 2), .int (sc xs x4 3), .int (sc xs x4 4), .int (sc xs x4 5)]) (st := []) (C_X8_feed l G (sc xs x4 1) (sc xs x4 2) (sc xs x4 3) (sc xs x4 4) (sc xs x4 5) (Q := fun r τ => r = (rFeed u (sc xs x4 1) (sc xs x4 2) (sc xs x4 3) (sc xs x4 4) (sc xs x4 5)).2.1 ∧ Cf σ τ ∧ CR τ (rFeed u (sc xs x4 1) (sc xs x4 2) (sc xs x4 3) (sc xs x4 4) (sc xs x4 5)).2.2) (s_X8_feed hC hs (fun τ a b => ⟨rfl, a, b⟩))) ly_0 (by decide) rfl rfl wm_96 wn_X8_feed ws_X8_feed wi_X8 wk_X8_feed wh_X8_feed (by decide) (Nat.le_of_ble_eq_true rfl) ⟨by show kc ≤ 601024; omega, by show ks ≤ 7293034; omega⟩ rfl dW_211 (fun r τ hz => ?_)
  obtain ⟨e1, hc, hC1⟩ := hz
  have hR1 : RR τ u := hR.cf hc
  refine J_aln F 2 dW_214 rfl rfl ?_
  refine J_aln F 4 dW_215 rfl rfl ?_
  refine J_il F 0 dW_216 rfl ?_
  refine J_ic F dW_218 ki_1 ?_
  refine J_iadd F dW_219 ?_
  refine J_sld F hX hb hg (hin 1 (by decide)) dW_220 ?_
  refine J_aln F 4 dW_221 rfl rfl ?_
  refine J_il F 0 dW_222 rfl ?_
  refine J_ic F dW_224 ki_2 ?_
  refine J_iadd F dW_225 ?_
  refine J_sld F hX hb hg (hin 2 (by decide)) dW_226 ?_
  refine J_aln F 4 dW_227 rfl rfl ?_
  refine J_il F 0 dW_228 rfl ?_
  refine J_ic F dW_230 ki_3 ?_
  refine J_iadd F dW_231 ?_
  refine J_sld F hX hb hg (hin 3 (by decide)) dW_232 ?_
  refine J_aln F 4 dW_233 rfl rfl ?_
  refine J_il F 0 dW_234 rfl ?_
  refine J_ic F dW_236 ki_4 ?_
  refine J_iadd F dW_237 ?_
  refine J_sld F hX hb hg (hin 4 (by decide)) dW_238 ?_
  refine J_aln F 4 dW_239 rfl rfl ?_
  refine J_il F 0 dW_240 rfl ?_
  refine J_ic F dW_242 ki_5 ?_
  refine J_iadd F dW_243 ?_
  refine J_sld F hX hb hg (hin 5 (by decide)) dW_244 ?_
  refine J_callVi F (As := [.int (sc xs x4 1), .int (sc xs x4 2), .int (sc xs x4 3), .int (sc xs x4 4), .int (sc xs x4 5)]) (st := [.int r]) (C_X9_feed l G (sc xs x4 1) (sc xs x4 2) (sc xs x4 3) (sc xs x4 4) (sc xs x4 5) (Q := fun v ρ => v = (rFeed u (sc xs x4 1) (sc xs x4 2) (sc xs x4 3) (sc xs x4 4) (sc xs x4 5)).2.1 ∧ Rf τ ρ ∧ RR ρ (rFeed u (sc xs x4 1) (sc xs x4 2) (sc xs x4 3) (sc xs x4 4) (sc xs x4 5)).2.2) (s_X9_feed hR1 hs (fun ρ a b => ⟨rfl, a, b⟩))) ly_244 (by decide) rfl rfl wm_99 wn_X9_feed ws_X9_feed wi_X9 wk_X9_feed wh_X9_feed (by decide) (Nat.le_of_ble_eq_true rfl) ⟨by show kc ≤ 601024; omega, by show ks ≤ 7293034; omega⟩ rfl dW_245 (fun v ρ hz => ?_)
  obtain ⟨e2, hf, hR2⟩ := hz
  have hC2 := hC1.rf (hs.feed (sc xs x4 1) (sc xs x4 2) (sc xs x4 3) (sc xs x4 4) (sc xs x4 5)) hf
  refine J_ceq F (tgt := 1966) dW_248 (by decide) (fun _ => ?_) (fun h => absurd (e1.trans e2.symm) h)
  exact J_widen (k := kc + 4) (n := ks + 24) (by omega) (by omega) (K ρ _ hC2 hR2 (hs.feed _ _ _ _ _))
set_option maxRecDepth 20000 in
set_option maxHeartbeats 4000000 in
theorem S_end {p : Program} {l : Launch} {e : Env} {s : State} {m : MethodId} {below : List Frame} {meth : Method} {c : Code} {G : Gp} {b Ln : Nat} {xs : Nat → Int32} {Qm : State → Prop} {x4 : Int32} (hl : l.stackTraces = false) (A : LA p s m meth c G b Ln xs) (hin : ∀ c, c < 6 → vp_in (x4 + nI c) Ln) : LStep p l e s m below meth c G b Qm x4 253 := by
  intro kc ks σ u hkc hks hC hR hs K
  obtain ⟨F, hX, hb, hg⟩ := A
  refine J_aln F 3 dW_253 rfl rfl ?_
  refine J_aln F 4 dW_254 rfl rfl ?_
  refine J_il F 0 dW_255 rfl ?_
  refine J_ic F dW_257 ki_1 ?_
  refine J_iadd F dW_258 ?_
  refine J_sld F hX hb hg (hin 1 (by decide)) dW_259 ?_
  refine J_callVi F (As := [.int (sc xs x4 1)]) (st := []) (C_X8_end l G (sc xs x4 1) (Q := fun r τ => r = (rEnd u (sc xs x4 1)).2.1 ∧ Cf σ τ ∧ CR τ (rEnd u (sc xs x4 1)).2.2) (s_X8_end hC hs (fun τ a b => ⟨rfl, a, b⟩))) ly_0 (by decide) rfl rfl wm_100 wn_X8_end ws_X8_end wi_X8 wk_X8_end wh_X8_end (by decide) (Nat.le_of_ble_eq_true rfl) ⟨by show kc ≤ 601024; omega, by show ks ≤ 7293034; omega⟩ rfl dW_260 (fun r τ hz => ?_)
  obtain ⟨e1, hc, hC1⟩ := hz
  have hR1 : RR τ u := hR.cf hc
  refine J_aln F 2 dW_263 rfl rfl ?_
  refine J_aln F 4 dW_264 rfl rfl ?_
  refine J_il F 0 dW_265 rfl ?_
  refine J_ic F dW_267 ki_1 ?_
  refine J_iadd F dW_268 ?_
  refine J_sld F hX hb hg (hin 1 (by decide)) dW_269 ?_
  refine J_callVi F (As := [.int (sc xs x4 1)]) (st := [.int r]) (C_X9_end l G (sc xs x4 1) (Q := fun v ρ => v = (rEnd u (sc xs x4 1)).2.1 ∧ Rf τ ρ ∧ RR ρ (rEnd u (sc xs x4 1)).2.2) (s_X9_end hR1 hs (fun ρ a b => ⟨rfl, a, b⟩))) ly_244 (by decide) rfl rfl wm_104 wn_X9_end ws_X9_end wi_X9 wk_X9_end wh_X9_end (by decide) (Nat.le_of_ble_eq_true rfl) ⟨by show kc ≤ 601024; omega, by show ks ≤ 7293034; omega⟩ rfl dW_270 (fun v ρ hz => ?_)
  obtain ⟨e2, hf, hR2⟩ := hz
  have hC2 := hC1.rf (hs.end (sc xs x4 1)) hf
  refine J_ceq F (tgt := 1966) dW_273 (by decide) (fun _ => ?_) (fun h => absurd (e1.trans e2.symm) h)
  exact J_widen (k := kc + 4) (n := ks + 24) (by omega) (by omega) (K ρ _ hC2 hR2 (hs.end _))
set_option maxRecDepth 20000 in
set_option maxHeartbeats 4000000 in
theorem S_acts {p : Program} {l : Launch} {e : Env} {s : State} {m : MethodId} {below : List Frame} {meth : Method} {c : Code} {G : Gp} {b Ln : Nat} {xs : Nat → Int32} {Qm : State → Prop} {x4 : Int32} (hl : l.stackTraces = false) (A : LA p s m meth c G b Ln xs) (hin : ∀ c, c < 6 → vp_in (x4 + nI c) Ln) : LStep p l e s m below meth c G b Qm x4 278 := by
  intro kc ks σ u hkc hks hC hR hs K
  obtain ⟨F, hX, hb, hg⟩ := A
  refine J_aln F 3 dW_278 rfl rfl ?_
  refine J_aln F 1 dW_279 rfl rfl ?_
  refine J_callSW F (As := [.ref (gb G + 0), .ref (gb G + 258)]) (st := []) (K_acts l hl G hC hR hs) wm_105 qst_acts qini qco_acts qhd_acts (by decide) (by decide) ⟨by show kc + 2 ≤ 601024; omega, by show ks + 12 ≤ 7293034; omega⟩ rfl dW_280 (fun k τ hq => ?_)
  refine J_is F (L' := (5, .int k) :: Lw G b x4) dW_283 (by decide) rfl ?_
  refine J_aln F 3 dW_285 rfl rfl ?_
  refine J_callVi F (As := []) (st := []) (C_X9_acts l G (M_acts hq hs)) ly_244 (by decide) rfl rfl wm_110 wn_X9_acts ws_X9_acts wi_X9 wk_X9_acts wh_X9_acts (by decide) (Nat.le_of_ble_eq_true rfl) ⟨by show kc + 2 ≤ 601024; omega, by show ks + 12 ≤ 7293034; omega⟩ rfl dW_286 (fun v ρ hz => ?_)
  obtain ⟨h1, h2, hC2, hR2⟩ := hz
  refine J_is F (L' := (6, .int v) :: (5, .int k) :: Lw G b x4) dW_289 (by decide) rfl ?_
  refine J_aln F 4 dW_291 rfl rfl ?_
  refine J_callVi F (As := []) (st := []) (C_X9_thrown l G (Q := fun r => r = ρ 244 0) (show wp_X9_thrown ρ _ from rfl)) ly_244 (by decide) rfl rfl wm_111 wn_X9_thrown ws_X9_thrown wi_X9 wk_X9_thrown wh_X9_thrown (by decide) (Nat.le_of_ble_eq_true rfl) ⟨by show kc + 2 ≤ 601024; omega, by show ks + 12 ≤ 7293034; omega⟩ rfl dW_292 (fun r ρ2 hz => ?_)
  obtain ⟨rfl, rfl⟩ := hz
  refine J_il F 1 dW_295 rfl ?_
  refine J_ceq F (tgt := 302) dW_297 (by decide) (fun _ => ?_) (fun h => absurd h1 h)
  refine J_il F 1 dW_302 rfl ?_
  have hend := J_goto F (tgt := 1966) dW_319 (by decide) (J_sub (L := (6, .int v) :: (5, .int k) :: Lw G b x4) (L' := Lw G b x4) [2, 3, 4, 5, 6] rfl (J_widen (k := kc + 4) (n := ks + 24) (kc := (kc + 2)) (ks := (ks + 12)) (by omega) (by omega) (K ρ2 _ hC2 hR2 hs.acts)))
  refine J_zne F (tgt := 319) dW_304 (by decide) (fun _ => hend) (fun hk0 => ?_)
  refine J_aln F 3 dW_307 rfl rfl ?_
  refine J_ic F dW_308 ki_0 ?_
  refine J_lald F (i := nI 0) ly_258 (n_in (by decide) (by decide)) dW_309 ?_
  refine J_il F 0 dW_310 rfl ?_
  refine J_i2l F dW_312 ?_
  refine J_lcmp F dW_313 ?_
  refine J_zeq F (tgt := 319) dW_314 (by decide) (fun _ => hend) (fun h => absurd (by rw [show ρ2 258 (nI 0).toNatClampNeg = ρ2 258 0 from rfl, h2 hk0]; exact lcmp_same _) h)
set_option maxRecDepth 20000 in
set_option maxHeartbeats 4000000 in
theorem S_fault {p : Program} {l : Launch} {e : Env} {s : State} {m : MethodId} {below : List Frame} {meth : Method} {c : Code} {G : Gp} {b Ln : Nat} {xs : Nat → Int32} {Qm : State → Prop} {x4 : Int32} (hl : l.stackTraces = false) (A : LA p s m meth c G b Ln xs) (hin : ∀ c, c < 6 → vp_in (x4 + nI c) Ln) : LStep p l e s m below meth c G b Qm x4 322 := by
  intro kc ks σ u hkc hks hC hR hs K
  obtain ⟨F, hX, hb, hg⟩ := A
  refine J_aln F 3 dW_322 rfl rfl ?_
  refine J_callVi F (As := []) (st := []) (C_X8_fault l G (Q := fun r => r = sX u) (s_X8_fault hC rfl)) ly_0 (by decide) rfl rfl wm_114 wn_X8_fault ws_X8_fault wi_X8 wk_X8_fault wh_X8_fault (by decide) (Nat.le_of_ble_eq_true rfl) ⟨by show kc ≤ 601024; omega, by show ks ≤ 7293034; omega⟩ rfl dW_323 (fun r τ hz => ?_)
  obtain ⟨rfl, e1⟩ := hz
  refine J_aln F 2 dW_326 rfl rfl ?_
  refine J_callVi F (As := []) (st := [.int r]) (C_X9_fault l G (Q := fun v ρ => v = sX u ∧ Rf _ ρ ∧ RR ρ u) (s_X9_fault hR (fun ρ a b => ⟨rfl, a, b⟩))) ly_244 (by decide) rfl rfl wm_117 wn_X9_fault ws_X9_fault wi_X9 wk_X9_fault wh_X9_fault (by decide) (Nat.le_of_ble_eq_true rfl) ⟨by show kc ≤ 601024; omega, by show ks ≤ 7293034; omega⟩ rfl dW_327 (fun v ρ hz => ?_)
  obtain ⟨e2, hf, hR2⟩ := hz
  have hC2 := hC.rf hs hf
  refine J_ceq F (tgt := 1966) dW_330 (by decide) (fun _ => ?_) (fun h => absurd (e1.trans e2.symm) h)
  exact J_widen (k := kc + 4) (n := ks + 24) (by omega) (by omega) (K ρ _ hC2 hR2 hs)
set_option maxRecDepth 20000 in
set_option maxHeartbeats 4000000 in
theorem S_why {p : Program} {l : Launch} {e : Env} {s : State} {m : MethodId} {below : List Frame} {meth : Method} {c : Code} {G : Gp} {b Ln : Nat} {xs : Nat → Int32} {Qm : State → Prop} {x4 : Int32} (hl : l.stackTraces = false) (A : LA p s m meth c G b Ln xs) (hin : ∀ c, c < 6 → vp_in (x4 + nI c) Ln) : LStep p l e s m below meth c G b Qm x4 335 := by
  intro kc ks σ u hkc hks hC hR hs K
  obtain ⟨F, hX, hb, hg⟩ := A
  refine J_aln F 3 dW_335 rfl rfl ?_
  refine J_callVi F (As := []) (st := []) (C_X8_why l G (Q := fun r => r = sW u) (s_X8_why hC rfl)) ly_0 (by decide) rfl rfl wm_118 wn_X8_why ws_X8_why wi_X8 wk_X8_why wh_X8_why (by decide) (Nat.le_of_ble_eq_true rfl) ⟨by show kc ≤ 601024; omega, by show ks ≤ 7293034; omega⟩ rfl dW_336 (fun r τ hz => ?_)
  obtain ⟨rfl, e1⟩ := hz
  refine J_aln F 2 dW_339 rfl rfl ?_
  refine J_callVi F (As := []) (st := [.int r]) (C_X9_why l G (Q := fun v ρ => v = sW u ∧ Rf _ ρ ∧ RR ρ u) (s_X9_why hR (fun ρ a b => ⟨rfl, a, b⟩))) ly_244 (by decide) rfl rfl wm_121 wn_X9_why ws_X9_why wi_X9 wk_X9_why wh_X9_why (by decide) (Nat.le_of_ble_eq_true rfl) ⟨by show kc ≤ 601024; omega, by show ks ≤ 7293034; omega⟩ rfl dW_340 (fun v ρ hz => ?_)
  obtain ⟨e2, hf, hR2⟩ := hz
  have hC2 := hC.rf hs hf
  refine J_ceq F (tgt := 1966) dW_343 (by decide) (fun _ => ?_) (fun h => absurd (e1.trans e2.symm) h)
  exact J_widen (k := kc + 4) (n := ks + 24) (by omega) (by omega) (K ρ _ hC2 hR2 hs)
set_option maxRecDepth 20000 in
set_option maxHeartbeats 4000000 in
theorem S_join {p : Program} {l : Launch} {e : Env} {s : State} {m : MethodId} {below : List Frame} {meth : Method} {c : Code} {G : Gp} {b Ln : Nat} {xs : Nat → Int32} {Qm : State → Prop} {x4 : Int32} (hl : l.stackTraces = false) (A : LA p s m meth c G b Ln xs) (hin : ∀ c, c < 6 → vp_in (x4 + nI c) Ln) : LStep p l e s m below meth c G b Qm x4 348 := by
  intro kc ks σ u hkc hks hC hR hs K
  obtain ⟨F, hX, hb, hg⟩ := A
  refine J_aln F 3 dW_348 rfl rfl ?_
  refine J_aln F 4 dW_349 rfl rfl ?_
  refine J_il F 0 dW_350 rfl ?_
  refine J_ic F dW_352 ki_1 ?_
  refine J_iadd F dW_353 ?_
  refine J_sld F hX hb hg (hin 1 (by decide)) dW_354 ?_
  refine J_aln F 4 dW_355 rfl rfl ?_
  refine J_il F 0 dW_356 rfl ?_
  refine J_ic F dW_358 ki_2 ?_
  refine J_iadd F dW_359 ?_
  refine J_sld F hX hb hg (hin 2 (by decide)) dW_360 ?_
  refine J_aln F 4 dW_361 rfl rfl ?_
  refine J_il F 0 dW_362 rfl ?_
  refine J_ic F dW_364 ki_3 ?_
  refine J_iadd F dW_365 ?_
  refine J_sld F hX hb hg (hin 3 (by decide)) dW_366 ?_
  refine J_aln F 4 dW_367 rfl rfl ?_
  refine J_il F 0 dW_368 rfl ?_
  refine J_ic F dW_370 ki_4 ?_
  refine J_iadd F dW_371 ?_
  refine J_sld F hX hb hg (hin 4 (by decide)) dW_372 ?_
  refine J_aln F 1 dW_373 rfl rfl ?_
  refine J_callSW F (As := [.ref (gb G + 0), .int (sc xs x4 1), .int (sc xs x4 2), .int (sc xs x4 3), .int (sc xs x4 4), .ref (gb G + 258)]) (st := []) (K_join l hl G (sc xs x4 1) (sc xs x4 2) (sc xs x4 3) (sc xs x4 4) hC hR hs) wm_122 qst_join qini qco_join qhd_join (by decide) (by decide) ⟨by show kc + 2 ≤ 601024; omega, by show ks + 12 ≤ 7293034; omega⟩ rfl dW_374 (fun k τ hq => ?_)
  refine J_is F (L' := (5, .int k) :: Lw G b x4) dW_377 (by decide) rfl ?_
  refine J_aln F 3 dW_379 rfl rfl ?_
  refine J_aln F 5 dW_380 rfl rfl ?_
  refine J_il F 1 dW_381 rfl ?_
  refine J_ic F dW_383 ki_1 ?_
  refine J_iadd F dW_384 ?_
  refine J_sld F hX hb hg (hin 1 (by decide)) dW_385 ?_
  refine J_aln F 5 dW_386 rfl rfl ?_
  refine J_il F 1 dW_387 rfl ?_
  refine J_ic F dW_389 ki_2 ?_
  refine J_iadd F dW_390 ?_
  refine J_sld F hX hb hg (hin 2 (by decide)) dW_391 ?_
  refine J_aln F 5 dW_392 rfl rfl ?_
  refine J_il F 1 dW_393 rfl ?_
  refine J_ic F dW_395 ki_3 ?_
  refine J_iadd F dW_396 ?_
  refine J_sld F hX hb hg (hin 3 (by decide)) dW_397 ?_
  refine J_aln F 5 dW_398 rfl rfl ?_
  refine J_il F 1 dW_399 rfl ?_
  refine J_ic F dW_401 ki_4 ?_
  refine J_iadd F dW_402 ?_
  refine J_sld F hX hb hg (hin 4 (by decide)) dW_403 ?_
  refine J_callVi F (As := [.int (sc xs x4 1), .int (sc xs x4 2), .int (sc xs x4 3), .int (sc xs x4 4)]) (st := []) (C_X9_join l G (sc xs x4 1) (sc xs x4 2) (sc xs x4 3) (sc xs x4 4) (M_join (sc xs x4 1) (sc xs x4 2) (sc xs x4 3) (sc xs x4 4) hq hs)) ly_244 (by decide) rfl rfl wm_125 wn_X9_join ws_X9_join wi_X9 wk_X9_join wh_X9_join (by decide) (Nat.le_of_ble_eq_true rfl) ⟨by show kc + 2 ≤ 601024; omega, by show ks + 12 ≤ 7293034; omega⟩ rfl dW_404 (fun v ρ hz => ?_)
  obtain ⟨h1, h2, hC2, hR2⟩ := hz
  refine J_is F (L' := (6, .int v) :: (5, .int k) :: Lw G b x4) dW_407 (by decide) rfl ?_
  refine J_aln F 4 dW_409 rfl rfl ?_
  refine J_callVi F (As := []) (st := []) (C_X9_thrown l G (Q := fun r => r = ρ 244 0) (show wp_X9_thrown ρ _ from rfl)) ly_244 (by decide) rfl rfl wm_111 wn_X9_thrown ws_X9_thrown wi_X9 wk_X9_thrown wh_X9_thrown (by decide) (Nat.le_of_ble_eq_true rfl) ⟨by show kc + 2 ≤ 601024; omega, by show ks + 12 ≤ 7293034; omega⟩ rfl dW_410 (fun r ρ2 hz => ?_)
  obtain ⟨rfl, rfl⟩ := hz
  refine J_il F 1 dW_413 rfl ?_
  refine J_ceq F (tgt := 420) dW_415 (by decide) (fun _ => ?_) (fun h => absurd h1 h)
  refine J_il F 1 dW_420 rfl ?_
  have hend := J_goto F (tgt := 1966) dW_437 (by decide) (J_sub (L := (6, .int v) :: (5, .int k) :: Lw G b x4) (L' := Lw G b x4) [2, 3, 4, 5, 6] rfl (J_widen (k := kc + 4) (n := ks + 24) (kc := (kc + 2)) (ks := (ks + 12)) (by omega) (by omega) (K ρ2 _ hC2 hR2 (hs.oJoin (sc xs x4 1) (sc xs x4 2) (sc xs x4 3) (sc xs x4 4)))))
  refine J_zne F (tgt := 437) dW_422 (by decide) (fun _ => hend) (fun hk0 => ?_)
  refine J_aln F 3 dW_425 rfl rfl ?_
  refine J_ic F dW_426 ki_0 ?_
  refine J_lald F (i := nI 0) ly_258 (n_in (by decide) (by decide)) dW_427 ?_
  refine J_il F 0 dW_428 rfl ?_
  refine J_i2l F dW_430 ?_
  refine J_lcmp F dW_431 ?_
  refine J_zeq F (tgt := 437) dW_432 (by decide) (fun _ => hend) (fun h => absurd (by rw [show ρ2 258 (nI 0).toNatClampNeg = ρ2 258 0 from rfl, h2 hk0]; exact lcmp_same _) h)
set_option maxRecDepth 20000 in
set_option maxHeartbeats 4000000 in
theorem S_near {p : Program} {l : Launch} {e : Env} {s : State} {m : MethodId} {below : List Frame} {meth : Method} {c : Code} {G : Gp} {b Ln : Nat} {xs : Nat → Int32} {Qm : State → Prop} {x4 : Int32} (hl : l.stackTraces = false) (A : LA p s m meth c G b Ln xs) (hin : ∀ c, c < 6 → vp_in (x4 + nI c) Ln) : LStep p l e s m below meth c G b Qm x4 440 := by
  intro kc ks σ u hkc hks hC hR hs K
  obtain ⟨F, hX, hb, hg⟩ := A
  refine J_aln F 3 dW_440 rfl rfl ?_
  refine J_aln F 4 dW_441 rfl rfl ?_
  refine J_il F 0 dW_442 rfl ?_
  refine J_ic F dW_444 ki_1 ?_
  refine J_iadd F dW_445 ?_
  refine J_sld F hX hb hg (hin 1 (by decide)) dW_446 ?_
  refine J_aln F 4 dW_447 rfl rfl ?_
  refine J_il F 0 dW_448 rfl ?_
  refine J_ic F dW_450 ki_2 ?_
  refine J_iadd F dW_451 ?_
  refine J_sld F hX hb hg (hin 2 (by decide)) dW_452 ?_
  refine J_aln F 1 dW_453 rfl rfl ?_
  refine J_callSW F (As := [.ref (gb G + 0), .int (sc xs x4 1), .int (sc xs x4 2), .ref (gb G + 258)]) (st := []) (K_near l hl G (sc xs x4 1) (sc xs x4 2) hC hR hs) wm_126 qst_near qini qco_near qhd_near (by decide) (by decide) ⟨by show kc + 2 ≤ 601024; omega, by show ks + 12 ≤ 7293034; omega⟩ rfl dW_454 (fun k τ hq => ?_)
  refine J_is F (L' := (5, .int k) :: Lw G b x4) dW_457 (by decide) rfl ?_
  refine J_aln F 3 dW_459 rfl rfl ?_
  refine J_aln F 5 dW_460 rfl rfl ?_
  refine J_il F 1 dW_461 rfl ?_
  refine J_ic F dW_463 ki_1 ?_
  refine J_iadd F dW_464 ?_
  refine J_sld F hX hb hg (hin 1 (by decide)) dW_465 ?_
  refine J_aln F 5 dW_466 rfl rfl ?_
  refine J_il F 1 dW_467 rfl ?_
  refine J_ic F dW_469 ki_2 ?_
  refine J_iadd F dW_470 ?_
  refine J_sld F hX hb hg (hin 2 (by decide)) dW_471 ?_
  refine J_callVi F (As := [.int (sc xs x4 1), .int (sc xs x4 2)]) (st := []) (C_X9_near l G (sc xs x4 1) (sc xs x4 2) (M_near (sc xs x4 1) (sc xs x4 2) hq hs)) ly_244 (by decide) rfl rfl wm_129 wn_X9_near ws_X9_near wi_X9 wk_X9_near wh_X9_near (by decide) (Nat.le_of_ble_eq_true rfl) ⟨by show kc + 2 ≤ 601024; omega, by show ks + 12 ≤ 7293034; omega⟩ rfl dW_472 (fun v ρ hz => ?_)
  obtain ⟨h1, h2, hC2, hR2⟩ := hz
  refine J_is F (L' := (6, .int v) :: (5, .int k) :: Lw G b x4) dW_475 (by decide) rfl ?_
  refine J_aln F 4 dW_477 rfl rfl ?_
  refine J_callVi F (As := []) (st := []) (C_X9_thrown l G (Q := fun r => r = ρ 244 0) (show wp_X9_thrown ρ _ from rfl)) ly_244 (by decide) rfl rfl wm_111 wn_X9_thrown ws_X9_thrown wi_X9 wk_X9_thrown wh_X9_thrown (by decide) (Nat.le_of_ble_eq_true rfl) ⟨by show kc + 2 ≤ 601024; omega, by show ks + 12 ≤ 7293034; omega⟩ rfl dW_478 (fun r ρ2 hz => ?_)
  obtain ⟨rfl, rfl⟩ := hz
  refine J_il F 1 dW_481 rfl ?_
  refine J_ceq F (tgt := 488) dW_483 (by decide) (fun _ => ?_) (fun h => absurd h1 h)
  refine J_il F 1 dW_488 rfl ?_
  have hend := J_goto F (tgt := 1966) dW_505 (by decide) (J_sub (L := (6, .int v) :: (5, .int k) :: Lw G b x4) (L' := Lw G b x4) [2, 3, 4, 5, 6] rfl (J_widen (k := kc + 4) (n := ks + 24) (kc := (kc + 2)) (ks := (ks + 12)) (by omega) (by omega) (K ρ2 _ hC2 hR2 (hs.oNear (sc xs x4 1) (sc xs x4 2)))))
  refine J_zne F (tgt := 505) dW_490 (by decide) (fun _ => hend) (fun hk0 => ?_)
  refine J_aln F 3 dW_493 rfl rfl ?_
  refine J_ic F dW_494 ki_0 ?_
  refine J_lald F (i := nI 0) ly_258 (n_in (by decide) (by decide)) dW_495 ?_
  refine J_il F 0 dW_496 rfl ?_
  refine J_i2l F dW_498 ?_
  refine J_lcmp F dW_499 ?_
  refine J_zeq F (tgt := 505) dW_500 (by decide) (fun _ => hend) (fun h => absurd (by rw [show ρ2 258 (nI 0).toNatClampNeg = ρ2 258 0 from rfl, h2 hk0]; exact lcmp_same _) h)
set_option maxRecDepth 20000 in
set_option maxHeartbeats 4000000 in
theorem S_go {p : Program} {l : Launch} {e : Env} {s : State} {m : MethodId} {below : List Frame} {meth : Method} {c : Code} {G : Gp} {b Ln : Nat} {xs : Nat → Int32} {Qm : State → Prop} {x4 : Int32} (hl : l.stackTraces = false) (A : LA p s m meth c G b Ln xs) (hin : ∀ c, c < 6 → vp_in (x4 + nI c) Ln) : LStep p l e s m below meth c G b Qm x4 508 := by
  intro kc ks σ u hkc hks hC hR hs K
  obtain ⟨F, hX, hb, hg⟩ := A
  refine J_aln F 3 dW_508 rfl rfl ?_
  refine J_aln F 4 dW_509 rfl rfl ?_
  refine J_il F 0 dW_510 rfl ?_
  refine J_ic F dW_512 ki_1 ?_
  refine J_iadd F dW_513 ?_
  refine J_sld F hX hb hg (hin 1 (by decide)) dW_514 ?_
  refine J_aln F 4 dW_515 rfl rfl ?_
  refine J_il F 0 dW_516 rfl ?_
  refine J_ic F dW_518 ki_2 ?_
  refine J_iadd F dW_519 ?_
  refine J_sld F hX hb hg (hin 2 (by decide)) dW_520 ?_
  refine J_aln F 1 dW_521 rfl rfl ?_
  refine J_callSW F (As := [.ref (gb G + 0), .int (sc xs x4 1), .int (sc xs x4 2), .ref (gb G + 258)]) (st := []) (K_go l hl G (sc xs x4 1) (sc xs x4 2) hC hR hs) wm_130 qst_go qini qco_go qhd_go (by decide) (by decide) ⟨by show kc + 3 ≤ 601024; omega, by show ks + 18 ≤ 7293034; omega⟩ rfl dW_522 (fun k τ hq => ?_)
  refine J_is F (L' := (5, .int k) :: Lw G b x4) dW_525 (by decide) rfl ?_
  refine J_aln F 3 dW_527 rfl rfl ?_
  refine J_aln F 5 dW_528 rfl rfl ?_
  refine J_il F 1 dW_529 rfl ?_
  refine J_ic F dW_531 ki_1 ?_
  refine J_iadd F dW_532 ?_
  refine J_sld F hX hb hg (hin 1 (by decide)) dW_533 ?_
  refine J_aln F 5 dW_534 rfl rfl ?_
  refine J_il F 1 dW_535 rfl ?_
  refine J_ic F dW_537 ki_2 ?_
  refine J_iadd F dW_538 ?_
  refine J_sld F hX hb hg (hin 2 (by decide)) dW_539 ?_
  refine J_callVi F (As := [.int (sc xs x4 1), .int (sc xs x4 2)]) (st := []) (C_X9_go l G (sc xs x4 1) (sc xs x4 2) (M_go (sc xs x4 1) (sc xs x4 2) hq hs)) ly_244 (by decide) rfl rfl wm_132 wn_X9_go ws_X9_go wi_X9 wk_X9_go wh_X9_go (by decide) (Nat.le_of_ble_eq_true rfl) ⟨by show kc + 3 ≤ 601024; omega, by show ks + 18 ≤ 7293034; omega⟩ rfl dW_540 (fun v ρ hz => ?_)
  obtain ⟨h1, h2, hC2, hR2⟩ := hz
  refine J_is F (L' := (6, .int v) :: (5, .int k) :: Lw G b x4) dW_543 (by decide) rfl ?_
  refine J_aln F 4 dW_545 rfl rfl ?_
  refine J_callVi F (As := []) (st := []) (C_X9_thrown l G (Q := fun r => r = ρ 244 0) (show wp_X9_thrown ρ _ from rfl)) ly_244 (by decide) rfl rfl wm_111 wn_X9_thrown ws_X9_thrown wi_X9 wk_X9_thrown wh_X9_thrown (by decide) (Nat.le_of_ble_eq_true rfl) ⟨by show kc + 3 ≤ 601024; omega, by show ks + 18 ≤ 7293034; omega⟩ rfl dW_546 (fun r ρ2 hz => ?_)
  obtain ⟨rfl, rfl⟩ := hz
  refine J_il F 1 dW_549 rfl ?_
  refine J_ceq F (tgt := 556) dW_551 (by decide) (fun _ => ?_) (fun h => absurd h1 h)
  refine J_il F 1 dW_556 rfl ?_
  have hend := J_goto F (tgt := 1966) dW_573 (by decide) (J_sub (L := (6, .int v) :: (5, .int k) :: Lw G b x4) (L' := Lw G b x4) [2, 3, 4, 5, 6] rfl (J_widen (k := kc + 4) (n := ks + 24) (kc := (kc + 3)) (ks := (ks + 18)) (by omega) (by omega) (K ρ2 _ hC2 hR2 (hs.oGo (sc xs x4 1) (sc xs x4 2)))))
  refine J_zne F (tgt := 573) dW_558 (by decide) (fun _ => hend) (fun hk0 => ?_)
  refine J_aln F 3 dW_561 rfl rfl ?_
  refine J_ic F dW_562 ki_0 ?_
  refine J_lald F (i := nI 0) ly_258 (n_in (by decide) (by decide)) dW_563 ?_
  refine J_il F 0 dW_564 rfl ?_
  refine J_i2l F dW_566 ?_
  refine J_lcmp F dW_567 ?_
  refine J_zeq F (tgt := 573) dW_568 (by decide) (fun _ => hend) (fun h => absurd (by rw [show ρ2 258 (nI 0).toNatClampNeg = ρ2 258 0 from rfl, h2 hk0]; exact lcmp_same _) h)
set_option maxRecDepth 20000 in
set_option maxHeartbeats 4000000 in
theorem S_tidy {p : Program} {l : Launch} {e : Env} {s : State} {m : MethodId} {below : List Frame} {meth : Method} {c : Code} {G : Gp} {b Ln : Nat} {xs : Nat → Int32} {Qm : State → Prop} {x4 : Int32} (hl : l.stackTraces = false) (A : LA p s m meth c G b Ln xs) (hin : ∀ c, c < 6 → vp_in (x4 + nI c) Ln) : LStep p l e s m below meth c G b Qm x4 576 := by
  intro kc ks σ u hkc hks hC hR hs K
  obtain ⟨F, hX, hb, hg⟩ := A
  refine J_aln F 3 dW_576 rfl rfl ?_
  refine J_aln F 1 dW_577 rfl rfl ?_
  refine J_callSW F (As := [.ref (gb G + 0), .ref (gb G + 258)]) (st := []) (K_tidy l hl G hC hR hs) wm_133 qst_tidy qini qco_tidy qhd_tidy (by decide) (by decide) ⟨by show kc + 1 ≤ 601024; omega, by show ks + 6 ≤ 7293034; omega⟩ rfl dW_578 (fun k τ hq => ?_)
  refine J_is F (L' := (5, .int k) :: Lw G b x4) dW_581 (by decide) rfl ?_
  refine J_aln F 3 dW_583 rfl rfl ?_
  refine J_callVi F (As := []) (st := []) (C_X9_tidy l G (M_tidy hq hs)) ly_244 (by decide) rfl rfl wm_135 wn_X9_tidy ws_X9_tidy wi_X9 wk_X9_tidy wh_X9_tidy (by decide) (Nat.le_of_ble_eq_true rfl) ⟨by show kc + 1 ≤ 601024; omega, by show ks + 6 ≤ 7293034; omega⟩ rfl dW_584 (fun v ρ hz => ?_)
  obtain ⟨h1, h2, hC2, hR2⟩ := hz
  refine J_is F (L' := (6, .int v) :: (5, .int k) :: Lw G b x4) dW_587 (by decide) rfl ?_
  refine J_aln F 4 dW_589 rfl rfl ?_
  refine J_callVi F (As := []) (st := []) (C_X9_thrown l G (Q := fun r => r = ρ 244 0) (show wp_X9_thrown ρ _ from rfl)) ly_244 (by decide) rfl rfl wm_111 wn_X9_thrown ws_X9_thrown wi_X9 wk_X9_thrown wh_X9_thrown (by decide) (Nat.le_of_ble_eq_true rfl) ⟨by show kc + 1 ≤ 601024; omega, by show ks + 6 ≤ 7293034; omega⟩ rfl dW_590 (fun r ρ2 hz => ?_)
  obtain ⟨rfl, rfl⟩ := hz
  refine J_il F 1 dW_593 rfl ?_
  refine J_ceq F (tgt := 600) dW_595 (by decide) (fun _ => ?_) (fun h => absurd h1 h)
  refine J_il F 1 dW_600 rfl ?_
  have hend := J_goto F (tgt := 1966) dW_617 (by decide) (J_sub (L := (6, .int v) :: (5, .int k) :: Lw G b x4) (L' := Lw G b x4) [2, 3, 4, 5, 6] rfl (J_widen (k := kc + 4) (n := ks + 24) (kc := (kc + 1)) (ks := (ks + 6)) (by omega) (by omega) (K ρ2 _ hC2 hR2 (hs.oTidy))))
  refine J_zne F (tgt := 617) dW_602 (by decide) (fun _ => hend) (fun hk0 => ?_)
  refine J_aln F 3 dW_605 rfl rfl ?_
  refine J_ic F dW_606 ki_0 ?_
  refine J_lald F (i := nI 0) ly_258 (n_in (by decide) (by decide)) dW_607 ?_
  refine J_il F 0 dW_608 rfl ?_
  refine J_i2l F dW_610 ?_
  refine J_lcmp F dW_611 ?_
  refine J_zeq F (tgt := 617) dW_612 (by decide) (fun _ => hend) (fun h => absurd (by rw [show ρ2 258 (nI 0).toNatClampNeg = ρ2 258 0 from rfl, h2 hk0]; exact lcmp_same _) h)
set_option maxRecDepth 20000 in
set_option maxHeartbeats 4000000 in
theorem S_put {p : Program} {l : Launch} {e : Env} {s : State} {m : MethodId} {below : List Frame} {meth : Method} {c : Code} {G : Gp} {b Ln : Nat} {xs : Nat → Int32} {Qm : State → Prop} {x4 : Int32} (hl : l.stackTraces = false) (A : LA p s m meth c G b Ln xs) (hin : ∀ c, c < 6 → vp_in (x4 + nI c) Ln) : LStep p l e s m below meth c G b Qm x4 620 := by
  intro kc ks σ u hkc hks hC hR hs K
  obtain ⟨F, hX, hb, hg⟩ := A
  refine J_aln F 3 dW_620 rfl rfl ?_
  refine J_aln F 4 dW_621 rfl rfl ?_
  refine J_il F 0 dW_622 rfl ?_
  refine J_ic F dW_624 ki_1 ?_
  refine J_iadd F dW_625 ?_
  refine J_sld F hX hb hg (hin 1 (by decide)) dW_626 ?_
  refine J_aln F 4 dW_627 rfl rfl ?_
  refine J_il F 0 dW_628 rfl ?_
  refine J_ic F dW_630 ki_2 ?_
  refine J_iadd F dW_631 ?_
  refine J_sld F hX hb hg (hin 2 (by decide)) dW_632 ?_
  refine J_aln F 1 dW_633 rfl rfl ?_
  refine J_callSW F (As := [.ref (gb G + 0), .int (sc xs x4 1), .int (sc xs x4 2), .ref (gb G + 258)]) (st := []) (K_put l hl G (sc xs x4 1) (sc xs x4 2) hC hR hs) wm_136 qst_put qini qco_put qhd_put (by decide) (by decide) ⟨by show kc + 3 ≤ 601024; omega, by show ks + 18 ≤ 7293034; omega⟩ rfl dW_634 (fun k τ hq => ?_)
  refine J_is F (L' := (5, .int k) :: Lw G b x4) dW_637 (by decide) rfl ?_
  refine J_aln F 3 dW_639 rfl rfl ?_
  refine J_aln F 5 dW_640 rfl rfl ?_
  refine J_il F 1 dW_641 rfl ?_
  refine J_ic F dW_643 ki_1 ?_
  refine J_iadd F dW_644 ?_
  refine J_sld F hX hb hg (hin 1 (by decide)) dW_645 ?_
  refine J_aln F 5 dW_646 rfl rfl ?_
  refine J_il F 1 dW_647 rfl ?_
  refine J_ic F dW_649 ki_2 ?_
  refine J_iadd F dW_650 ?_
  refine J_sld F hX hb hg (hin 2 (by decide)) dW_651 ?_
  refine J_callVi F (As := [.int (sc xs x4 1), .int (sc xs x4 2)]) (st := []) (C_X9_put l G (sc xs x4 1) (sc xs x4 2) (M_put (sc xs x4 1) (sc xs x4 2) hq hs)) ly_244 (by decide) rfl rfl wm_138 wn_X9_put ws_X9_put wi_X9 wk_X9_put wh_X9_put (by decide) (Nat.le_of_ble_eq_true rfl) ⟨by show kc + 3 ≤ 601024; omega, by show ks + 18 ≤ 7293034; omega⟩ rfl dW_652 (fun v ρ hz => ?_)
  obtain ⟨h1, h2, hC2, hR2⟩ := hz
  refine J_is F (L' := (6, .int v) :: (5, .int k) :: Lw G b x4) dW_655 (by decide) rfl ?_
  refine J_aln F 4 dW_657 rfl rfl ?_
  refine J_callVi F (As := []) (st := []) (C_X9_thrown l G (Q := fun r => r = ρ 244 0) (show wp_X9_thrown ρ _ from rfl)) ly_244 (by decide) rfl rfl wm_111 wn_X9_thrown ws_X9_thrown wi_X9 wk_X9_thrown wh_X9_thrown (by decide) (Nat.le_of_ble_eq_true rfl) ⟨by show kc + 3 ≤ 601024; omega, by show ks + 18 ≤ 7293034; omega⟩ rfl dW_658 (fun r ρ2 hz => ?_)
  obtain ⟨rfl, rfl⟩ := hz
  refine J_il F 1 dW_661 rfl ?_
  refine J_ceq F (tgt := 668) dW_663 (by decide) (fun _ => ?_) (fun h => absurd h1 h)
  refine J_il F 1 dW_668 rfl ?_
  have hend := J_goto F (tgt := 1966) dW_685 (by decide) (J_sub (L := (6, .int v) :: (5, .int k) :: Lw G b x4) (L' := Lw G b x4) [2, 3, 4, 5, 6] rfl (J_widen (k := kc + 4) (n := ks + 24) (kc := (kc + 3)) (ks := (ks + 18)) (by omega) (by omega) (K ρ2 _ hC2 hR2 (hs.oPut (sc xs x4 1) (sc xs x4 2)))))
  refine J_zne F (tgt := 685) dW_670 (by decide) (fun _ => hend) (fun hk0 => ?_)
  refine J_aln F 3 dW_673 rfl rfl ?_
  refine J_ic F dW_674 ki_0 ?_
  refine J_lald F (i := nI 0) ly_258 (n_in (by decide) (by decide)) dW_675 ?_
  refine J_il F 0 dW_676 rfl ?_
  refine J_i2l F dW_678 ?_
  refine J_lcmp F dW_679 ?_
  refine J_zeq F (tgt := 685) dW_680 (by decide) (fun _ => hend) (fun h => absurd (by rw [show ρ2 258 (nI 0).toNatClampNeg = ρ2 258 0 from rfl, h2 hk0]; exact lcmp_same _) h)
set_option maxRecDepth 20000 in
set_option maxHeartbeats 4000000 in
theorem S_cut {p : Program} {l : Launch} {e : Env} {s : State} {m : MethodId} {below : List Frame} {meth : Method} {c : Code} {G : Gp} {b Ln : Nat} {xs : Nat → Int32} {Qm : State → Prop} {x4 : Int32} (hl : l.stackTraces = false) (A : LA p s m meth c G b Ln xs) (hin : ∀ c, c < 6 → vp_in (x4 + nI c) Ln) : LStep p l e s m below meth c G b Qm x4 688 := by
  intro kc ks σ u hkc hks hC hR hs K
  obtain ⟨F, hX, hb, hg⟩ := A
  refine J_aln F 3 dW_688 rfl rfl ?_
  refine J_aln F 4 dW_689 rfl rfl ?_
  refine J_il F 0 dW_690 rfl ?_
  refine J_ic F dW_692 ki_1 ?_
  refine J_iadd F dW_693 ?_
  refine J_sld F hX hb hg (hin 1 (by decide)) dW_694 ?_
  refine J_aln F 1 dW_695 rfl rfl ?_
  refine J_callSW F (As := [.ref (gb G + 0), .int (sc xs x4 1), .ref (gb G + 258)]) (st := []) (K_cut l hl G (sc xs x4 1) hC hR hs) wm_139 qst_cut qini qco_cut qhd_cut (by decide) (by decide) ⟨by show kc + 2 ≤ 601024; omega, by show ks + 12 ≤ 7293034; omega⟩ rfl dW_696 (fun k τ hq => ?_)
  refine J_is F (L' := (5, .int k) :: Lw G b x4) dW_699 (by decide) rfl ?_
  refine J_aln F 3 dW_701 rfl rfl ?_
  refine J_aln F 5 dW_702 rfl rfl ?_
  refine J_il F 1 dW_703 rfl ?_
  refine J_ic F dW_705 ki_1 ?_
  refine J_iadd F dW_706 ?_
  refine J_sld F hX hb hg (hin 1 (by decide)) dW_707 ?_
  refine J_callVi F (As := [.int (sc xs x4 1)]) (st := []) (C_X9_cut l G (sc xs x4 1) (M_cut (sc xs x4 1) hq hs)) ly_244 (by decide) rfl rfl wm_142 wn_X9_cut ws_X9_cut wi_X9 wk_X9_cut wh_X9_cut (by decide) (Nat.le_of_ble_eq_true rfl) ⟨by show kc + 2 ≤ 601024; omega, by show ks + 12 ≤ 7293034; omega⟩ rfl dW_708 (fun v ρ hz => ?_)
  obtain ⟨h1, h2, hC2, hR2⟩ := hz
  refine J_is F (L' := (6, .int v) :: (5, .int k) :: Lw G b x4) dW_711 (by decide) rfl ?_
  refine J_aln F 4 dW_713 rfl rfl ?_
  refine J_callVi F (As := []) (st := []) (C_X9_thrown l G (Q := fun r => r = ρ 244 0) (show wp_X9_thrown ρ _ from rfl)) ly_244 (by decide) rfl rfl wm_111 wn_X9_thrown ws_X9_thrown wi_X9 wk_X9_thrown wh_X9_thrown (by decide) (Nat.le_of_ble_eq_true rfl) ⟨by show kc + 2 ≤ 601024; omega, by show ks + 12 ≤ 7293034; omega⟩ rfl dW_714 (fun r ρ2 hz => ?_)
  obtain ⟨rfl, rfl⟩ := hz
  refine J_il F 1 dW_717 rfl ?_
  refine J_ceq F (tgt := 724) dW_719 (by decide) (fun _ => ?_) (fun h => absurd h1 h)
  refine J_il F 1 dW_724 rfl ?_
  have hend := J_goto F (tgt := 1966) dW_741 (by decide) (J_sub (L := (6, .int v) :: (5, .int k) :: Lw G b x4) (L' := Lw G b x4) [2, 3, 4, 5, 6] rfl (J_widen (k := kc + 4) (n := ks + 24) (kc := (kc + 2)) (ks := (ks + 12)) (by omega) (by omega) (K ρ2 _ hC2 hR2 (hs.oCut (sc xs x4 1)))))
  refine J_zne F (tgt := 741) dW_726 (by decide) (fun _ => hend) (fun hk0 => ?_)
  refine J_aln F 3 dW_729 rfl rfl ?_
  refine J_ic F dW_730 ki_0 ?_
  refine J_lald F (i := nI 0) ly_258 (n_in (by decide) (by decide)) dW_731 ?_
  refine J_il F 0 dW_732 rfl ?_
  refine J_i2l F dW_734 ?_
  refine J_lcmp F dW_735 ?_
  refine J_zeq F (tgt := 741) dW_736 (by decide) (fun _ => hend) (fun h => absurd (by rw [show ρ2 258 (nI 0).toNatClampNeg = ρ2 258 0 from rfl, h2 hk0]; exact lcmp_same _) h)
set_option maxRecDepth 20000 in
set_option maxHeartbeats 4000000 in
theorem S_mend {p : Program} {l : Launch} {e : Env} {s : State} {m : MethodId} {below : List Frame} {meth : Method} {c : Code} {G : Gp} {b Ln : Nat} {xs : Nat → Int32} {Qm : State → Prop} {x4 : Int32} (hl : l.stackTraces = false) (A : LA p s m meth c G b Ln xs) (hin : ∀ c, c < 6 → vp_in (x4 + nI c) Ln) : LStep p l e s m below meth c G b Qm x4 744 := by
  intro kc ks σ u hkc hks hC hR hs K
  obtain ⟨F, hX, hb, hg⟩ := A
  refine J_aln F 3 dW_744 rfl rfl ?_
  refine J_tcallV F (As := []) (st := []) (Q' := qI (fun r τ => r = (rMend u).2.1 ∧ Cf σ τ ∧ CR τ (rMend u).2.2)) (QX' := fun _ _ => False) (C_X8_mend l hl G (s_X8_mend hC hs ⟨fun _ τ hc hC1 => ⟨rfl, hc, hC1⟩, fun h0 _ _ _ => absurd (rMend_ok u) h0⟩)) ly_0 (by decide) rfl rfl wm_143 wn_X8_mend ws_X8_mend wi_X8 wk_X8_mend wh_X8_mend (by decide) (Nat.le_of_ble_eq_true rfl) ⟨by show kc + 1 ≤ 601024; omega, by show ks + 6 ≤ 7293034; omega⟩ (fun _ _ hf => hf.elim) rfl dW_745 (fun v τ hz => ?_)
  obtain ⟨r, rfl, e1, hc, hC1⟩ := hz
  have hR1 : RR τ u := hR.cf hc
  refine J_aln F 2 dW_748 rfl rfl ?_
  refine J_callVi F (As := []) (st := [.int r]) (C_X9_mend l G (Q := fun v ρ => v = (rMend u).2.1 ∧ Rf τ ρ ∧ RR ρ (rMend u).2.2) (s_X9_mend hR1 hs (fun ρ v hf hR2 ht hv => ⟨hv (by rw [rMend_ok u]), hf, hR2⟩))) ly_244 (by decide) rfl rfl wm_146 wn_X9_mend ws_X9_mend wi_X9 wk_X9_mend wh_X9_mend (by decide) (Nat.le_of_ble_eq_true rfl) ⟨by show kc + 1 ≤ 601024; omega, by show ks + 6 ≤ 7293034; omega⟩ rfl dW_749 (fun v ρ hz => ?_)
  obtain ⟨e2, hf, hR2⟩ := hz
  have hC2 := hC1.rf (hs.oMend) hf
  refine J_ceq F (tgt := 1966) dW_752 (by decide) (fun _ => ?_) (fun h => absurd (e1.trans e2.symm) h)
  exact J_widen (k := kc + 4) (n := ks + 24) (by omega) (by omega) (K ρ _ hC2 hR2 hs.oMend)
set_option maxRecDepth 20000 in
set_option maxHeartbeats 4000000 in
theorem S_undo {p : Program} {l : Launch} {e : Env} {s : State} {m : MethodId} {below : List Frame} {meth : Method} {c : Code} {G : Gp} {b Ln : Nat} {xs : Nat → Int32} {Qm : State → Prop} {x4 : Int32} (hl : l.stackTraces = false) (A : LA p s m meth c G b Ln xs) (hin : ∀ c, c < 6 → vp_in (x4 + nI c) Ln) : LStep p l e s m below meth c G b Qm x4 757 := by
  intro kc ks σ u hkc hks hC hR hs K
  obtain ⟨F, hX, hb, hg⟩ := A
  refine J_aln F 3 dW_757 rfl rfl ?_
  refine J_aln F 1 dW_758 rfl rfl ?_
  refine J_callSW F (As := [.ref (gb G + 0), .ref (gb G + 258)]) (st := []) (K_undo l hl G hC hR hs) wm_147 qst_undo qini qco_undo qhd_undo (by decide) (by decide) ⟨by show kc + 1 ≤ 601024; omega, by show ks + 6 ≤ 7293034; omega⟩ rfl dW_759 (fun k τ hq => ?_)
  refine J_is F (L' := (5, .int k) :: Lw G b x4) dW_762 (by decide) rfl ?_
  refine J_aln F 3 dW_764 rfl rfl ?_
  refine J_callVi F (As := []) (st := []) (C_X9_undo l G (M_undo hq hs)) ly_244 (by decide) rfl rfl wm_149 wn_X9_undo ws_X9_undo wi_X9 wk_X9_undo wh_X9_undo (by decide) (Nat.le_of_ble_eq_true rfl) ⟨by show kc + 1 ≤ 601024; omega, by show ks + 6 ≤ 7293034; omega⟩ rfl dW_765 (fun v ρ hz => ?_)
  obtain ⟨h1, h2, hC2, hR2⟩ := hz
  refine J_is F (L' := (6, .int v) :: (5, .int k) :: Lw G b x4) dW_768 (by decide) rfl ?_
  refine J_aln F 4 dW_770 rfl rfl ?_
  refine J_callVi F (As := []) (st := []) (C_X9_thrown l G (Q := fun r => r = ρ 244 0) (show wp_X9_thrown ρ _ from rfl)) ly_244 (by decide) rfl rfl wm_111 wn_X9_thrown ws_X9_thrown wi_X9 wk_X9_thrown wh_X9_thrown (by decide) (Nat.le_of_ble_eq_true rfl) ⟨by show kc + 1 ≤ 601024; omega, by show ks + 6 ≤ 7293034; omega⟩ rfl dW_771 (fun r ρ2 hz => ?_)
  obtain ⟨rfl, rfl⟩ := hz
  refine J_il F 1 dW_774 rfl ?_
  refine J_ceq F (tgt := 781) dW_776 (by decide) (fun _ => ?_) (fun h => absurd h1 h)
  refine J_il F 1 dW_781 rfl ?_
  have hend := J_goto F (tgt := 1966) dW_798 (by decide) (J_sub (L := (6, .int v) :: (5, .int k) :: Lw G b x4) (L' := Lw G b x4) [2, 3, 4, 5, 6] rfl (J_widen (k := kc + 4) (n := ks + 24) (kc := (kc + 1)) (ks := (ks + 6)) (by omega) (by omega) (K ρ2 _ hC2 hR2 hs.undo)))
  refine J_zne F (tgt := 798) dW_783 (by decide) (fun _ => hend) (fun hk0 => ?_)
  refine J_aln F 3 dW_786 rfl rfl ?_
  refine J_ic F dW_787 ki_0 ?_
  refine J_lald F (i := nI 0) ly_258 (n_in (by decide) (by decide)) dW_788 ?_
  refine J_il F 0 dW_789 rfl ?_
  refine J_i2l F dW_791 ?_
  refine J_lcmp F dW_792 ?_
  refine J_zeq F (tgt := 798) dW_793 (by decide) (fun _ => hend) (fun h => absurd (by rw [show ρ2 258 (nI 0).toNatClampNeg = ρ2 258 0 from rfl, h2 hk0]; exact lcmp_same _) h)
set_option maxRecDepth 20000 in
set_option maxHeartbeats 4000000 in
theorem S_node {p : Program} {l : Launch} {e : Env} {s : State} {m : MethodId} {below : List Frame} {meth : Method} {c : Code} {G : Gp} {b Ln : Nat} {xs : Nat → Int32} {Qm : State → Prop} {x4 : Int32} (hl : l.stackTraces = false) (A : LA p s m meth c G b Ln xs) (hin : ∀ c, c < 6 → vp_in (x4 + nI c) Ln) : LStep p l e s m below meth c G b Qm x4 801 := by
  intro kc ks σ u hkc hks hC hR hs K
  obtain ⟨F, hX, hb, hg⟩ := A
  refine J_aln F 3 dW_801 rfl rfl ?_
  refine J_aln F 4 dW_802 rfl rfl ?_
  refine J_il F 0 dW_803 rfl ?_
  refine J_ic F dW_805 ki_1 ?_
  refine J_iadd F dW_806 ?_
  refine J_sld F hX hb hg (hin 1 (by decide)) dW_807 ?_
  refine J_aln F 4 dW_808 rfl rfl ?_
  refine J_il F 0 dW_809 rfl ?_
  refine J_ic F dW_811 ki_2 ?_
  refine J_iadd F dW_812 ?_
  refine J_sld F hX hb hg (hin 2 (by decide)) dW_813 ?_
  refine J_aln F 1 dW_814 rfl rfl ?_
  refine J_callSW F (As := [.ref (gb G + 0), .int (sc xs x4 1), .int (sc xs x4 2), .ref (gb G + 258)]) (st := []) (K_node l hl G (sc xs x4 1) (sc xs x4 2) hC hR hs) wm_150 qst_node qini qco_node qhd_node (by decide) (by decide) ⟨by show kc + 2 ≤ 601024; omega, by show ks + 12 ≤ 7293034; omega⟩ rfl dW_815 (fun k τ hq => ?_)
  refine J_is F (L' := (5, .int k) :: Lw G b x4) dW_818 (by decide) rfl ?_
  refine J_aln F 3 dW_820 rfl rfl ?_
  refine J_aln F 5 dW_821 rfl rfl ?_
  refine J_il F 1 dW_822 rfl ?_
  refine J_ic F dW_824 ki_1 ?_
  refine J_iadd F dW_825 ?_
  refine J_sld F hX hb hg (hin 1 (by decide)) dW_826 ?_
  refine J_aln F 5 dW_827 rfl rfl ?_
  refine J_il F 1 dW_828 rfl ?_
  refine J_ic F dW_830 ki_2 ?_
  refine J_iadd F dW_831 ?_
  refine J_sld F hX hb hg (hin 2 (by decide)) dW_832 ?_
  refine J_callVi F (As := [.int (sc xs x4 1), .int (sc xs x4 2)]) (st := []) (C_X9_node l G (sc xs x4 1) (sc xs x4 2) (M_node (sc xs x4 1) (sc xs x4 2) hq hs)) ly_244 (by decide) rfl rfl wm_152 wn_X9_node ws_X9_node wi_X9 wk_X9_node wh_X9_node (by decide) (Nat.le_of_ble_eq_true rfl) ⟨by show kc + 2 ≤ 601024; omega, by show ks + 12 ≤ 7293034; omega⟩ rfl dW_833 (fun v ρ hz => ?_)
  obtain ⟨h1, h2, hC2, hR2⟩ := hz
  refine J_is F (L' := (6, .int v) :: (5, .int k) :: Lw G b x4) dW_836 (by decide) rfl ?_
  refine J_aln F 4 dW_838 rfl rfl ?_
  refine J_callVi F (As := []) (st := []) (C_X9_thrown l G (Q := fun r => r = ρ 244 0) (show wp_X9_thrown ρ _ from rfl)) ly_244 (by decide) rfl rfl wm_111 wn_X9_thrown ws_X9_thrown wi_X9 wk_X9_thrown wh_X9_thrown (by decide) (Nat.le_of_ble_eq_true rfl) ⟨by show kc + 2 ≤ 601024; omega, by show ks + 12 ≤ 7293034; omega⟩ rfl dW_839 (fun r ρ2 hz => ?_)
  obtain ⟨rfl, rfl⟩ := hz
  refine J_il F 1 dW_842 rfl ?_
  refine J_ceq F (tgt := 849) dW_844 (by decide) (fun _ => ?_) (fun h => absurd h1 h)
  refine J_il F 1 dW_849 rfl ?_
  have hend := J_goto F (tgt := 1966) dW_866 (by decide) (J_sub (L := (6, .int v) :: (5, .int k) :: Lw G b x4) (L' := Lw G b x4) [2, 3, 4, 5, 6] rfl (J_widen (k := kc + 4) (n := ks + 24) (kc := (kc + 2)) (ks := (ks + 12)) (by omega) (by omega) (K ρ2 _ hC2 hR2 (hs.oNode (sc xs x4 1) (sc xs x4 2)))))
  refine J_zne F (tgt := 866) dW_851 (by decide) (fun _ => hend) (fun hk0 => ?_)
  refine J_aln F 3 dW_854 rfl rfl ?_
  refine J_ic F dW_855 ki_0 ?_
  refine J_lald F (i := nI 0) ly_258 (n_in (by decide) (by decide)) dW_856 ?_
  refine J_il F 0 dW_857 rfl ?_
  refine J_i2l F dW_859 ?_
  refine J_lcmp F dW_860 ?_
  refine J_zeq F (tgt := 866) dW_861 (by decide) (fun _ => hend) (fun h => absurd (by rw [show ρ2 258 (nI 0).toNatClampNeg = ρ2 258 0 from rfl, h2 hk0]; exact lcmp_same _) h)
set_option maxRecDepth 20000 in
set_option maxHeartbeats 4000000 in
theorem S_held {p : Program} {l : Launch} {e : Env} {s : State} {m : MethodId} {below : List Frame} {meth : Method} {c : Code} {G : Gp} {b Ln : Nat} {xs : Nat → Int32} {Qm : State → Prop} {x4 : Int32} (hl : l.stackTraces = false) (A : LA p s m meth c G b Ln xs) (hin : ∀ c, c < 6 → vp_in (x4 + nI c) Ln) : LStep p l e s m below meth c G b Qm x4 869 := by
  intro kc ks σ u hkc hks hC hR hs K
  obtain ⟨F, hX, hb, hg⟩ := A
  refine J_aln F 3 dW_869 rfl rfl ?_
  refine J_aln F 4 dW_870 rfl rfl ?_
  refine J_il F 0 dW_871 rfl ?_
  refine J_ic F dW_873 ki_1 ?_
  refine J_iadd F dW_874 ?_
  refine J_sld F hX hb hg (hin 1 (by decide)) dW_875 ?_
  refine J_aln F 4 dW_876 rfl rfl ?_
  refine J_il F 0 dW_877 rfl ?_
  refine J_ic F dW_879 ki_2 ?_
  refine J_iadd F dW_880 ?_
  refine J_sld F hX hb hg (hin 2 (by decide)) dW_881 ?_
  refine J_aln F 4 dW_882 rfl rfl ?_
  refine J_il F 0 dW_883 rfl ?_
  refine J_ic F dW_885 ki_3 ?_
  refine J_iadd F dW_886 ?_
  refine J_sld F hX hb hg (hin 3 (by decide)) dW_887 ?_
  refine J_aln F 1 dW_888 rfl rfl ?_
  refine J_callSW F (As := [.ref (gb G + 0), .int (sc xs x4 1), .int (sc xs x4 2), .int (sc xs x4 3), .ref (gb G + 258)]) (st := []) (K_held l hl G (sc xs x4 1) (sc xs x4 2) (sc xs x4 3) hC hR hs) wm_153 qst_held qini qco_held qhd_held (by decide) (by decide) ⟨by show kc + 3 ≤ 601024; omega, by show ks + 18 ≤ 7293034; omega⟩ rfl dW_889 (fun k τ hq => ?_)
  refine J_is F (L' := (5, .int k) :: Lw G b x4) dW_892 (by decide) rfl ?_
  refine J_aln F 3 dW_894 rfl rfl ?_
  refine J_aln F 5 dW_895 rfl rfl ?_
  refine J_il F 1 dW_896 rfl ?_
  refine J_ic F dW_898 ki_1 ?_
  refine J_iadd F dW_899 ?_
  refine J_sld F hX hb hg (hin 1 (by decide)) dW_900 ?_
  refine J_aln F 5 dW_901 rfl rfl ?_
  refine J_il F 1 dW_902 rfl ?_
  refine J_ic F dW_904 ki_2 ?_
  refine J_iadd F dW_905 ?_
  refine J_sld F hX hb hg (hin 2 (by decide)) dW_906 ?_
  refine J_aln F 5 dW_907 rfl rfl ?_
  refine J_il F 1 dW_908 rfl ?_
  refine J_ic F dW_910 ki_3 ?_
  refine J_iadd F dW_911 ?_
  refine J_sld F hX hb hg (hin 3 (by decide)) dW_912 ?_
  refine J_callVi F (As := [.int (sc xs x4 1), .int (sc xs x4 2), .int (sc xs x4 3)]) (st := []) (C_X9_held l G (sc xs x4 1) (sc xs x4 2) (sc xs x4 3) (M_held (sc xs x4 1) (sc xs x4 2) (sc xs x4 3) hq hs)) ly_244 (by decide) rfl rfl wm_156 wn_X9_held ws_X9_held wi_X9 wk_X9_held wh_X9_held (by decide) (Nat.le_of_ble_eq_true rfl) ⟨by show kc + 3 ≤ 601024; omega, by show ks + 18 ≤ 7293034; omega⟩ rfl dW_913 (fun v ρ hz => ?_)
  obtain ⟨h1, h2, hC2, hR2⟩ := hz
  refine J_is F (L' := (6, .int v) :: (5, .int k) :: Lw G b x4) dW_916 (by decide) rfl ?_
  refine J_aln F 4 dW_918 rfl rfl ?_
  refine J_callVi F (As := []) (st := []) (C_X9_thrown l G (Q := fun r => r = ρ 244 0) (show wp_X9_thrown ρ _ from rfl)) ly_244 (by decide) rfl rfl wm_111 wn_X9_thrown ws_X9_thrown wi_X9 wk_X9_thrown wh_X9_thrown (by decide) (Nat.le_of_ble_eq_true rfl) ⟨by show kc + 3 ≤ 601024; omega, by show ks + 18 ≤ 7293034; omega⟩ rfl dW_919 (fun r ρ2 hz => ?_)
  obtain ⟨rfl, rfl⟩ := hz
  refine J_il F 1 dW_922 rfl ?_
  refine J_ceq F (tgt := 929) dW_924 (by decide) (fun _ => ?_) (fun h => absurd h1 h)
  refine J_il F 1 dW_929 rfl ?_
  have hend := J_goto F (tgt := 1966) dW_946 (by decide) (J_sub (L := (6, .int v) :: (5, .int k) :: Lw G b x4) (L' := Lw G b x4) [2, 3, 4, 5, 6] rfl (J_widen (k := kc + 4) (n := ks + 24) (kc := (kc + 3)) (ks := (ks + 18)) (by omega) (by omega) (K ρ2 _ hC2 hR2 (hs.oHeld (sc xs x4 1) (sc xs x4 2) (sc xs x4 3)))))
  refine J_zne F (tgt := 946) dW_931 (by decide) (fun _ => hend) (fun hk0 => ?_)
  refine J_aln F 3 dW_934 rfl rfl ?_
  refine J_ic F dW_935 ki_0 ?_
  refine J_lald F (i := nI 0) ly_258 (n_in (by decide) (by decide)) dW_936 ?_
  refine J_il F 0 dW_937 rfl ?_
  refine J_i2l F dW_939 ?_
  refine J_lcmp F dW_940 ?_
  refine J_zeq F (tgt := 946) dW_941 (by decide) (fun _ => hend) (fun h => absurd (by rw [show ρ2 258 (nI 0).toNatClampNeg = ρ2 258 0 from rfl, h2 hk0]; exact lcmp_same _) h)
set_option maxRecDepth 20000 in
set_option maxHeartbeats 4000000 in
theorem S_zone {p : Program} {l : Launch} {e : Env} {s : State} {m : MethodId} {below : List Frame} {meth : Method} {c : Code} {G : Gp} {b Ln : Nat} {xs : Nat → Int32} {Qm : State → Prop} {x4 : Int32} (hl : l.stackTraces = false) (A : LA p s m meth c G b Ln xs) (hin : ∀ c, c < 6 → vp_in (x4 + nI c) Ln) : LStep p l e s m below meth c G b Qm x4 949 := by
  intro kc ks σ u hkc hks hC hR hs K
  obtain ⟨F, hX, hb, hg⟩ := A
  refine J_aln F 3 dW_949 rfl rfl ?_
  refine J_aln F 4 dW_950 rfl rfl ?_
  refine J_il F 0 dW_951 rfl ?_
  refine J_ic F dW_953 ki_1 ?_
  refine J_iadd F dW_954 ?_
  refine J_sld F hX hb hg (hin 1 (by decide)) dW_955 ?_
  refine J_aln F 4 dW_956 rfl rfl ?_
  refine J_il F 0 dW_957 rfl ?_
  refine J_ic F dW_959 ki_2 ?_
  refine J_iadd F dW_960 ?_
  refine J_sld F hX hb hg (hin 2 (by decide)) dW_961 ?_
  refine J_aln F 4 dW_962 rfl rfl ?_
  refine J_il F 0 dW_963 rfl ?_
  refine J_ic F dW_965 ki_3 ?_
  refine J_iadd F dW_966 ?_
  refine J_sld F hX hb hg (hin 3 (by decide)) dW_967 ?_
  refine J_aln F 1 dW_968 rfl rfl ?_
  refine J_callSW F (As := [.ref (gb G + 0), .int (sc xs x4 1), .int (sc xs x4 2), .int (sc xs x4 3), .ref (gb G + 258)]) (st := []) (K_zone l hl G (sc xs x4 1) (sc xs x4 2) (sc xs x4 3) hC hR hs) wm_157 qst_zone qini qco_zone qhd_zone (by decide) (by decide) ⟨by show kc + 2 ≤ 601024; omega, by show ks + 12 ≤ 7293034; omega⟩ rfl dW_969 (fun k τ hq => ?_)
  refine J_is F (L' := (5, .int k) :: Lw G b x4) dW_972 (by decide) rfl ?_
  refine J_aln F 3 dW_974 rfl rfl ?_
  refine J_aln F 5 dW_975 rfl rfl ?_
  refine J_il F 1 dW_976 rfl ?_
  refine J_ic F dW_978 ki_1 ?_
  refine J_iadd F dW_979 ?_
  refine J_sld F hX hb hg (hin 1 (by decide)) dW_980 ?_
  refine J_aln F 5 dW_981 rfl rfl ?_
  refine J_il F 1 dW_982 rfl ?_
  refine J_ic F dW_984 ki_2 ?_
  refine J_iadd F dW_985 ?_
  refine J_sld F hX hb hg (hin 2 (by decide)) dW_986 ?_
  refine J_aln F 5 dW_987 rfl rfl ?_
  refine J_il F 1 dW_988 rfl ?_
  refine J_ic F dW_990 ki_3 ?_
  refine J_iadd F dW_991 ?_
  refine J_sld F hX hb hg (hin 3 (by decide)) dW_992 ?_
  refine J_callVi F (As := [.int (sc xs x4 1), .int (sc xs x4 2), .int (sc xs x4 3)]) (st := []) (C_X9_zone l G (sc xs x4 1) (sc xs x4 2) (sc xs x4 3) (M_zone (sc xs x4 1) (sc xs x4 2) (sc xs x4 3) hq hs)) ly_244 (by decide) rfl rfl wm_159 wn_X9_zone ws_X9_zone wi_X9 wk_X9_zone wh_X9_zone (by decide) (Nat.le_of_ble_eq_true rfl) ⟨by show kc + 2 ≤ 601024; omega, by show ks + 12 ≤ 7293034; omega⟩ rfl dW_993 (fun v ρ hz => ?_)
  obtain ⟨h1, h2, hC2, hR2⟩ := hz
  refine J_is F (L' := (6, .int v) :: (5, .int k) :: Lw G b x4) dW_996 (by decide) rfl ?_
  refine J_aln F 4 dW_998 rfl rfl ?_
  refine J_callVi F (As := []) (st := []) (C_X9_thrown l G (Q := fun r => r = ρ 244 0) (show wp_X9_thrown ρ _ from rfl)) ly_244 (by decide) rfl rfl wm_111 wn_X9_thrown ws_X9_thrown wi_X9 wk_X9_thrown wh_X9_thrown (by decide) (Nat.le_of_ble_eq_true rfl) ⟨by show kc + 2 ≤ 601024; omega, by show ks + 12 ≤ 7293034; omega⟩ rfl dW_999 (fun r ρ2 hz => ?_)
  obtain ⟨rfl, rfl⟩ := hz
  refine J_il F 1 dW_1002 rfl ?_
  refine J_ceq F (tgt := 1009) dW_1004 (by decide) (fun _ => ?_) (fun h => absurd h1 h)
  refine J_il F 1 dW_1009 rfl ?_
  have hend := J_goto F (tgt := 1966) dW_1026 (by decide) (J_sub (L := (6, .int v) :: (5, .int k) :: Lw G b x4) (L' := Lw G b x4) [2, 3, 4, 5, 6] rfl (J_widen (k := kc + 4) (n := ks + 24) (kc := (kc + 2)) (ks := (ks + 12)) (by omega) (by omega) (K ρ2 _ hC2 hR2 (hs.oZone (sc xs x4 1) (sc xs x4 2) (sc xs x4 3)))))
  refine J_zne F (tgt := 1026) dW_1011 (by decide) (fun _ => hend) (fun hk0 => ?_)
  refine J_aln F 3 dW_1014 rfl rfl ?_
  refine J_ic F dW_1015 ki_0 ?_
  refine J_lald F (i := nI 0) ly_258 (n_in (by decide) (by decide)) dW_1016 ?_
  refine J_il F 0 dW_1017 rfl ?_
  refine J_i2l F dW_1019 ?_
  refine J_lcmp F dW_1020 ?_
  refine J_zeq F (tgt := 1026) dW_1021 (by decide) (fun _ => hend) (fun h => absurd (by rw [show ρ2 258 (nI 0).toNatClampNeg = ρ2 258 0 from rfl, h2 hk0]; exact lcmp_same _) h)
set_option maxRecDepth 20000 in
set_option maxHeartbeats 4000000 in
theorem S_box {p : Program} {l : Launch} {e : Env} {s : State} {m : MethodId} {below : List Frame} {meth : Method} {c : Code} {G : Gp} {b Ln : Nat} {xs : Nat → Int32} {Qm : State → Prop} {x4 : Int32} (hl : l.stackTraces = false) (A : LA p s m meth c G b Ln xs) (hin : ∀ c, c < 6 → vp_in (x4 + nI c) Ln) : LStep p l e s m below meth c G b Qm x4 1029 := by
  intro kc ks σ u hkc hks hC hR hs K
  obtain ⟨F, hX, hb, hg⟩ := A
  refine J_aln F 3 dW_1029 rfl rfl ?_
  refine J_aln F 4 dW_1030 rfl rfl ?_
  refine J_il F 0 dW_1031 rfl ?_
  refine J_ic F dW_1033 ki_1 ?_
  refine J_iadd F dW_1034 ?_
  refine J_sld F hX hb hg (hin 1 (by decide)) dW_1035 ?_
  refine J_aln F 4 dW_1036 rfl rfl ?_
  refine J_il F 0 dW_1037 rfl ?_
  refine J_ic F dW_1039 ki_2 ?_
  refine J_iadd F dW_1040 ?_
  refine J_sld F hX hb hg (hin 2 (by decide)) dW_1041 ?_
  refine J_aln F 1 dW_1042 rfl rfl ?_
  refine J_callSW F (As := [.ref (gb G + 0), .int (sc xs x4 1), .int (sc xs x4 2), .ref (gb G + 258)]) (st := []) (K_box l hl G (sc xs x4 1) (sc xs x4 2) hC hR hs) wm_160 qst_box qini qco_box qhd_box (by decide) (by decide) ⟨by show kc + 2 ≤ 601024; omega, by show ks + 12 ≤ 7293034; omega⟩ rfl dW_1043 (fun k τ hq => ?_)
  refine J_is F (L' := (5, .int k) :: Lw G b x4) dW_1046 (by decide) rfl ?_
  refine J_aln F 3 dW_1048 rfl rfl ?_
  refine J_aln F 5 dW_1049 rfl rfl ?_
  refine J_il F 1 dW_1050 rfl ?_
  refine J_ic F dW_1052 ki_1 ?_
  refine J_iadd F dW_1053 ?_
  refine J_sld F hX hb hg (hin 1 (by decide)) dW_1054 ?_
  refine J_aln F 5 dW_1055 rfl rfl ?_
  refine J_il F 1 dW_1056 rfl ?_
  refine J_ic F dW_1058 ki_2 ?_
  refine J_iadd F dW_1059 ?_
  refine J_sld F hX hb hg (hin 2 (by decide)) dW_1060 ?_
  refine J_callVi F (As := [.int (sc xs x4 1), .int (sc xs x4 2)]) (st := []) (C_X9_box l G (sc xs x4 1) (sc xs x4 2) (M_box (sc xs x4 1) (sc xs x4 2) hq hs)) ly_244 (by decide) rfl rfl wm_162 wn_X9_box ws_X9_box wi_X9 wk_X9_box wh_X9_box (by decide) (Nat.le_of_ble_eq_true rfl) ⟨by show kc + 2 ≤ 601024; omega, by show ks + 12 ≤ 7293034; omega⟩ rfl dW_1061 (fun v ρ hz => ?_)
  obtain ⟨h1, h2, hC2, hR2⟩ := hz
  refine J_is F (L' := (6, .int v) :: (5, .int k) :: Lw G b x4) dW_1064 (by decide) rfl ?_
  refine J_aln F 4 dW_1066 rfl rfl ?_
  refine J_callVi F (As := []) (st := []) (C_X9_thrown l G (Q := fun r => r = ρ 244 0) (show wp_X9_thrown ρ _ from rfl)) ly_244 (by decide) rfl rfl wm_111 wn_X9_thrown ws_X9_thrown wi_X9 wk_X9_thrown wh_X9_thrown (by decide) (Nat.le_of_ble_eq_true rfl) ⟨by show kc + 2 ≤ 601024; omega, by show ks + 12 ≤ 7293034; omega⟩ rfl dW_1067 (fun r ρ2 hz => ?_)
  obtain ⟨rfl, rfl⟩ := hz
  refine J_il F 1 dW_1070 rfl ?_
  refine J_ceq F (tgt := 1077) dW_1072 (by decide) (fun _ => ?_) (fun h => absurd h1 h)
  refine J_il F 1 dW_1077 rfl ?_
  have hend := J_goto F (tgt := 1966) dW_1094 (by decide) (J_sub (L := (6, .int v) :: (5, .int k) :: Lw G b x4) (L' := Lw G b x4) [2, 3, 4, 5, 6] rfl (J_widen (k := kc + 4) (n := ks + 24) (kc := (kc + 2)) (ks := (ks + 12)) (by omega) (by omega) (K ρ2 _ hC2 hR2 (hs.oBox (sc xs x4 1) (sc xs x4 2)))))
  refine J_zne F (tgt := 1094) dW_1079 (by decide) (fun _ => hend) (fun hk0 => ?_)
  refine J_aln F 3 dW_1082 rfl rfl ?_
  refine J_ic F dW_1083 ki_0 ?_
  refine J_lald F (i := nI 0) ly_258 (n_in (by decide) (by decide)) dW_1084 ?_
  refine J_il F 0 dW_1085 rfl ?_
  refine J_i2l F dW_1087 ?_
  refine J_lcmp F dW_1088 ?_
  refine J_zeq F (tgt := 1094) dW_1089 (by decide) (fun _ => hend) (fun h => absurd (by rw [show ρ2 258 (nI 0).toNatClampNeg = ρ2 258 0 from rfl, h2 hk0]; exact lcmp_same _) h)
set_option maxRecDepth 20000 in
set_option maxHeartbeats 4000000 in
theorem S_cell {p : Program} {l : Launch} {e : Env} {s : State} {m : MethodId} {below : List Frame} {meth : Method} {c : Code} {G : Gp} {b Ln : Nat} {xs : Nat → Int32} {Qm : State → Prop} {x4 : Int32} (hl : l.stackTraces = false) (A : LA p s m meth c G b Ln xs) (hin : ∀ c, c < 6 → vp_in (x4 + nI c) Ln) : LStep p l e s m below meth c G b Qm x4 1097 := by
  intro kc ks σ u hkc hks hC hR hs K
  obtain ⟨F, hX, hb, hg⟩ := A
  refine J_aln F 3 dW_1097 rfl rfl ?_
  refine J_aln F 4 dW_1098 rfl rfl ?_
  refine J_il F 0 dW_1099 rfl ?_
  refine J_ic F dW_1101 ki_1 ?_
  refine J_iadd F dW_1102 ?_
  refine J_sld F hX hb hg (hin 1 (by decide)) dW_1103 ?_
  refine J_aln F 4 dW_1104 rfl rfl ?_
  refine J_il F 0 dW_1105 rfl ?_
  refine J_ic F dW_1107 ki_2 ?_
  refine J_iadd F dW_1108 ?_
  refine J_sld F hX hb hg (hin 2 (by decide)) dW_1109 ?_
  refine J_aln F 4 dW_1110 rfl rfl ?_
  refine J_il F 0 dW_1111 rfl ?_
  refine J_ic F dW_1113 ki_3 ?_
  refine J_iadd F dW_1114 ?_
  refine J_sld F hX hb hg (hin 3 (by decide)) dW_1115 ?_
  refine J_aln F 4 dW_1116 rfl rfl ?_
  refine J_il F 0 dW_1117 rfl ?_
  refine J_ic F dW_1119 ki_4 ?_
  refine J_iadd F dW_1120 ?_
  refine J_sld F hX hb hg (hin 4 (by decide)) dW_1121 ?_
  refine J_aln F 1 dW_1122 rfl rfl ?_
  refine J_callSW F (As := [.ref (gb G + 0), .int (sc xs x4 1), .int (sc xs x4 2), .int (sc xs x4 3), .int (sc xs x4 4), .ref (gb G + 258)]) (st := []) (K_cell l hl G (sc xs x4 1) (sc xs x4 2) (sc xs x4 3) (sc xs x4 4) hC hR hs) wm_163 qst_cell qini qco_cell qhd_cell (by decide) (by decide) ⟨by show kc + 3 ≤ 601024; omega, by show ks + 18 ≤ 7293034; omega⟩ rfl dW_1123 (fun k τ hq => ?_)
  refine J_is F (L' := (5, .int k) :: Lw G b x4) dW_1126 (by decide) rfl ?_
  refine J_aln F 3 dW_1128 rfl rfl ?_
  refine J_aln F 5 dW_1129 rfl rfl ?_
  refine J_il F 1 dW_1130 rfl ?_
  refine J_ic F dW_1132 ki_1 ?_
  refine J_iadd F dW_1133 ?_
  refine J_sld F hX hb hg (hin 1 (by decide)) dW_1134 ?_
  refine J_aln F 5 dW_1135 rfl rfl ?_
  refine J_il F 1 dW_1136 rfl ?_
  refine J_ic F dW_1138 ki_2 ?_
  refine J_iadd F dW_1139 ?_
  refine J_sld F hX hb hg (hin 2 (by decide)) dW_1140 ?_
  refine J_aln F 5 dW_1141 rfl rfl ?_
  refine J_il F 1 dW_1142 rfl ?_
  refine J_ic F dW_1144 ki_3 ?_
  refine J_iadd F dW_1145 ?_
  refine J_sld F hX hb hg (hin 3 (by decide)) dW_1146 ?_
  refine J_aln F 5 dW_1147 rfl rfl ?_
  refine J_il F 1 dW_1148 rfl ?_
  refine J_ic F dW_1150 ki_4 ?_
  refine J_iadd F dW_1151 ?_
  refine J_sld F hX hb hg (hin 4 (by decide)) dW_1152 ?_
  refine J_callVi F (As := [.int (sc xs x4 1), .int (sc xs x4 2), .int (sc xs x4 3), .int (sc xs x4 4)]) (st := []) (C_X9_cell l G (sc xs x4 1) (sc xs x4 2) (sc xs x4 3) (sc xs x4 4) (M_cell (sc xs x4 1) (sc xs x4 2) (sc xs x4 3) (sc xs x4 4) hq hs)) ly_244 (by decide) rfl rfl wm_165 wn_X9_cell ws_X9_cell wi_X9 wk_X9_cell wh_X9_cell (by decide) (Nat.le_of_ble_eq_true rfl) ⟨by show kc + 3 ≤ 601024; omega, by show ks + 18 ≤ 7293034; omega⟩ rfl dW_1153 (fun v ρ hz => ?_)
  obtain ⟨h1, h2, hC2, hR2⟩ := hz
  refine J_is F (L' := (6, .int v) :: (5, .int k) :: Lw G b x4) dW_1156 (by decide) rfl ?_
  refine J_aln F 4 dW_1158 rfl rfl ?_
  refine J_callVi F (As := []) (st := []) (C_X9_thrown l G (Q := fun r => r = ρ 244 0) (show wp_X9_thrown ρ _ from rfl)) ly_244 (by decide) rfl rfl wm_111 wn_X9_thrown ws_X9_thrown wi_X9 wk_X9_thrown wh_X9_thrown (by decide) (Nat.le_of_ble_eq_true rfl) ⟨by show kc + 3 ≤ 601024; omega, by show ks + 18 ≤ 7293034; omega⟩ rfl dW_1159 (fun r ρ2 hz => ?_)
  obtain ⟨rfl, rfl⟩ := hz
  refine J_il F 1 dW_1162 rfl ?_
  refine J_ceq F (tgt := 1169) dW_1164 (by decide) (fun _ => ?_) (fun h => absurd h1 h)
  refine J_il F 1 dW_1169 rfl ?_
  have hend := J_goto F (tgt := 1966) dW_1186 (by decide) (J_sub (L := (6, .int v) :: (5, .int k) :: Lw G b x4) (L' := Lw G b x4) [2, 3, 4, 5, 6] rfl (J_widen (k := kc + 4) (n := ks + 24) (kc := (kc + 3)) (ks := (ks + 18)) (by omega) (by omega) (K ρ2 _ hC2 hR2 (hs.oCell (sc xs x4 1) (sc xs x4 2) (sc xs x4 3) (sc xs x4 4)))))
  refine J_zne F (tgt := 1186) dW_1171 (by decide) (fun _ => hend) (fun hk0 => ?_)
  refine J_aln F 3 dW_1174 rfl rfl ?_
  refine J_ic F dW_1175 ki_0 ?_
  refine J_lald F (i := nI 0) ly_258 (n_in (by decide) (by decide)) dW_1176 ?_
  refine J_il F 0 dW_1177 rfl ?_
  refine J_i2l F dW_1179 ?_
  refine J_lcmp F dW_1180 ?_
  refine J_zeq F (tgt := 1186) dW_1181 (by decide) (fun _ => hend) (fun h => absurd (by rw [show ρ2 258 (nI 0).toNatClampNeg = ρ2 258 0 from rfl, h2 hk0]; exact lcmp_same _) h)
set_option maxRecDepth 20000 in
set_option maxHeartbeats 4000000 in
theorem S_heir {p : Program} {l : Launch} {e : Env} {s : State} {m : MethodId} {below : List Frame} {meth : Method} {c : Code} {G : Gp} {b Ln : Nat} {xs : Nat → Int32} {Qm : State → Prop} {x4 : Int32} (hl : l.stackTraces = false) (A : LA p s m meth c G b Ln xs) (hin : ∀ c, c < 6 → vp_in (x4 + nI c) Ln) : LStep p l e s m below meth c G b Qm x4 1189 := by
  intro kc ks σ u hkc hks hC hR hs K
  obtain ⟨F, hX, hb, hg⟩ := A
  refine J_aln F 3 dW_1189 rfl rfl ?_
  refine J_aln F 4 dW_1190 rfl rfl ?_
  refine J_il F 0 dW_1191 rfl ?_
  refine J_ic F dW_1193 ki_1 ?_
  refine J_iadd F dW_1194 ?_
  refine J_sld F hX hb hg (hin 1 (by decide)) dW_1195 ?_
  refine J_aln F 4 dW_1196 rfl rfl ?_
  refine J_il F 0 dW_1197 rfl ?_
  refine J_ic F dW_1199 ki_2 ?_
  refine J_iadd F dW_1200 ?_
  refine J_sld F hX hb hg (hin 2 (by decide)) dW_1201 ?_
  refine J_aln F 4 dW_1202 rfl rfl ?_
  refine J_il F 0 dW_1203 rfl ?_
  refine J_ic F dW_1205 ki_3 ?_
  refine J_iadd F dW_1206 ?_
  refine J_sld F hX hb hg (hin 3 (by decide)) dW_1207 ?_
  refine J_aln F 1 dW_1208 rfl rfl ?_
  refine J_callSW F (As := [.ref (gb G + 0), .int (sc xs x4 1), .int (sc xs x4 2), .int (sc xs x4 3), .ref (gb G + 258)]) (st := []) (K_heir l hl G (sc xs x4 1) (sc xs x4 2) (sc xs x4 3) hC hR hs) wm_166 qst_heir qini qco_heir qhd_heir (by decide) (by decide) ⟨by show kc + 2 ≤ 601024; omega, by show ks + 12 ≤ 7293034; omega⟩ rfl dW_1209 (fun k τ hq => ?_)
  refine J_is F (L' := (5, .int k) :: Lw G b x4) dW_1212 (by decide) rfl ?_
  refine J_aln F 3 dW_1214 rfl rfl ?_
  refine J_aln F 5 dW_1215 rfl rfl ?_
  refine J_il F 1 dW_1216 rfl ?_
  refine J_ic F dW_1218 ki_1 ?_
  refine J_iadd F dW_1219 ?_
  refine J_sld F hX hb hg (hin 1 (by decide)) dW_1220 ?_
  refine J_aln F 5 dW_1221 rfl rfl ?_
  refine J_il F 1 dW_1222 rfl ?_
  refine J_ic F dW_1224 ki_2 ?_
  refine J_iadd F dW_1225 ?_
  refine J_sld F hX hb hg (hin 2 (by decide)) dW_1226 ?_
  refine J_aln F 5 dW_1227 rfl rfl ?_
  refine J_il F 1 dW_1228 rfl ?_
  refine J_ic F dW_1230 ki_3 ?_
  refine J_iadd F dW_1231 ?_
  refine J_sld F hX hb hg (hin 3 (by decide)) dW_1232 ?_
  refine J_callVi F (As := [.int (sc xs x4 1), .int (sc xs x4 2), .int (sc xs x4 3)]) (st := []) (C_X9_heir l G (sc xs x4 1) (sc xs x4 2) (sc xs x4 3) (M_heir (sc xs x4 1) (sc xs x4 2) (sc xs x4 3) hq hs)) ly_244 (by decide) rfl rfl wm_168 wn_X9_heir ws_X9_heir wi_X9 wk_X9_heir wh_X9_heir (by decide) (Nat.le_of_ble_eq_true rfl) ⟨by show kc + 2 ≤ 601024; omega, by show ks + 12 ≤ 7293034; omega⟩ rfl dW_1233 (fun v ρ hz => ?_)
  obtain ⟨h1, h2, hC2, hR2⟩ := hz
  refine J_is F (L' := (6, .int v) :: (5, .int k) :: Lw G b x4) dW_1236 (by decide) rfl ?_
  refine J_aln F 4 dW_1238 rfl rfl ?_
  refine J_callVi F (As := []) (st := []) (C_X9_thrown l G (Q := fun r => r = ρ 244 0) (show wp_X9_thrown ρ _ from rfl)) ly_244 (by decide) rfl rfl wm_111 wn_X9_thrown ws_X9_thrown wi_X9 wk_X9_thrown wh_X9_thrown (by decide) (Nat.le_of_ble_eq_true rfl) ⟨by show kc + 2 ≤ 601024; omega, by show ks + 12 ≤ 7293034; omega⟩ rfl dW_1239 (fun r ρ2 hz => ?_)
  obtain ⟨rfl, rfl⟩ := hz
  refine J_il F 1 dW_1242 rfl ?_
  refine J_ceq F (tgt := 1249) dW_1244 (by decide) (fun _ => ?_) (fun h => absurd h1 h)
  refine J_il F 1 dW_1249 rfl ?_
  have hend := J_goto F (tgt := 1966) dW_1266 (by decide) (J_sub (L := (6, .int v) :: (5, .int k) :: Lw G b x4) (L' := Lw G b x4) [2, 3, 4, 5, 6] rfl (J_widen (k := kc + 4) (n := ks + 24) (kc := (kc + 2)) (ks := (ks + 12)) (by omega) (by omega) (K ρ2 _ hC2 hR2 (hs.oHeir (sc xs x4 1) (sc xs x4 2) (sc xs x4 3)))))
  refine J_zne F (tgt := 1266) dW_1251 (by decide) (fun _ => hend) (fun hk0 => ?_)
  refine J_aln F 3 dW_1254 rfl rfl ?_
  refine J_ic F dW_1255 ki_0 ?_
  refine J_lald F (i := nI 0) ly_258 (n_in (by decide) (by decide)) dW_1256 ?_
  refine J_il F 0 dW_1257 rfl ?_
  refine J_i2l F dW_1259 ?_
  refine J_lcmp F dW_1260 ?_
  refine J_zeq F (tgt := 1266) dW_1261 (by decide) (fun _ => hend) (fun h => absurd (by rw [show ρ2 258 (nI 0).toNatClampNeg = ρ2 258 0 from rfl, h2 hk0]; exact lcmp_same _) h)
set_option maxRecDepth 20000 in
set_option maxHeartbeats 4000000 in
theorem S_key {p : Program} {l : Launch} {e : Env} {s : State} {m : MethodId} {below : List Frame} {meth : Method} {c : Code} {G : Gp} {b Ln : Nat} {xs : Nat → Int32} {Qm : State → Prop} {x4 : Int32} (hl : l.stackTraces = false) (A : LA p s m meth c G b Ln xs) (hin : ∀ c, c < 6 → vp_in (x4 + nI c) Ln) : LStep p l e s m below meth c G b Qm x4 1269 := by
  intro kc ks σ u hkc hks hC hR hs K
  obtain ⟨F, hX, hb, hg⟩ := A
  refine J_aln F 3 dW_1269 rfl rfl ?_
  refine J_aln F 4 dW_1270 rfl rfl ?_
  refine J_il F 0 dW_1271 rfl ?_
  refine J_ic F dW_1273 ki_1 ?_
  refine J_iadd F dW_1274 ?_
  refine J_sld F hX hb hg (hin 1 (by decide)) dW_1275 ?_
  refine J_aln F 4 dW_1276 rfl rfl ?_
  refine J_il F 0 dW_1277 rfl ?_
  refine J_ic F dW_1279 ki_2 ?_
  refine J_iadd F dW_1280 ?_
  refine J_sld F hX hb hg (hin 2 (by decide)) dW_1281 ?_
  refine J_aln F 1 dW_1282 rfl rfl ?_
  refine J_callSW F (As := [.ref (gb G + 0), .int (sc xs x4 1), .int (sc xs x4 2), .ref (gb G + 258)]) (st := []) (K_key l hl G (sc xs x4 1) (sc xs x4 2) hC hR hs) wm_169 qst_key qini qco_key qhd_key (by decide) (by decide) ⟨by show kc + 2 ≤ 601024; omega, by show ks + 12 ≤ 7293034; omega⟩ rfl dW_1283 (fun k τ hq => ?_)
  refine J_is F (L' := (5, .int k) :: Lw G b x4) dW_1286 (by decide) rfl ?_
  refine J_aln F 3 dW_1288 rfl rfl ?_
  refine J_aln F 5 dW_1289 rfl rfl ?_
  refine J_il F 1 dW_1290 rfl ?_
  refine J_ic F dW_1292 ki_1 ?_
  refine J_iadd F dW_1293 ?_
  refine J_sld F hX hb hg (hin 1 (by decide)) dW_1294 ?_
  refine J_aln F 5 dW_1295 rfl rfl ?_
  refine J_il F 1 dW_1296 rfl ?_
  refine J_ic F dW_1298 ki_2 ?_
  refine J_iadd F dW_1299 ?_
  refine J_sld F hX hb hg (hin 2 (by decide)) dW_1300 ?_
  refine J_callVi F (As := [.int (sc xs x4 1), .int (sc xs x4 2)]) (st := []) (C_X9_key l G (sc xs x4 1) (sc xs x4 2) (M_key (sc xs x4 1) (sc xs x4 2) hq hs)) ly_244 (by decide) rfl rfl wm_171 wn_X9_key ws_X9_key wi_X9 wk_X9_key wh_X9_key (by decide) (Nat.le_of_ble_eq_true rfl) ⟨by show kc + 2 ≤ 601024; omega, by show ks + 12 ≤ 7293034; omega⟩ rfl dW_1301 (fun v ρ hz => ?_)
  obtain ⟨h1, h2, hC2, hR2⟩ := hz
  refine J_is F (L' := (6, .int v) :: (5, .int k) :: Lw G b x4) dW_1304 (by decide) rfl ?_
  refine J_aln F 4 dW_1306 rfl rfl ?_
  refine J_callVi F (As := []) (st := []) (C_X9_thrown l G (Q := fun r => r = ρ 244 0) (show wp_X9_thrown ρ _ from rfl)) ly_244 (by decide) rfl rfl wm_111 wn_X9_thrown ws_X9_thrown wi_X9 wk_X9_thrown wh_X9_thrown (by decide) (Nat.le_of_ble_eq_true rfl) ⟨by show kc + 2 ≤ 601024; omega, by show ks + 12 ≤ 7293034; omega⟩ rfl dW_1307 (fun r ρ2 hz => ?_)
  obtain ⟨rfl, rfl⟩ := hz
  refine J_il F 1 dW_1310 rfl ?_
  refine J_ceq F (tgt := 1317) dW_1312 (by decide) (fun _ => ?_) (fun h => absurd h1 h)
  refine J_il F 1 dW_1317 rfl ?_
  have hend := J_goto F (tgt := 1966) dW_1334 (by decide) (J_sub (L := (6, .int v) :: (5, .int k) :: Lw G b x4) (L' := Lw G b x4) [2, 3, 4, 5, 6] rfl (J_widen (k := kc + 4) (n := ks + 24) (kc := (kc + 2)) (ks := (ks + 12)) (by omega) (by omega) (K ρ2 _ hC2 hR2 (hs.oKey (sc xs x4 1) (sc xs x4 2)))))
  refine J_zne F (tgt := 1334) dW_1319 (by decide) (fun _ => hend) (fun hk0 => ?_)
  refine J_aln F 3 dW_1322 rfl rfl ?_
  refine J_ic F dW_1323 ki_0 ?_
  refine J_lald F (i := nI 0) ly_258 (n_in (by decide) (by decide)) dW_1324 ?_
  refine J_il F 0 dW_1325 rfl ?_
  refine J_i2l F dW_1327 ?_
  refine J_lcmp F dW_1328 ?_
  refine J_zeq F (tgt := 1334) dW_1329 (by decide) (fun _ => hend) (fun h => absurd (by rw [show ρ2 258 (nI 0).toNatClampNeg = ρ2 258 0 from rfl, h2 hk0]; exact lcmp_same _) h)
set_option maxRecDepth 20000 in
set_option maxHeartbeats 4000000 in
theorem S_point {p : Program} {l : Launch} {e : Env} {s : State} {m : MethodId} {below : List Frame} {meth : Method} {c : Code} {G : Gp} {b Ln : Nat} {xs : Nat → Int32} {Qm : State → Prop} {x4 : Int32} (hl : l.stackTraces = false) (A : LA p s m meth c G b Ln xs) (hin : ∀ c, c < 6 → vp_in (x4 + nI c) Ln) : LStep p l e s m below meth c G b Qm x4 1337 := by
  intro kc ks σ u hkc hks hC hR hs K
  obtain ⟨F, hX, hb, hg⟩ := A
  refine J_aln F 3 dW_1337 rfl rfl ?_
  refine J_aln F 4 dW_1338 rfl rfl ?_
  refine J_il F 0 dW_1339 rfl ?_
  refine J_ic F dW_1341 ki_1 ?_
  refine J_iadd F dW_1342 ?_
  refine J_sld F hX hb hg (hin 1 (by decide)) dW_1343 ?_
  refine J_aln F 4 dW_1344 rfl rfl ?_
  refine J_il F 0 dW_1345 rfl ?_
  refine J_ic F dW_1347 ki_2 ?_
  refine J_iadd F dW_1348 ?_
  refine J_sld F hX hb hg (hin 2 (by decide)) dW_1349 ?_
  refine J_aln F 4 dW_1350 rfl rfl ?_
  refine J_il F 0 dW_1351 rfl ?_
  refine J_ic F dW_1353 ki_3 ?_
  refine J_iadd F dW_1354 ?_
  refine J_sld F hX hb hg (hin 3 (by decide)) dW_1355 ?_
  refine J_aln F 1 dW_1356 rfl rfl ?_
  refine J_callSW F (As := [.ref (gb G + 0), .int (sc xs x4 1), .int (sc xs x4 2), .int (sc xs x4 3), .ref (gb G + 258)]) (st := []) (K_point l hl G (sc xs x4 1) (sc xs x4 2) (sc xs x4 3) hC hR hs) wm_172 qst_point qini qco_point qhd_point (by decide) (by decide) ⟨by show kc + 3 ≤ 601024; omega, by show ks + 18 ≤ 7293034; omega⟩ rfl dW_1357 (fun k τ hq => ?_)
  refine J_is F (L' := (5, .int k) :: Lw G b x4) dW_1360 (by decide) rfl ?_
  refine J_aln F 3 dW_1362 rfl rfl ?_
  refine J_aln F 5 dW_1363 rfl rfl ?_
  refine J_il F 1 dW_1364 rfl ?_
  refine J_ic F dW_1366 ki_1 ?_
  refine J_iadd F dW_1367 ?_
  refine J_sld F hX hb hg (hin 1 (by decide)) dW_1368 ?_
  refine J_aln F 5 dW_1369 rfl rfl ?_
  refine J_il F 1 dW_1370 rfl ?_
  refine J_ic F dW_1372 ki_2 ?_
  refine J_iadd F dW_1373 ?_
  refine J_sld F hX hb hg (hin 2 (by decide)) dW_1374 ?_
  refine J_aln F 5 dW_1375 rfl rfl ?_
  refine J_il F 1 dW_1376 rfl ?_
  refine J_ic F dW_1378 ki_3 ?_
  refine J_iadd F dW_1379 ?_
  refine J_sld F hX hb hg (hin 3 (by decide)) dW_1380 ?_
  refine J_callVi F (As := [.int (sc xs x4 1), .int (sc xs x4 2), .int (sc xs x4 3)]) (st := []) (C_X9_point l G (sc xs x4 1) (sc xs x4 2) (sc xs x4 3) (M_point (sc xs x4 1) (sc xs x4 2) (sc xs x4 3) hq hs)) ly_244 (by decide) rfl rfl wm_174 wn_X9_point ws_X9_point wi_X9 wk_X9_point wh_X9_point (by decide) (Nat.le_of_ble_eq_true rfl) ⟨by show kc + 3 ≤ 601024; omega, by show ks + 18 ≤ 7293034; omega⟩ rfl dW_1381 (fun v ρ hz => ?_)
  obtain ⟨h1, h2, hC2, hR2⟩ := hz
  refine J_is F (L' := (6, .int v) :: (5, .int k) :: Lw G b x4) dW_1384 (by decide) rfl ?_
  refine J_aln F 4 dW_1386 rfl rfl ?_
  refine J_callVi F (As := []) (st := []) (C_X9_thrown l G (Q := fun r => r = ρ 244 0) (show wp_X9_thrown ρ _ from rfl)) ly_244 (by decide) rfl rfl wm_111 wn_X9_thrown ws_X9_thrown wi_X9 wk_X9_thrown wh_X9_thrown (by decide) (Nat.le_of_ble_eq_true rfl) ⟨by show kc + 3 ≤ 601024; omega, by show ks + 18 ≤ 7293034; omega⟩ rfl dW_1387 (fun r ρ2 hz => ?_)
  obtain ⟨rfl, rfl⟩ := hz
  refine J_il F 1 dW_1390 rfl ?_
  refine J_ceq F (tgt := 1397) dW_1392 (by decide) (fun _ => ?_) (fun h => absurd h1 h)
  refine J_il F 1 dW_1397 rfl ?_
  have hend := J_goto F (tgt := 1966) dW_1414 (by decide) (J_sub (L := (6, .int v) :: (5, .int k) :: Lw G b x4) (L' := Lw G b x4) [2, 3, 4, 5, 6] rfl (J_widen (k := kc + 4) (n := ks + 24) (kc := (kc + 3)) (ks := (ks + 18)) (by omega) (by omega) (K ρ2 _ hC2 hR2 (hs.oPoint (sc xs x4 1) (sc xs x4 2) (sc xs x4 3)))))
  refine J_zne F (tgt := 1414) dW_1399 (by decide) (fun _ => hend) (fun hk0 => ?_)
  refine J_aln F 3 dW_1402 rfl rfl ?_
  refine J_ic F dW_1403 ki_0 ?_
  refine J_lald F (i := nI 0) ly_258 (n_in (by decide) (by decide)) dW_1404 ?_
  refine J_il F 0 dW_1405 rfl ?_
  refine J_i2l F dW_1407 ?_
  refine J_lcmp F dW_1408 ?_
  refine J_zeq F (tgt := 1414) dW_1409 (by decide) (fun _ => hend) (fun h => absurd (by rw [show ρ2 258 (nI 0).toNatClampNeg = ρ2 258 0 from rfl, h2 hk0]; exact lcmp_same _) h)
set_option maxRecDepth 20000 in
set_option maxHeartbeats 4000000 in
theorem S_way {p : Program} {l : Launch} {e : Env} {s : State} {m : MethodId} {below : List Frame} {meth : Method} {c : Code} {G : Gp} {b Ln : Nat} {xs : Nat → Int32} {Qm : State → Prop} {x4 : Int32} (hl : l.stackTraces = false) (A : LA p s m meth c G b Ln xs) (hin : ∀ c, c < 6 → vp_in (x4 + nI c) Ln) : LStep p l e s m below meth c G b Qm x4 1417 := by
  intro kc ks σ u hkc hks hC hR hs K
  obtain ⟨F, hX, hb, hg⟩ := A
  refine J_aln F 3 dW_1417 rfl rfl ?_
  refine J_aln F 4 dW_1418 rfl rfl ?_
  refine J_il F 0 dW_1419 rfl ?_
  refine J_ic F dW_1421 ki_1 ?_
  refine J_iadd F dW_1422 ?_
  refine J_sld F hX hb hg (hin 1 (by decide)) dW_1423 ?_
  refine J_aln F 4 dW_1424 rfl rfl ?_
  refine J_il F 0 dW_1425 rfl ?_
  refine J_ic F dW_1427 ki_2 ?_
  refine J_iadd F dW_1428 ?_
  refine J_sld F hX hb hg (hin 2 (by decide)) dW_1429 ?_
  refine J_aln F 4 dW_1430 rfl rfl ?_
  refine J_il F 0 dW_1431 rfl ?_
  refine J_ic F dW_1433 ki_3 ?_
  refine J_iadd F dW_1434 ?_
  refine J_sld F hX hb hg (hin 3 (by decide)) dW_1435 ?_
  refine J_aln F 4 dW_1436 rfl rfl ?_
  refine J_il F 0 dW_1437 rfl ?_
  refine J_ic F dW_1439 ki_4 ?_
  refine J_iadd F dW_1440 ?_
  refine J_sld F hX hb hg (hin 4 (by decide)) dW_1441 ?_
  refine J_aln F 4 dW_1442 rfl rfl ?_
  refine J_il F 0 dW_1443 rfl ?_
  refine J_ic F dW_1445 ki_5 ?_
  refine J_iadd F dW_1446 ?_
  refine J_sld F hX hb hg (hin 5 (by decide)) dW_1447 ?_
  refine J_aln F 1 dW_1448 rfl rfl ?_
  refine J_callSW F (As := [.ref (gb G + 0), .int (sc xs x4 1), .int (sc xs x4 2), .int (sc xs x4 3), .int (sc xs x4 4), .int (sc xs x4 5), .ref (gb G + 258)]) (st := []) (K_way l hl G (sc xs x4 1) (sc xs x4 2) (sc xs x4 3) (sc xs x4 4) (sc xs x4 5) hC hR hs) wm_175 qst_way qini qco_way qhd_way (by decide) (by decide) ⟨by show kc + 4 ≤ 601024; omega, by show ks + 24 ≤ 7293034; omega⟩ rfl dW_1449 (fun k τ hq => ?_)
  refine J_is F (L' := (5, .int k) :: Lw G b x4) dW_1452 (by decide) rfl ?_
  refine J_aln F 3 dW_1454 rfl rfl ?_
  refine J_aln F 5 dW_1455 rfl rfl ?_
  refine J_il F 1 dW_1456 rfl ?_
  refine J_ic F dW_1458 ki_1 ?_
  refine J_iadd F dW_1459 ?_
  refine J_sld F hX hb hg (hin 1 (by decide)) dW_1460 ?_
  refine J_aln F 5 dW_1461 rfl rfl ?_
  refine J_il F 1 dW_1462 rfl ?_
  refine J_ic F dW_1464 ki_2 ?_
  refine J_iadd F dW_1465 ?_
  refine J_sld F hX hb hg (hin 2 (by decide)) dW_1466 ?_
  refine J_aln F 5 dW_1467 rfl rfl ?_
  refine J_il F 1 dW_1468 rfl ?_
  refine J_ic F dW_1470 ki_3 ?_
  refine J_iadd F dW_1471 ?_
  refine J_sld F hX hb hg (hin 3 (by decide)) dW_1472 ?_
  refine J_aln F 5 dW_1473 rfl rfl ?_
  refine J_il F 1 dW_1474 rfl ?_
  refine J_ic F dW_1476 ki_4 ?_
  refine J_iadd F dW_1477 ?_
  refine J_sld F hX hb hg (hin 4 (by decide)) dW_1478 ?_
  refine J_aln F 5 dW_1479 rfl rfl ?_
  refine J_il F 1 dW_1480 rfl ?_
  refine J_ic F dW_1482 ki_5 ?_
  refine J_iadd F dW_1483 ?_
  refine J_sld F hX hb hg (hin 5 (by decide)) dW_1484 ?_
  refine J_callVi F (As := [.int (sc xs x4 1), .int (sc xs x4 2), .int (sc xs x4 3), .int (sc xs x4 4), .int (sc xs x4 5)]) (st := []) (C_X9_way l G (sc xs x4 1) (sc xs x4 2) (sc xs x4 3) (sc xs x4 4) (sc xs x4 5) (M_way (sc xs x4 1) (sc xs x4 2) (sc xs x4 3) (sc xs x4 4) (sc xs x4 5) hq hs)) ly_244 (by decide) rfl rfl wm_178 wn_X9_way ws_X9_way wi_X9 wk_X9_way wh_X9_way (by decide) (Nat.le_of_ble_eq_true rfl) ⟨by show kc + 4 ≤ 601024; omega, by show ks + 24 ≤ 7293034; omega⟩ rfl dW_1485 (fun v ρ hz => ?_)
  obtain ⟨h1, h2, hC2, hR2⟩ := hz
  refine J_is F (L' := (6, .int v) :: (5, .int k) :: Lw G b x4) dW_1488 (by decide) rfl ?_
  refine J_aln F 4 dW_1490 rfl rfl ?_
  refine J_callVi F (As := []) (st := []) (C_X9_thrown l G (Q := fun r => r = ρ 244 0) (show wp_X9_thrown ρ _ from rfl)) ly_244 (by decide) rfl rfl wm_111 wn_X9_thrown ws_X9_thrown wi_X9 wk_X9_thrown wh_X9_thrown (by decide) (Nat.le_of_ble_eq_true rfl) ⟨by show kc + 4 ≤ 601024; omega, by show ks + 24 ≤ 7293034; omega⟩ rfl dW_1491 (fun r ρ2 hz => ?_)
  obtain ⟨rfl, rfl⟩ := hz
  refine J_il F 1 dW_1494 rfl ?_
  refine J_ceq F (tgt := 1501) dW_1496 (by decide) (fun _ => ?_) (fun h => absurd h1 h)
  refine J_il F 1 dW_1501 rfl ?_
  have hend := J_goto F (tgt := 1966) dW_1518 (by decide) (J_sub (L := (6, .int v) :: (5, .int k) :: Lw G b x4) (L' := Lw G b x4) [2, 3, 4, 5, 6] rfl (J_widen (k := kc + 4) (n := ks + 24) (kc := (kc + 4)) (ks := (ks + 24)) (by omega) (by omega) (K ρ2 _ hC2 hR2 (hs.oWay (sc xs x4 1) (sc xs x4 2) (sc xs x4 3) (sc xs x4 4) (sc xs x4 5)))))
  refine J_zne F (tgt := 1518) dW_1503 (by decide) (fun _ => hend) (fun hk0 => ?_)
  refine J_aln F 3 dW_1506 rfl rfl ?_
  refine J_ic F dW_1507 ki_0 ?_
  refine J_lald F (i := nI 0) ly_258 (n_in (by decide) (by decide)) dW_1508 ?_
  refine J_il F 0 dW_1509 rfl ?_
  refine J_i2l F dW_1511 ?_
  refine J_lcmp F dW_1512 ?_
  refine J_zeq F (tgt := 1518) dW_1513 (by decide) (fun _ => hend) (fun h => absurd (by rw [show ρ2 258 (nI 0).toNatClampNeg = ρ2 258 0 from rfl, h2 hk0]; exact lcmp_same _) h)
set_option maxRecDepth 20000 in
set_option maxHeartbeats 4000000 in
theorem S_seek {p : Program} {l : Launch} {e : Env} {s : State} {m : MethodId} {below : List Frame} {meth : Method} {c : Code} {G : Gp} {b Ln : Nat} {xs : Nat → Int32} {Qm : State → Prop} {x4 : Int32} (hl : l.stackTraces = false) (A : LA p s m meth c G b Ln xs) (hin : ∀ c, c < 6 → vp_in (x4 + nI c) Ln) : LStep p l e s m below meth c G b Qm x4 1521 := by
  intro kc ks σ u hkc hks hC hR hs K
  obtain ⟨F, hX, hb, hg⟩ := A
  refine J_aln F 3 dW_1521 rfl rfl ?_
  refine J_aln F 4 dW_1522 rfl rfl ?_
  refine J_il F 0 dW_1523 rfl ?_
  refine J_ic F dW_1525 ki_1 ?_
  refine J_iadd F dW_1526 ?_
  refine J_sld F hX hb hg (hin 1 (by decide)) dW_1527 ?_
  refine J_aln F 4 dW_1528 rfl rfl ?_
  refine J_il F 0 dW_1529 rfl ?_
  refine J_ic F dW_1531 ki_2 ?_
  refine J_iadd F dW_1532 ?_
  refine J_sld F hX hb hg (hin 2 (by decide)) dW_1533 ?_
  refine J_aln F 4 dW_1534 rfl rfl ?_
  refine J_il F 0 dW_1535 rfl ?_
  refine J_ic F dW_1537 ki_3 ?_
  refine J_iadd F dW_1538 ?_
  refine J_sld F hX hb hg (hin 3 (by decide)) dW_1539 ?_
  refine J_aln F 1 dW_1540 rfl rfl ?_
  refine J_callSW F (As := [.ref (gb G + 0), .int (sc xs x4 1), .int (sc xs x4 2), .int (sc xs x4 3), .ref (gb G + 258)]) (st := []) (K_seek l hl G (sc xs x4 1) (sc xs x4 2) (sc xs x4 3) hC hR hs) wm_179 qst_seek qini qco_seek qhd_seek (by decide) (by decide) ⟨by show kc + 4 ≤ 601024; omega, by show ks + 24 ≤ 7293034; omega⟩ rfl dW_1541 (fun k τ hq => ?_)
  refine J_is F (L' := (5, .int k) :: Lw G b x4) dW_1544 (by decide) rfl ?_
  refine J_aln F 3 dW_1546 rfl rfl ?_
  refine J_aln F 5 dW_1547 rfl rfl ?_
  refine J_il F 1 dW_1548 rfl ?_
  refine J_ic F dW_1550 ki_1 ?_
  refine J_iadd F dW_1551 ?_
  refine J_sld F hX hb hg (hin 1 (by decide)) dW_1552 ?_
  refine J_aln F 5 dW_1553 rfl rfl ?_
  refine J_il F 1 dW_1554 rfl ?_
  refine J_ic F dW_1556 ki_2 ?_
  refine J_iadd F dW_1557 ?_
  refine J_sld F hX hb hg (hin 2 (by decide)) dW_1558 ?_
  refine J_aln F 5 dW_1559 rfl rfl ?_
  refine J_il F 1 dW_1560 rfl ?_
  refine J_ic F dW_1562 ki_3 ?_
  refine J_iadd F dW_1563 ?_
  refine J_sld F hX hb hg (hin 3 (by decide)) dW_1564 ?_
  refine J_callVi F (As := [.int (sc xs x4 1), .int (sc xs x4 2), .int (sc xs x4 3)]) (st := []) (C_X9_seek l G (sc xs x4 1) (sc xs x4 2) (sc xs x4 3) (M_seek (sc xs x4 1) (sc xs x4 2) (sc xs x4 3) hq hs)) ly_244 (by decide) rfl rfl wm_181 wn_X9_seek ws_X9_seek wi_X9 wk_X9_seek wh_X9_seek (by decide) (Nat.le_of_ble_eq_true rfl) ⟨by show kc + 4 ≤ 601024; omega, by show ks + 24 ≤ 7293034; omega⟩ rfl dW_1565 (fun v ρ hz => ?_)
  obtain ⟨h1, h2, hC2, hR2⟩ := hz
  refine J_is F (L' := (6, .int v) :: (5, .int k) :: Lw G b x4) dW_1568 (by decide) rfl ?_
  refine J_aln F 4 dW_1570 rfl rfl ?_
  refine J_callVi F (As := []) (st := []) (C_X9_thrown l G (Q := fun r => r = ρ 244 0) (show wp_X9_thrown ρ _ from rfl)) ly_244 (by decide) rfl rfl wm_111 wn_X9_thrown ws_X9_thrown wi_X9 wk_X9_thrown wh_X9_thrown (by decide) (Nat.le_of_ble_eq_true rfl) ⟨by show kc + 4 ≤ 601024; omega, by show ks + 24 ≤ 7293034; omega⟩ rfl dW_1571 (fun r ρ2 hz => ?_)
  obtain ⟨rfl, rfl⟩ := hz
  refine J_il F 1 dW_1574 rfl ?_
  refine J_ceq F (tgt := 1581) dW_1576 (by decide) (fun _ => ?_) (fun h => absurd h1 h)
  refine J_il F 1 dW_1581 rfl ?_
  have hend := J_goto F (tgt := 1966) dW_1598 (by decide) (J_sub (L := (6, .int v) :: (5, .int k) :: Lw G b x4) (L' := Lw G b x4) [2, 3, 4, 5, 6] rfl (J_widen (k := kc + 4) (n := ks + 24) (kc := (kc + 4)) (ks := (ks + 24)) (by omega) (by omega) (K ρ2 _ hC2 hR2 (hs.oSeek (sc xs x4 1) (sc xs x4 2) (sc xs x4 3)))))
  refine J_zne F (tgt := 1598) dW_1583 (by decide) (fun _ => hend) (fun hk0 => ?_)
  refine J_aln F 3 dW_1586 rfl rfl ?_
  refine J_ic F dW_1587 ki_0 ?_
  refine J_lald F (i := nI 0) ly_258 (n_in (by decide) (by decide)) dW_1588 ?_
  refine J_il F 0 dW_1589 rfl ?_
  refine J_i2l F dW_1591 ?_
  refine J_lcmp F dW_1592 ?_
  refine J_zeq F (tgt := 1598) dW_1593 (by decide) (fun _ => hend) (fun h => absurd (by rw [show ρ2 258 (nI 0).toNatClampNeg = ρ2 258 0 from rfl, h2 hk0]; exact lcmp_same _) h)
set_option maxRecDepth 20000 in
set_option maxHeartbeats 4000000 in
theorem S_risk {p : Program} {l : Launch} {e : Env} {s : State} {m : MethodId} {below : List Frame} {meth : Method} {c : Code} {G : Gp} {b Ln : Nat} {xs : Nat → Int32} {Qm : State → Prop} {x4 : Int32} (hl : l.stackTraces = false) (A : LA p s m meth c G b Ln xs) (hin : ∀ c, c < 6 → vp_in (x4 + nI c) Ln) : LStep p l e s m below meth c G b Qm x4 1601 := by
  intro kc ks σ u hkc hks hC hR hs K
  obtain ⟨F, hX, hb, hg⟩ := A
  refine J_aln F 3 dW_1601 rfl rfl ?_
  refine J_aln F 4 dW_1602 rfl rfl ?_
  refine J_il F 0 dW_1603 rfl ?_
  refine J_ic F dW_1605 ki_1 ?_
  refine J_iadd F dW_1606 ?_
  refine J_sld F hX hb hg (hin 1 (by decide)) dW_1607 ?_
  refine J_aln F 1 dW_1608 rfl rfl ?_
  refine J_callSW F (As := [.ref (gb G + 0), .int (sc xs x4 1), .ref (gb G + 258)]) (st := []) (K_risk l hl G (sc xs x4 1) hC hR hs) wm_182 qst_risk qini qco_risk qhd_risk (by decide) (by decide) ⟨by show kc + 1 ≤ 601024; omega, by show ks + 6 ≤ 7293034; omega⟩ rfl dW_1609 (fun k τ hq => ?_)
  refine J_is F (L' := (5, .int k) :: Lw G b x4) dW_1612 (by decide) rfl ?_
  refine J_aln F 3 dW_1614 rfl rfl ?_
  refine J_aln F 5 dW_1615 rfl rfl ?_
  refine J_il F 1 dW_1616 rfl ?_
  refine J_ic F dW_1618 ki_1 ?_
  refine J_iadd F dW_1619 ?_
  refine J_sld F hX hb hg (hin 1 (by decide)) dW_1620 ?_
  refine J_callVi F (As := [.int (sc xs x4 1)]) (st := []) (C_X9_risk l G (sc xs x4 1) (M_risk (sc xs x4 1) hq hs)) ly_244 (by decide) rfl rfl wm_184 wn_X9_risk ws_X9_risk wi_X9 wk_X9_risk wh_X9_risk (by decide) (Nat.le_of_ble_eq_true rfl) ⟨by show kc + 1 ≤ 601024; omega, by show ks + 6 ≤ 7293034; omega⟩ rfl dW_1621 (fun v ρ hz => ?_)
  obtain ⟨h1, h2, hC2, hR2⟩ := hz
  refine J_is F (L' := (6, .int v) :: (5, .int k) :: Lw G b x4) dW_1624 (by decide) rfl ?_
  refine J_aln F 4 dW_1626 rfl rfl ?_
  refine J_callVi F (As := []) (st := []) (C_X9_thrown l G (Q := fun r => r = ρ 244 0) (show wp_X9_thrown ρ _ from rfl)) ly_244 (by decide) rfl rfl wm_111 wn_X9_thrown ws_X9_thrown wi_X9 wk_X9_thrown wh_X9_thrown (by decide) (Nat.le_of_ble_eq_true rfl) ⟨by show kc + 1 ≤ 601024; omega, by show ks + 6 ≤ 7293034; omega⟩ rfl dW_1627 (fun r ρ2 hz => ?_)
  obtain ⟨rfl, rfl⟩ := hz
  refine J_il F 1 dW_1630 rfl ?_
  refine J_ceq F (tgt := 1637) dW_1632 (by decide) (fun _ => ?_) (fun h => absurd h1 h)
  refine J_il F 1 dW_1637 rfl ?_
  have hend := J_goto F (tgt := 1966) dW_1654 (by decide) (J_sub (L := (6, .int v) :: (5, .int k) :: Lw G b x4) (L' := Lw G b x4) [2, 3, 4, 5, 6] rfl (J_widen (k := kc + 4) (n := ks + 24) (kc := (kc + 1)) (ks := (ks + 6)) (by omega) (by omega) (K ρ2 _ hC2 hR2 (hs.oRisk (sc xs x4 1)))))
  refine J_zne F (tgt := 1654) dW_1639 (by decide) (fun _ => hend) (fun hk0 => ?_)
  refine J_aln F 3 dW_1642 rfl rfl ?_
  refine J_ic F dW_1643 ki_0 ?_
  refine J_lald F (i := nI 0) ly_258 (n_in (by decide) (by decide)) dW_1644 ?_
  refine J_il F 0 dW_1645 rfl ?_
  refine J_i2l F dW_1647 ?_
  refine J_lcmp F dW_1648 ?_
  refine J_zeq F (tgt := 1654) dW_1649 (by decide) (fun _ => hend) (fun h => absurd (by rw [show ρ2 258 (nI 0).toNatClampNeg = ρ2 258 0 from rfl, h2 hk0]; exact lcmp_same _) h)
set_option maxRecDepth 20000 in
set_option maxHeartbeats 4000000 in
theorem S_order {p : Program} {l : Launch} {e : Env} {s : State} {m : MethodId} {below : List Frame} {meth : Method} {c : Code} {G : Gp} {b Ln : Nat} {xs : Nat → Int32} {Qm : State → Prop} {x4 : Int32} (hl : l.stackTraces = false) (A : LA p s m meth c G b Ln xs) (hin : ∀ c, c < 6 → vp_in (x4 + nI c) Ln) : LStep p l e s m below meth c G b Qm x4 1657 := by
  intro kc ks σ u hkc hks hC hR hs K
  obtain ⟨F, hX, hb, hg⟩ := A
  refine J_aln F 3 dW_1657 rfl rfl ?_
  refine J_aln F 4 dW_1658 rfl rfl ?_
  refine J_il F 0 dW_1659 rfl ?_
  refine J_ic F dW_1661 ki_1 ?_
  refine J_iadd F dW_1662 ?_
  refine J_sld F hX hb hg (hin 1 (by decide)) dW_1663 ?_
  refine J_aln F 4 dW_1664 rfl rfl ?_
  refine J_il F 0 dW_1665 rfl ?_
  refine J_ic F dW_1667 ki_2 ?_
  refine J_iadd F dW_1668 ?_
  refine J_sld F hX hb hg (hin 2 (by decide)) dW_1669 ?_
  refine J_aln F 1 dW_1670 rfl rfl ?_
  refine J_callSW F (As := [.ref (gb G + 0), .int (sc xs x4 1), .int (sc xs x4 2), .ref (gb G + 258)]) (st := []) (K_order l hl G (sc xs x4 1) (sc xs x4 2) hC hR hs) wm_185 qst_order qini qco_order qhd_order (by decide) (by decide) ⟨by show kc + 1 ≤ 601024; omega, by show ks + 6 ≤ 7293034; omega⟩ rfl dW_1671 (fun k τ hq => ?_)
  refine J_is F (L' := (5, .int k) :: Lw G b x4) dW_1674 (by decide) rfl ?_
  refine J_aln F 3 dW_1676 rfl rfl ?_
  refine J_aln F 5 dW_1677 rfl rfl ?_
  refine J_il F 1 dW_1678 rfl ?_
  refine J_ic F dW_1680 ki_1 ?_
  refine J_iadd F dW_1681 ?_
  refine J_sld F hX hb hg (hin 1 (by decide)) dW_1682 ?_
  refine J_aln F 5 dW_1683 rfl rfl ?_
  refine J_il F 1 dW_1684 rfl ?_
  refine J_ic F dW_1686 ki_2 ?_
  refine J_iadd F dW_1687 ?_
  refine J_sld F hX hb hg (hin 2 (by decide)) dW_1688 ?_
  refine J_callVi F (As := [.int (sc xs x4 1), .int (sc xs x4 2)]) (st := []) (C_X9_order l G (sc xs x4 1) (sc xs x4 2) (M_order (sc xs x4 1) (sc xs x4 2) hq hs)) ly_244 (by decide) rfl rfl wm_187 wn_X9_order ws_X9_order wi_X9 wk_X9_order wh_X9_order (by decide) (Nat.le_of_ble_eq_true rfl) ⟨by show kc + 1 ≤ 601024; omega, by show ks + 6 ≤ 7293034; omega⟩ rfl dW_1689 (fun v ρ hz => ?_)
  obtain ⟨h1, h2, hC2, hR2⟩ := hz
  refine J_is F (L' := (6, .int v) :: (5, .int k) :: Lw G b x4) dW_1692 (by decide) rfl ?_
  refine J_aln F 4 dW_1694 rfl rfl ?_
  refine J_callVi F (As := []) (st := []) (C_X9_thrown l G (Q := fun r => r = ρ 244 0) (show wp_X9_thrown ρ _ from rfl)) ly_244 (by decide) rfl rfl wm_111 wn_X9_thrown ws_X9_thrown wi_X9 wk_X9_thrown wh_X9_thrown (by decide) (Nat.le_of_ble_eq_true rfl) ⟨by show kc + 1 ≤ 601024; omega, by show ks + 6 ≤ 7293034; omega⟩ rfl dW_1695 (fun r ρ2 hz => ?_)
  obtain ⟨rfl, rfl⟩ := hz
  refine J_il F 1 dW_1698 rfl ?_
  refine J_ceq F (tgt := 1705) dW_1700 (by decide) (fun _ => ?_) (fun h => absurd h1 h)
  refine J_il F 1 dW_1705 rfl ?_
  have hend := J_goto F (tgt := 1966) dW_1722 (by decide) (J_sub (L := (6, .int v) :: (5, .int k) :: Lw G b x4) (L' := Lw G b x4) [2, 3, 4, 5, 6] rfl (J_widen (k := kc + 4) (n := ks + 24) (kc := (kc + 1)) (ks := (ks + 6)) (by omega) (by omega) (K ρ2 _ hC2 hR2 (hs.oOrder (sc xs x4 1) (sc xs x4 2)))))
  refine J_zne F (tgt := 1722) dW_1707 (by decide) (fun _ => hend) (fun hk0 => ?_)
  refine J_aln F 3 dW_1710 rfl rfl ?_
  refine J_ic F dW_1711 ki_0 ?_
  refine J_lald F (i := nI 0) ly_258 (n_in (by decide) (by decide)) dW_1712 ?_
  refine J_il F 0 dW_1713 rfl ?_
  refine J_i2l F dW_1715 ?_
  refine J_lcmp F dW_1716 ?_
  refine J_zeq F (tgt := 1722) dW_1717 (by decide) (fun _ => hend) (fun h => absurd (by rw [show ρ2 258 (nI 0).toNatClampNeg = ρ2 258 0 from rfl, h2 hk0]; exact lcmp_same _) h)
set_option maxRecDepth 20000 in
set_option maxHeartbeats 4000000 in
theorem S_reality {p : Program} {l : Launch} {e : Env} {s : State} {m : MethodId} {below : List Frame} {meth : Method} {c : Code} {G : Gp} {b Ln : Nat} {xs : Nat → Int32} {Qm : State → Prop} {x4 : Int32} (hl : l.stackTraces = false) (A : LA p s m meth c G b Ln xs) (hin : ∀ c, c < 6 → vp_in (x4 + nI c) Ln) : LStep p l e s m below meth c G b Qm x4 1725 := by
  intro kc ks σ u hkc hks hC hR hs K
  obtain ⟨F, hX, hb, hg⟩ := A
  refine J_aln F 3 dW_1725 rfl rfl ?_
  refine J_aln F 4 dW_1726 rfl rfl ?_
  refine J_il F 0 dW_1727 rfl ?_
  refine J_ic F dW_1729 ki_1 ?_
  refine J_iadd F dW_1730 ?_
  refine J_sld F hX hb hg (hin 1 (by decide)) dW_1731 ?_
  refine J_aln F 4 dW_1732 rfl rfl ?_
  refine J_il F 0 dW_1733 rfl ?_
  refine J_ic F dW_1735 ki_2 ?_
  refine J_iadd F dW_1736 ?_
  refine J_sld F hX hb hg (hin 2 (by decide)) dW_1737 ?_
  refine J_aln F 1 dW_1738 rfl rfl ?_
  refine J_callSW F (As := [.ref (gb G + 0), .int (sc xs x4 1), .int (sc xs x4 2), .ref (gb G + 258)]) (st := []) (K_reality l hl G (sc xs x4 1) (sc xs x4 2) hC hR hs) wm_188 qst_reality qini qco_reality qhd_reality (by decide) (by decide) ⟨by show kc + 2 ≤ 601024; omega, by show ks + 12 ≤ 7293034; omega⟩ rfl dW_1739 (fun k τ hq => ?_)
  refine J_is F (L' := (5, .int k) :: Lw G b x4) dW_1742 (by decide) rfl ?_
  refine J_aln F 3 dW_1744 rfl rfl ?_
  refine J_aln F 5 dW_1745 rfl rfl ?_
  refine J_il F 1 dW_1746 rfl ?_
  refine J_ic F dW_1748 ki_1 ?_
  refine J_iadd F dW_1749 ?_
  refine J_sld F hX hb hg (hin 1 (by decide)) dW_1750 ?_
  refine J_aln F 5 dW_1751 rfl rfl ?_
  refine J_il F 1 dW_1752 rfl ?_
  refine J_ic F dW_1754 ki_2 ?_
  refine J_iadd F dW_1755 ?_
  refine J_sld F hX hb hg (hin 2 (by decide)) dW_1756 ?_
  refine J_callVi F (As := [.int (sc xs x4 1), .int (sc xs x4 2)]) (st := []) (C_X9_reality l G (sc xs x4 1) (sc xs x4 2) (M_reality (sc xs x4 1) (sc xs x4 2) hq hs)) ly_244 (by decide) rfl rfl wm_190 wn_X9_reality ws_X9_reality wi_X9 wk_X9_reality wh_X9_reality (by decide) (Nat.le_of_ble_eq_true rfl) ⟨by show kc + 2 ≤ 601024; omega, by show ks + 12 ≤ 7293034; omega⟩ rfl dW_1757 (fun v ρ hz => ?_)
  obtain ⟨h1, h2, hC2, hR2⟩ := hz
  refine J_is F (L' := (6, .int v) :: (5, .int k) :: Lw G b x4) dW_1760 (by decide) rfl ?_
  refine J_aln F 4 dW_1762 rfl rfl ?_
  refine J_callVi F (As := []) (st := []) (C_X9_thrown l G (Q := fun r => r = ρ 244 0) (show wp_X9_thrown ρ _ from rfl)) ly_244 (by decide) rfl rfl wm_111 wn_X9_thrown ws_X9_thrown wi_X9 wk_X9_thrown wh_X9_thrown (by decide) (Nat.le_of_ble_eq_true rfl) ⟨by show kc + 2 ≤ 601024; omega, by show ks + 12 ≤ 7293034; omega⟩ rfl dW_1763 (fun r ρ2 hz => ?_)
  obtain ⟨rfl, rfl⟩ := hz
  refine J_il F 1 dW_1766 rfl ?_
  refine J_ceq F (tgt := 1773) dW_1768 (by decide) (fun _ => ?_) (fun h => absurd h1 h)
  refine J_il F 1 dW_1773 rfl ?_
  have hend := J_goto F (tgt := 1966) dW_1790 (by decide) (J_sub (L := (6, .int v) :: (5, .int k) :: Lw G b x4) (L' := Lw G b x4) [2, 3, 4, 5, 6] rfl (J_widen (k := kc + 4) (n := ks + 24) (kc := (kc + 2)) (ks := (ks + 12)) (by omega) (by omega) (K ρ2 _ hC2 hR2 (hs.oReal (sc xs x4 1) (sc xs x4 2)))))
  refine J_zne F (tgt := 1790) dW_1775 (by decide) (fun _ => hend) (fun hk0 => ?_)
  refine J_aln F 3 dW_1778 rfl rfl ?_
  refine J_ic F dW_1779 ki_0 ?_
  refine J_lald F (i := nI 0) ly_258 (n_in (by decide) (by decide)) dW_1780 ?_
  refine J_il F 0 dW_1781 rfl ?_
  refine J_i2l F dW_1783 ?_
  refine J_lcmp F dW_1784 ?_
  refine J_zeq F (tgt := 1790) dW_1785 (by decide) (fun _ => hend) (fun h => absurd (by rw [show ρ2 258 (nI 0).toNatClampNeg = ρ2 258 0 from rfl, h2 hk0]; exact lcmp_same _) h)
set_option maxRecDepth 20000 in
set_option maxHeartbeats 4000000 in
theorem S_ways {p : Program} {l : Launch} {e : Env} {s : State} {m : MethodId} {below : List Frame} {meth : Method} {c : Code} {G : Gp} {b Ln : Nat} {xs : Nat → Int32} {Qm : State → Prop} {x4 : Int32} (hl : l.stackTraces = false) (A : LA p s m meth c G b Ln xs) (hin : ∀ c, c < 6 → vp_in (x4 + nI c) Ln) : LStep p l e s m below meth c G b Qm x4 1793 := by
  intro kc ks σ u hkc hks hC hR hs K
  obtain ⟨F, hX, hb, hg⟩ := A
  refine J_aln F 3 dW_1793 rfl rfl ?_
  refine J_aln F 4 dW_1794 rfl rfl ?_
  refine J_il F 0 dW_1795 rfl ?_
  refine J_ic F dW_1797 ki_1 ?_
  refine J_iadd F dW_1798 ?_
  refine J_sld F hX hb hg (hin 1 (by decide)) dW_1799 ?_
  refine J_aln F 4 dW_1800 rfl rfl ?_
  refine J_il F 0 dW_1801 rfl ?_
  refine J_ic F dW_1803 ki_2 ?_
  refine J_iadd F dW_1804 ?_
  refine J_sld F hX hb hg (hin 2 (by decide)) dW_1805 ?_
  refine J_aln F 1 dW_1806 rfl rfl ?_
  refine J_callSW F (As := [.ref (gb G + 0), .int (sc xs x4 1), .int (sc xs x4 2), .ref (gb G + 258)]) (st := []) (K_ways l hl G (sc xs x4 1) (sc xs x4 2) hC hR hs) wm_191 qst_ways qini qco_ways qhd_ways (by decide) (by decide) ⟨by show kc + 2 ≤ 601024; omega, by show ks + 12 ≤ 7293034; omega⟩ rfl dW_1807 (fun k τ hq => ?_)
  refine J_is F (L' := (5, .int k) :: Lw G b x4) dW_1810 (by decide) rfl ?_
  refine J_aln F 3 dW_1812 rfl rfl ?_
  refine J_aln F 5 dW_1813 rfl rfl ?_
  refine J_il F 1 dW_1814 rfl ?_
  refine J_ic F dW_1816 ki_1 ?_
  refine J_iadd F dW_1817 ?_
  refine J_sld F hX hb hg (hin 1 (by decide)) dW_1818 ?_
  refine J_aln F 5 dW_1819 rfl rfl ?_
  refine J_il F 1 dW_1820 rfl ?_
  refine J_ic F dW_1822 ki_2 ?_
  refine J_iadd F dW_1823 ?_
  refine J_sld F hX hb hg (hin 2 (by decide)) dW_1824 ?_
  refine J_callVi F (As := [.int (sc xs x4 1), .int (sc xs x4 2)]) (st := []) (C_X9_ways l G (sc xs x4 1) (sc xs x4 2) (M_ways (sc xs x4 1) (sc xs x4 2) hq hs)) ly_244 (by decide) rfl rfl wm_193 wn_X9_ways ws_X9_ways wi_X9 wk_X9_ways wh_X9_ways (by decide) (Nat.le_of_ble_eq_true rfl) ⟨by show kc + 2 ≤ 601024; omega, by show ks + 12 ≤ 7293034; omega⟩ rfl dW_1825 (fun v ρ hz => ?_)
  obtain ⟨h1, h2, hC2, hR2⟩ := hz
  refine J_is F (L' := (6, .int v) :: (5, .int k) :: Lw G b x4) dW_1828 (by decide) rfl ?_
  refine J_aln F 4 dW_1830 rfl rfl ?_
  refine J_callVi F (As := []) (st := []) (C_X9_thrown l G (Q := fun r => r = ρ 244 0) (show wp_X9_thrown ρ _ from rfl)) ly_244 (by decide) rfl rfl wm_111 wn_X9_thrown ws_X9_thrown wi_X9 wk_X9_thrown wh_X9_thrown (by decide) (Nat.le_of_ble_eq_true rfl) ⟨by show kc + 2 ≤ 601024; omega, by show ks + 12 ≤ 7293034; omega⟩ rfl dW_1831 (fun r ρ2 hz => ?_)
  obtain ⟨rfl, rfl⟩ := hz
  refine J_il F 1 dW_1834 rfl ?_
  refine J_ceq F (tgt := 1841) dW_1836 (by decide) (fun _ => ?_) (fun h => absurd h1 h)
  refine J_il F 1 dW_1841 rfl ?_
  have hend := J_goto F (tgt := 1966) dW_1858 (by decide) (J_sub (L := (6, .int v) :: (5, .int k) :: Lw G b x4) (L' := Lw G b x4) [2, 3, 4, 5, 6] rfl (J_widen (k := kc + 4) (n := ks + 24) (kc := (kc + 2)) (ks := (ks + 12)) (by omega) (by omega) (K ρ2 _ hC2 hR2 (hs.oWays (sc xs x4 1) (sc xs x4 2)))))
  refine J_zne F (tgt := 1858) dW_1843 (by decide) (fun _ => hend) (fun hk0 => ?_)
  refine J_aln F 3 dW_1846 rfl rfl ?_
  refine J_ic F dW_1847 ki_0 ?_
  refine J_lald F (i := nI 0) ly_258 (n_in (by decide) (by decide)) dW_1848 ?_
  refine J_il F 0 dW_1849 rfl ?_
  refine J_i2l F dW_1851 ?_
  refine J_lcmp F dW_1852 ?_
  refine J_zeq F (tgt := 1858) dW_1853 (by decide) (fun _ => hend) (fun h => absurd (by rw [show ρ2 258 (nI 0).toNatClampNeg = ρ2 258 0 from rfl, h2 hk0]; exact lcmp_same _) h)
set_option maxRecDepth 20000 in
set_option maxHeartbeats 4000000 in
theorem S_friends {p : Program} {l : Launch} {e : Env} {s : State} {m : MethodId} {below : List Frame} {meth : Method} {c : Code} {G : Gp} {b Ln : Nat} {xs : Nat → Int32} {Qm : State → Prop} {x4 : Int32} (hl : l.stackTraces = false) (A : LA p s m meth c G b Ln xs) (hin : ∀ c, c < 6 → vp_in (x4 + nI c) Ln) : LStep p l e s m below meth c G b Qm x4 1861 := by
  intro kc ks σ u hkc hks hC hR hs K
  obtain ⟨F, hX, hb, hg⟩ := A
  refine J_aln F 3 dW_1861 rfl rfl ?_
  refine J_aln F 4 dW_1862 rfl rfl ?_
  refine J_il F 0 dW_1863 rfl ?_
  refine J_ic F dW_1865 ki_1 ?_
  refine J_iadd F dW_1866 ?_
  refine J_sld F hX hb hg (hin 1 (by decide)) dW_1867 ?_
  refine J_aln F 1 dW_1868 rfl rfl ?_
  refine J_callSW F (As := [.ref (gb G + 0), .int (sc xs x4 1), .ref (gb G + 258)]) (st := []) (K_friends l hl G (sc xs x4 1) hC hR hs) wm_194 qst_friends qini qco_friends qhd_friends (by decide) (by decide) ⟨by show kc + 1 ≤ 601024; omega, by show ks + 6 ≤ 7293034; omega⟩ rfl dW_1869 (fun k τ hq => ?_)
  refine J_is F (L' := (5, .int k) :: Lw G b x4) dW_1872 (by decide) rfl ?_
  refine J_aln F 3 dW_1874 rfl rfl ?_
  refine J_aln F 5 dW_1875 rfl rfl ?_
  refine J_il F 1 dW_1876 rfl ?_
  refine J_ic F dW_1878 ki_1 ?_
  refine J_iadd F dW_1879 ?_
  refine J_sld F hX hb hg (hin 1 (by decide)) dW_1880 ?_
  refine J_callVi F (As := [.int (sc xs x4 1)]) (st := []) (C_X9_friends l G (sc xs x4 1) (M_friends (sc xs x4 1) hq hs)) ly_244 (by decide) rfl rfl wm_196 wn_X9_friends ws_X9_friends wi_X9 wk_X9_friends wh_X9_friends (by decide) (Nat.le_of_ble_eq_true rfl) ⟨by show kc + 1 ≤ 601024; omega, by show ks + 6 ≤ 7293034; omega⟩ rfl dW_1881 (fun v ρ hz => ?_)
  obtain ⟨h1, h2, hC2, hR2⟩ := hz
  refine J_is F (L' := (6, .int v) :: (5, .int k) :: Lw G b x4) dW_1884 (by decide) rfl ?_
  refine J_aln F 4 dW_1886 rfl rfl ?_
  refine J_callVi F (As := []) (st := []) (C_X9_thrown l G (Q := fun r => r = ρ 244 0) (show wp_X9_thrown ρ _ from rfl)) ly_244 (by decide) rfl rfl wm_111 wn_X9_thrown ws_X9_thrown wi_X9 wk_X9_thrown wh_X9_thrown (by decide) (Nat.le_of_ble_eq_true rfl) ⟨by show kc + 1 ≤ 601024; omega, by show ks + 6 ≤ 7293034; omega⟩ rfl dW_1887 (fun r ρ2 hz => ?_)
  obtain ⟨rfl, rfl⟩ := hz
  refine J_il F 1 dW_1890 rfl ?_
  refine J_ceq F (tgt := 1897) dW_1892 (by decide) (fun _ => ?_) (fun h => absurd h1 h)
  refine J_il F 1 dW_1897 rfl ?_
  have hend := J_goto F (tgt := 1966) dW_1914 (by decide) (J_sub (L := (6, .int v) :: (5, .int k) :: Lw G b x4) (L' := Lw G b x4) [2, 3, 4, 5, 6] rfl (J_widen (k := kc + 4) (n := ks + 24) (kc := (kc + 1)) (ks := (ks + 6)) (by omega) (by omega) (K ρ2 _ hC2 hR2 (hs.oFriends (sc xs x4 1)))))
  refine J_zne F (tgt := 1914) dW_1899 (by decide) (fun _ => hend) (fun hk0 => ?_)
  refine J_aln F 3 dW_1902 rfl rfl ?_
  refine J_ic F dW_1903 ki_0 ?_
  refine J_lald F (i := nI 0) ly_258 (n_in (by decide) (by decide)) dW_1904 ?_
  refine J_il F 0 dW_1905 rfl ?_
  refine J_i2l F dW_1907 ?_
  refine J_lcmp F dW_1908 ?_
  refine J_zeq F (tgt := 1914) dW_1909 (by decide) (fun _ => hend) (fun h => absurd (by rw [show ρ2 258 (nI 0).toNatClampNeg = ρ2 258 0 from rfl, h2 hk0]; exact lcmp_same _) h)
set_option maxRecDepth 20000 in
set_option maxHeartbeats 4000000 in
theorem S_image {p : Program} {l : Launch} {e : Env} {s : State} {m : MethodId} {below : List Frame} {meth : Method} {c : Code} {G : Gp} {b Ln : Nat} {xs : Nat → Int32} {Qm : State → Prop} {x4 : Int32} (hl : l.stackTraces = false) (A : LA p s m meth c G b Ln xs) (hin : ∀ c, c < 6 → vp_in (x4 + nI c) Ln) : LStep p l e s m below meth c G b Qm x4 1917 := by
  intro kc ks σ u hkc hks hC hR hs K
  obtain ⟨F, hX, hb, hg⟩ := A
  refine J_aln F 3 dW_1917 rfl rfl ?_
  refine J_callVv F (As := []) (st := []) (C_X8_image l G (Q := fun τ => Cf σ τ ∧ CR τ (imgS u)) (s_X8_image hC hs (fun τ a b => ⟨a, b⟩))) ly_0 (by decide) rfl rfl wm_197 wn_X8_image ws_X8_image wi_X8 wk_X8_image wh_X8_image (by decide) (Nat.le_of_ble_eq_true rfl) ⟨by show kc ≤ 601024; omega, by show ks ≤ 7293034; omega⟩ rfl dW_1918 (fun τ hz => ?_)
  obtain ⟨hc, hC1⟩ := hz
  have hR1 : RR τ u := hR.cf hc
  refine J_aln F 2 dW_1921 rfl rfl ?_
  refine J_callVv F (As := []) (st := []) (C_X9_image l G (Q := fun ρ => Rf τ ρ ∧ RR ρ (imgS u)) (s_X9_image hR1 (fun ρ a b => ⟨a, b⟩))) ly_244 (by decide) rfl rfl wm_200 wn_X9_image ws_X9_image wi_X9 wk_X9_image wh_X9_image (by decide) (Nat.le_of_ble_eq_true rfl) ⟨by show kc ≤ 601024; omega, by show ks ≤ 7293034; omega⟩ rfl dW_1922 (fun ρ hz => ?_)
  obtain ⟨hf, hR2⟩ := hz
  have hC2 := hC1.rf hs.image hf
  refine J_goto F (tgt := 1966) dW_1925 (by decide) ?_
  exact J_widen (k := kc + 4) (n := ks + 24) (by omega) (by omega) (K ρ _ hC2 hR2 hs.image)
set_option maxRecDepth 20000 in
set_option maxHeartbeats 4000000 in
theorem S_back {p : Program} {l : Launch} {e : Env} {s : State} {m : MethodId} {below : List Frame} {meth : Method} {c : Code} {G : Gp} {b Ln : Nat} {xs : Nat → Int32} {Qm : State → Prop} {x4 : Int32} (hl : l.stackTraces = false) (A : LA p s m meth c G b Ln xs) (hin : ∀ c, c < 6 → vp_in (x4 + nI c) Ln) : LStep p l e s m below meth c G b Qm x4 1928 := by
  intro kc ks σ u hkc hks hC hR hs K
  obtain ⟨F, hX, hb, hg⟩ := A
  refine J_aln F 3 dW_1928 rfl rfl ?_
  refine J_callVi F (As := []) (st := []) (C_X8_back l G (Q := fun r τ => r = (rBack u).2.1 ∧ Cf σ τ ∧ CR τ (rBack u).2.2) (s_X8_back hC hs (fun τ a b => ⟨rfl, a, b⟩))) ly_0 (by decide) rfl rfl wm_201 wn_X8_back ws_X8_back wi_X8 wk_X8_back wh_X8_back (by decide) (Nat.le_of_ble_eq_true rfl) ⟨by show kc ≤ 601024; omega, by show ks ≤ 7293034; omega⟩ rfl dW_1929 (fun r τ hz => ?_)
  obtain ⟨e1, hc, hC1⟩ := hz
  have hR1 : RR τ u := hR.cf hc
  refine J_aln F 2 dW_1932 rfl rfl ?_
  refine J_callVi F (As := []) (st := [.int r]) (C_X9_back l G (Q := fun v ρ => v = (rBack u).2.1 ∧ Rf τ ρ ∧ RR ρ (rBack u).2.2) (s_X9_back hR1 hs (fun ρ a b => ⟨rfl, a, b⟩))) ly_244 (by decide) rfl rfl wm_205 wn_X9_back ws_X9_back wi_X9 wk_X9_back wh_X9_back (by decide) (Nat.le_of_ble_eq_true rfl) ⟨by show kc ≤ 601024; omega, by show ks ≤ 7293034; omega⟩ rfl dW_1933 (fun v ρ hz => ?_)
  obtain ⟨e2, hf, hR2⟩ := hz
  have hC2 := hC1.rf hs.back hf
  refine J_ceq F (tgt := 1966) dW_1936 (by decide) (fun _ => ?_) (fun h => absurd (e1.trans e2.symm) h)
  exact J_widen (k := kc + 4) (n := ks + 24) (by omega) (by omega) (K ρ _ hC2 hR2 hs.back)
set_option maxRecDepth 20000 in
set_option maxHeartbeats 4000000 in
theorem S_count {p : Program} {l : Launch} {e : Env} {s : State} {m : MethodId} {below : List Frame} {meth : Method} {c : Code} {G : Gp} {b Ln : Nat} {xs : Nat → Int32} {Qm : State → Prop} {x4 : Int32} (hl : l.stackTraces = false) (A : LA p s m meth c G b Ln xs) (hin : ∀ c, c < 6 → vp_in (x4 + nI c) Ln) : LStep p l e s m below meth c G b Qm x4 1941 := by
  intro kc ks σ u hkc hks hC hR hs K
  obtain ⟨F, hX, hb, hg⟩ := A
  refine J_aln F 3 dW_1941 rfl rfl ?_
  refine J_aln F 4 dW_1942 rfl rfl ?_
  refine J_il F 0 dW_1943 rfl ?_
  refine J_ic F dW_1945 ki_1 ?_
  refine J_iadd F dW_1946 ?_
  refine J_sld F hX hb hg (hin 1 (by decide)) dW_1947 ?_
  refine J_callVi F (As := [.int (sc xs x4 1)]) (st := []) (C_X8_count l G (sc xs x4 1) (Q := fun r => r = qCount u (sc xs x4 1)) (s_X8_count hC hs rfl)) ly_0 (by decide) rfl rfl wm_206 wn_X8_count ws_X8_count wi_X8 wk_X8_count wh_X8_count (by decide) (Nat.le_of_ble_eq_true rfl) ⟨by show kc ≤ 601024; omega, by show ks ≤ 7293034; omega⟩ rfl dW_1948 (fun r τ hz => ?_)
  obtain ⟨rfl, e1⟩ := hz
  refine J_aln F 2 dW_1951 rfl rfl ?_
  refine J_aln F 4 dW_1952 rfl rfl ?_
  refine J_il F 0 dW_1953 rfl ?_
  refine J_ic F dW_1955 ki_1 ?_
  refine J_iadd F dW_1956 ?_
  refine J_sld F hX hb hg (hin 1 (by decide)) dW_1957 ?_
  refine J_callVi F (As := [.int (sc xs x4 1)]) (st := [.int r]) (C_X9_count l G (sc xs x4 1) (Q := fun v ρ => v = qCount u (sc xs x4 1) ∧ Rf _ ρ ∧ RR ρ u) (s_X9_count hR hs (fun ρ a b => ⟨rfl, a, b⟩))) ly_244 (by decide) rfl rfl wm_209 wn_X9_count ws_X9_count wi_X9 wk_X9_count wh_X9_count (by decide) (Nat.le_of_ble_eq_true rfl) ⟨by show kc ≤ 601024; omega, by show ks ≤ 7293034; omega⟩ rfl dW_1958 (fun v ρ hz => ?_)
  obtain ⟨e2, hf, hR2⟩ := hz
  have hC2 := hC.rf hs hf
  refine J_ceq F (tgt := 1966) dW_1961 (by decide) (fun _ => ?_) (fun h => absurd (e1.trans e2.symm) h)
  exact J_widen (k := kc + 4) (n := ks + 24) (by omega) (by omega) (K ρ _ hC2 hR2 hs)
