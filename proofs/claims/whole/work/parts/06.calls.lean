theorem va_S.calls {G : Gp} {s st t : State} {H : Heap} {locs L : List Loc} (hS : va_S (fr G) s.heap H locs) (h0 : st.heap = H) (hF : va_F (fr G) st t) (hL : ∀ q ∈ L, fr G q.base) : va_S (fr G) s.heap t.heap (locs ++ L) := by
  subst h0
  refine ⟨Nat.le_trans hS.1 hF.1, fun q hq hA => ?_, fun q hq => ?_⟩
  · rw [hF.2 q (Nat.lt_of_lt_of_le hq hS.1) hA, hS.2.1 q hq hA]
  · rcases List.mem_append.mp hq with h | h
    · exact hS.2.2 q h
    · exact hL q h
section CALLS
variable {p : Program} {l : Launch} {e : Env} {R : Room} {s : State} {m : MethodId} {args : Array Value} {below : List Frame} {meth : Method} {c : Code} {cc : ByteArray} {nL : Nat} {ret : Option FieldType} {own : String} {G : Gp} {Qm : State → Prop} {kc ks pc : Nat} {L L' : List (Nat × Value)} {st stk : List Value} {σ : St}
theorem Cn_of {y : MethodName} {cy : ByteArray} {fm lo : Nat} {av : List Value} {Q : Option Value → St → Prop} (own : String) (hpl : plainName y.cls = true) (hyo : y.cls = own) (hav : (lg_sl av).length ≤ nL) (hL : lv_args 0 av = L)
    (body : ∀ (p : Program) (e : Env) (s : State) (m : MethodId) (below : List Frame) (meth : Method) (c : Code), FX p s m av.toArray meth c cy nL ret own G → J p l e (rmF fm lo) s m av.toArray below meth c nL G (MQ below (QQ G Q) av.toArray s 0 0 (fr G)) 0 0 0 L [] σ) : Cn l y cy nL ret fm lo G av σ Q := by
  refine Met.ofW (cc := cy) (maxL := nL) (ret := ret) hpl rfl ?_
  intro p e s m args below meth c s₁ B hml hv
  obtain ⟨rfl, hP, hK, hSx⟩ := hv
  have hts := atoms_spec (ws := .code y cy nL ret :: TBL) B.pre
  have hown : s.vm.findClass y.cls = some m.cls := findClass_of_methodNamed B.named
  have hl := lv_entry av (n := nL) hav
  rw [lg_entry_eq]
  generalize (lg_sl av ++ List.replicate (nL - (lg_sl av).length) Slot.unset).toArray = ls at hl ⊢
  exact body p e s m below meth c ⟨B.exec, B.bytes, B.returns, B.notSynchronized, hml, hyo ▸ hown, fun w h => hts w (List.mem_cons_of_mem _ h), hK, hSx⟩ ls s.heap [] (hL ▸ hl) hP va_S.rf
theorem CnX_of {y : MethodName} {cy : ByteArray} {fm lo mc ms : Nat} {av : List Value} {Q : Option Value → St → Prop} {QX : String → St → Prop} (own : String) (hpl : plainName y.cls = true) (hyo : y.cls = own) (hav : (lg_sl av).length ≤ nL) (hL : lv_args 0 av = L)
    (body : ∀ (p : Program) (e : Env) (s : State) (m : MethodId) (below : List Frame) (meth : Method) (c : Code), FX p s m av.toArray meth c cy nL ret own G → (∀ x ∈ c.exceptionTable.toList, False) → J p l e (rmX fm lo mc ms) s m av.toArray below meth c nL G (vx_MQ below (QQ G Q) (XX G QX) av.toArray s mc ms (fr G)) 0 0 0 L [] σ) : CnX l y cy nL ret fm lo mc ms G av σ Q QX := by
  refine vx_ofW (cc := cy) (maxL := nL) (ret := ret) hpl rfl ?_
  intro p e s m args below meth c s₁ B hml hT hv
  obtain ⟨rfl, hP, hK, hSx⟩ := hv
  have hts := atoms_spec (ws := .code y cy nL ret :: TBL) B.pre
  have hown : s.vm.findClass y.cls = some m.cls := findClass_of_methodNamed B.named
  have hl := lv_entry av (n := nL) hav
  rw [lg_entry_eq]
  generalize (lg_sl av ++ List.replicate (nL - (lg_sl av).length) Slot.unset).toArray = ls at hl ⊢
  exact body p e s m below meth c ⟨B.exec, B.bytes, B.returns, B.notSynchronized, hml, hyo ▸ hown, fun w h => hts w (List.mem_cons_of_mem _ h), hK, hSx⟩ hT ls s.heap [] (hL ▸ hl) hP va_S.rf

theorem J_reti (F : FX p s m args meth c cc nL (some .int) own G) {Q : Option Value → St → Prop} {v : Int32} (hq : Q (some (.int v)) σ) (d : decode cc pc = .ok (.ireturn, 1)) : J p l e R s m args below meth c nL G (MQ below (QQ G Q) args s 0 0 (fr G)) 0 0 pc L [.int v] σ :=
  fun ls H locs hl hP hS => W.iret F.1 F.2.1 F.2.2.1 (fun t ht _ => ⟨⟨_, σ, rfl, hq, by rw [ht]; exact hP⟩, hS.F ht⟩) hS.2.2 d F.2.2.2.1
theorem J_retz (F : FX p s m args meth c cc nL (some .boolean) own G) {Q : Option Value → St → Prop} {v : Int32} (hz : v = 0 ∨ v = 1) (hq : Q (some (.int v)) σ) (d : decode cc pc = .ok (.ireturn, 1)) : J p l e R s m args below meth c nL G (MQ below (QQ G Q) args s 0 0 (fr G)) 0 0 pc L [.int v] σ :=
  fun ls H locs hl hP hS => W.zret F.1 F.2.1 F.2.2.1 (by rcases hz with h | h <;> subst h <;> decide) (fun t ht _ => ⟨⟨_, σ, rfl, hq, by rw [ht]; exact hP⟩, hS.F ht⟩) hS.2.2 d F.2.2.2.1
theorem J_retv (F : FX p s m args meth c cc nL none own G) {Q : Option Value → St → Prop}  (hq : Q none σ) (d : decode cc pc = .ok (.return_, 1)) : J p l e R s m args below meth c nL G (MQ below (QQ G Q) args s 0 0 (fr G)) 0 0 pc L [] σ :=
  fun ls H locs hl hP hS => W.vret F.1 F.2.1 F.2.2.1 (fun t ht _ => ⟨⟨_, σ, rfl, hq, by rw [ht]; exact hP⟩, hS.F ht⟩) hS.2.2 d F.2.2.2.1
theorem J_retiX (F : FX p s m args meth c cc nL (some .int) own G) {Q : Option Value → St → Prop} {QX : String → St → Prop} {mc ms : Nat} (h1 : kc ≤ mc) (h2 : ks ≤ ms) {v : Int32} (hq : Q (some (.int v)) σ) (d : decode cc pc = .ok (.ireturn, 1)) : J p l e R s m args below meth c nL G (vx_MQ below (QQ G Q) (XX G QX) args s mc ms (fr G)) kc ks pc L [.int v] σ :=
  fun ls H locs hl hP hS => vx_ret (W.widen h1 h2 (W.iret F.1 F.2.1 F.2.2.1 (fun t ht _ => ⟨⟨_, σ, rfl, hq, by rw [ht]; exact hP⟩, hS.F ht⟩) hS.2.2 d F.2.2.2.1))
theorem J_retzX (F : FX p s m args meth c cc nL (some .boolean) own G) {Q : Option Value → St → Prop} {QX : String → St → Prop} {mc ms : Nat} (h1 : kc ≤ mc) (h2 : ks ≤ ms) {v : Int32} (hz : v = 0 ∨ v = 1) (hq : Q (some (.int v)) σ) (d : decode cc pc = .ok (.ireturn, 1)) : J p l e R s m args below meth c nL G (vx_MQ below (QQ G Q) (XX G QX) args s mc ms (fr G)) kc ks pc L [.int v] σ :=
  fun ls H locs hl hP hS => vx_ret (W.widen h1 h2 (W.zret F.1 F.2.1 F.2.2.1 (by rcases hz with h | h <;> subst h <;> decide) (fun t ht _ => ⟨⟨_, σ, rfl, hq, by rw [ht]; exact hP⟩, hS.F ht⟩) hS.2.2 d F.2.2.2.1))
theorem J_retvX (F : FX p s m args meth c cc nL none own G) {Q : Option Value → St → Prop} {QX : String → St → Prop} {mc ms : Nat} (h1 : kc ≤ mc) (h2 : ks ≤ ms)  (hq : Q none σ) (d : decode cc pc = .ok (.return_, 1)) : J p l e R s m args below meth c nL G (vx_MQ below (QQ G Q) (XX G QX) args s mc ms (fr G)) kc ks pc L [] σ :=
  fun ls H locs hl hP hS => vx_ret (W.widen h1 h2 (W.vret F.1 F.2.1 F.2.2.1 (fun t ht _ => ⟨⟨_, σ, rfl, hq, by rw [ht]; exact hP⟩, hS.F ht⟩) hS.2.2 d F.2.2.2.1))
theorem J_callV (F : FX p s m args meth c cc nL ret own G) {y : MethodName} {cy : ByteArray} {nL' fm lo i : Nat} {ret' : Option FieldType} {As : List Value} {Q' : Option Value → St → Prop} {a ci : Nat} {C : String} {T : u_T} {N : Nat} (hM : Cn l y cy nL' ret' fm lo G (.ref (gb G + a) :: As) σ Q') (hlay : lay a = (ci, 0)) (hci : ci < 10) (hc : vwCl[ci]? = some (C, T, N)) (hy : y.cls = C) (hlk : Cond.methodLink own i y ∈ TBL) (hin : Cond.instanceMethod y ∈ TBL) (hse : Cond.selects C y y ∈ TBL) (hini : Cond.initialized C ∈ TBL) (hco : Cond.code y cy nL' ret' ∈ TBL) (hd : y.cls ≠ "java/lang/invoke/MethodHandle" ∧ y.cls ≠ "java/lang/invoke/VarHandle" ∧ (parseMethodDescriptor y.desc).map (fun d => d.parameters.length) = some As.length) (hR : fm + 1 ≤ R.frames ∧ 8 + (nL' + 11) + lo ≤ R.locals) (hst : (st.map fun v => v.category).sum ≤ 8) (hkc : kc ≤ R.cells ∧ ks ≤ R.slots) (hs : stk = As.reverse ++ .ref (gb G + a) :: st) (d : decode cc pc = .ok (.invokevirtual i, 3)) (k : ∀ v σ', Q' v σ' → J p l e R s m args below meth c nL G Qm kc ks (pc + 3) L (v.toList ++ st) σ') : J p l e R s m args below meth c nL G Qm kc ks pc L stk σ := by
  intro ls H locs hl hP hS
  have hts := F.2.2.2.2.2.2.1
  have cb : CallB R s args own i y cy nL' ret' (.code y cy nL' ret' :: TBL) (rmF fm lo) 0 0 As.length := callB_of As.length hts (tb_GoodIn hco) rfl rfl rfl (by rw [hy]; exact hts _ hini) (hts _ hlk) hd hR
  have hre : ∃ cellB : Cell, H[gb G + a]? = some cellB ∧ cellB.vm.isStatics = false ∧ s.vm.findClass C = some cellB.cls := by
    have h1 := hP a _ (ws_get G σ (lay_lt hlay (by omega)))
    rw [ent_o hlay hci] at h1
    obtain ⟨r, hr1, cell, q1, q2, q3, -⟩ := h1
    refine ⟨cell, q1, by rw [q3]; rfl, ?_⟩
    rw [q2]
    exact (F.2.2.2.2.2.2.2.1.1 ci _ hc).2.1
  have hr := va_runV (g := F0 m pc ls stk) (rest := st) (As := As) (H := H) (locs := locs) (cells := kc) (slots := ks) (p := p) (e := e) (below := below) (meth := meth) ⟨F.1, F.2.1, F.2.2.2.2.1, F.2.2.2.2.2.1, hts⟩ hM ⟨cb, hts _ hin, hts _ hse⟩ ⟨fun a U g mk q => ⟨q.1, q.2.calling⟩, hre, fun U hU hW => ⟨rfl, by rw [hU]; exact hP, va_K.moved hW.alike F.2.2.2.2.2.2.2.1, by rw [hU]; exact (F.2.2.2.2.2.2.2.2.kept hS.1 hS.2.1).warm hW⟩⟩ rfl rfl hl.1 hs (by simpa [JFrame.monitorRoom] using hst) d hkc
  intro T hT' X
  obtain ⟨v, st₀, t, T', L9, h0, X', hL, e1, e2, ⟨⟨v', σ', hv, hq, hP'⟩, hF⟩, hst'⟩ := hr T hT' X
  cases hv
  obtain ⟨t2, a1, b1⟩ := k _ σ' hq ls T'.heap (locs ++ L9) hl (by rw [e1]; exact hP') (by rw [e1]; exact hS.calls h0 hF hL) T' rfl X'
  exact ⟨t2, hst' t2 a1, b1⟩
theorem J_callVi (F : FX p s m args meth c cc nL ret own G) {y : MethodName} {cy : ByteArray} {nL' fm lo i : Nat} {ret' : Option FieldType} {As : List Value} {Qr : Int32 → St → Prop} {a ci : Nat} {C : String} {T : u_T} {N : Nat} (hM : Cn l y cy nL' ret' fm lo G (.ref (gb G + a) :: As) σ (qI Qr)) (hlay : lay a = (ci, 0)) (hci : ci < 10) (hc : vwCl[ci]? = some (C, T, N)) (hy : y.cls = C) (hlk : Cond.methodLink own i y ∈ TBL) (hin : Cond.instanceMethod y ∈ TBL) (hse : Cond.selects C y y ∈ TBL) (hini : Cond.initialized C ∈ TBL) (hco : Cond.code y cy nL' ret' ∈ TBL) (hd : y.cls ≠ "java/lang/invoke/MethodHandle" ∧ y.cls ≠ "java/lang/invoke/VarHandle" ∧ (parseMethodDescriptor y.desc).map (fun d => d.parameters.length) = some As.length) (hR : fm + 1 ≤ R.frames ∧ 8 + (nL' + 11) + lo ≤ R.locals) (hst : (st.map fun v => v.category).sum ≤ 8) (hkc : kc ≤ R.cells ∧ ks ≤ R.slots) (hs : stk = As.reverse ++ .ref (gb G + a) :: st) (d : decode cc pc = .ok (.invokevirtual i, 3)) (k : ∀ r σ', Qr r σ' → J p l e R s m args below meth c nL G Qm kc ks (pc + 3) L (.int r :: st) σ') : J p l e R s m args below meth c nL G Qm kc ks pc L stk σ :=
  J_callV F hM hlay hci hc hy hlk hin hse hini hco hd hR hst hkc hs d (fun v σ' h => by obtain ⟨r, rfl, h⟩ := h; exact k r σ' h)
theorem J_callVv (F : FX p s m args meth c cc nL ret own G) {y : MethodName} {cy : ByteArray} {nL' fm lo i : Nat} {ret' : Option FieldType} {As : List Value} {Qr : St → Prop} {a ci : Nat} {C : String} {T : u_T} {N : Nat} (hM : Cn l y cy nL' ret' fm lo G (.ref (gb G + a) :: As) σ (qV Qr)) (hlay : lay a = (ci, 0)) (hci : ci < 10) (hc : vwCl[ci]? = some (C, T, N)) (hy : y.cls = C) (hlk : Cond.methodLink own i y ∈ TBL) (hin : Cond.instanceMethod y ∈ TBL) (hse : Cond.selects C y y ∈ TBL) (hini : Cond.initialized C ∈ TBL) (hco : Cond.code y cy nL' ret' ∈ TBL) (hd : y.cls ≠ "java/lang/invoke/MethodHandle" ∧ y.cls ≠ "java/lang/invoke/VarHandle" ∧ (parseMethodDescriptor y.desc).map (fun d => d.parameters.length) = some As.length) (hR : fm + 1 ≤ R.frames ∧ 8 + (nL' + 11) + lo ≤ R.locals) (hst : (st.map fun v => v.category).sum ≤ 8) (hkc : kc ≤ R.cells ∧ ks ≤ R.slots) (hs : stk = As.reverse ++ .ref (gb G + a) :: st) (d : decode cc pc = .ok (.invokevirtual i, 3)) (k : ∀ σ', Qr σ' → J p l e R s m args below meth c nL G Qm kc ks (pc + 3) L st σ') : J p l e R s m args below meth c nL G Qm kc ks pc L stk σ :=
  J_callV F hM hlay hci hc hy hlk hin hse hini hco hd hR hst hkc hs d (fun v σ' h => by obtain ⟨rfl, h⟩ := h; exact k σ' h)
theorem J_callS (F : FX p s m args meth c cc nL ret own G) {y : MethodName} {cy : ByteArray} {nL' fm lo i : Nat} {ret' : Option FieldType} {As : List Value} {Q' : Option Value → St → Prop} (hM : Cn l y cy nL' ret' fm lo G As σ Q') (hlk : Cond.methodLink own i y ∈ TBL) (hin : Cond.static y ∈ TBL) (hini : Cond.initialized y.cls ∈ TBL) (hco : Cond.code y cy nL' ret' ∈ TBL) (hd : y.cls ≠ "java/lang/invoke/MethodHandle" ∧ y.cls ≠ "java/lang/invoke/VarHandle" ∧ (parseMethodDescriptor y.desc).map (fun d => d.parameters.length) = some As.length) (hR : fm + 1 ≤ R.frames ∧ 8 + (nL' + 11) + lo ≤ R.locals) (hst : (st.map fun v => v.category).sum ≤ 8) (hkc : kc ≤ R.cells ∧ ks ≤ R.slots) (hs : stk = As.reverse ++ st) (d : decode cc pc = .ok (.invokestatic i, 3)) (k : ∀ v σ', Q' v σ' → J p l e R s m args below meth c nL G Qm kc ks (pc + 3) L (v.toList ++ st) σ') : J p l e R s m args below meth c nL G Qm kc ks pc L stk σ := by
  intro ls H locs hl hP hS
  have hts := F.2.2.2.2.2.2.1
  have cb : CallB R s args own i y cy nL' ret' (.code y cy nL' ret' :: TBL) (rmF fm lo) 0 0 As.length := callB_of As.length hts (tb_GoodIn hco) rfl rfl rfl (hts _ hini) (hts _ hlk) hd hR
  have hr := va_runS (g := F0 m pc ls stk) (rest := st) (As := As) (H := H) (locs := locs) (cells := kc) (slots := ks) (p := p) (e := e) (below := below) (meth := meth) ⟨F.1, F.2.1, F.2.2.2.2.1, F.2.2.2.2.2.1, hts⟩ hM ⟨cb, hts _ hin⟩ ⟨fun a U g mk q => ⟨q.1, q.2.calling⟩, fun U hU hW => ⟨rfl, by rw [hU]; exact hP, va_K.moved hW.alike F.2.2.2.2.2.2.2.1, by rw [hU]; exact (F.2.2.2.2.2.2.2.2.kept hS.1 hS.2.1).warm hW⟩⟩ rfl rfl hl.1 hs (by simpa [JFrame.monitorRoom] using hst) d hkc
  intro T hT' X
  obtain ⟨v, st₀, t, T', L9, h0, X', hL, e1, e2, ⟨⟨v', σ', hv, hq, hP'⟩, hF⟩, hst'⟩ := hr T hT' X
  cases hv
  obtain ⟨t2, a1, b1⟩ := k _ σ' hq ls T'.heap (locs ++ L9) hl (by rw [e1]; exact hP') (by rw [e1]; exact hS.calls h0 hF hL) T' rfl X'
  exact ⟨t2, hst' t2 a1, b1⟩
theorem J_callSi (F : FX p s m args meth c cc nL ret own G) {y : MethodName} {cy : ByteArray} {nL' fm lo i : Nat} {ret' : Option FieldType} {As : List Value} {Qr : Int32 → St → Prop} (hM : Cn l y cy nL' ret' fm lo G As σ (qI Qr)) (hlk : Cond.methodLink own i y ∈ TBL) (hin : Cond.static y ∈ TBL) (hini : Cond.initialized y.cls ∈ TBL) (hco : Cond.code y cy nL' ret' ∈ TBL) (hd : y.cls ≠ "java/lang/invoke/MethodHandle" ∧ y.cls ≠ "java/lang/invoke/VarHandle" ∧ (parseMethodDescriptor y.desc).map (fun d => d.parameters.length) = some As.length) (hR : fm + 1 ≤ R.frames ∧ 8 + (nL' + 11) + lo ≤ R.locals) (hst : (st.map fun v => v.category).sum ≤ 8) (hkc : kc ≤ R.cells ∧ ks ≤ R.slots) (hs : stk = As.reverse ++ st) (d : decode cc pc = .ok (.invokestatic i, 3)) (k : ∀ r σ', Qr r σ' → J p l e R s m args below meth c nL G Qm kc ks (pc + 3) L (.int r :: st) σ') : J p l e R s m args below meth c nL G Qm kc ks pc L stk σ :=
  J_callS F hM hlk hin hini hco hd hR hst hkc hs d (fun v σ' h => by obtain ⟨r, rfl, h⟩ := h; exact k r σ' h)
theorem J_callSv (F : FX p s m args meth c cc nL ret own G) {y : MethodName} {cy : ByteArray} {nL' fm lo i : Nat} {ret' : Option FieldType} {As : List Value} {Qr : St → Prop} (hM : Cn l y cy nL' ret' fm lo G As σ (qV Qr)) (hlk : Cond.methodLink own i y ∈ TBL) (hin : Cond.static y ∈ TBL) (hini : Cond.initialized y.cls ∈ TBL) (hco : Cond.code y cy nL' ret' ∈ TBL) (hd : y.cls ≠ "java/lang/invoke/MethodHandle" ∧ y.cls ≠ "java/lang/invoke/VarHandle" ∧ (parseMethodDescriptor y.desc).map (fun d => d.parameters.length) = some As.length) (hR : fm + 1 ≤ R.frames ∧ 8 + (nL' + 11) + lo ≤ R.locals) (hst : (st.map fun v => v.category).sum ≤ 8) (hkc : kc ≤ R.cells ∧ ks ≤ R.slots) (hs : stk = As.reverse ++ st) (d : decode cc pc = .ok (.invokestatic i, 3)) (k : ∀ σ', Qr σ' → J p l e R s m args below meth c nL G Qm kc ks (pc + 3) L st σ') : J p l e R s m args below meth c nL G Qm kc ks pc L stk σ :=
  J_callS F hM hlk hin hini hco hd hR hst hkc hs d (fun v σ' h => by obtain ⟨rfl, h⟩ := h; exact k σ' h)
theorem J_xcallV (F : FX p s m args meth c cc nL ret own G) {y : MethodName} {cy : ByteArray} {nL' fm lo i : Nat} {ret' : Option FieldType} {As : List Value} {Q' : Option Value → St → Prop} {mc' ms' mc ms : Nat} {QX' QX : String → St → Prop} {Q : Option Value → St → Prop} {a ci : Nat} {C : String} {T : u_T} {N : Nat} (hM : CnX l y cy nL' ret' fm lo mc' ms' G (.ref (gb G + a) :: As) σ Q' QX') (hlay : lay a = (ci, 0)) (hci : ci < 10) (hc : vwCl[ci]? = some (C, T, N)) (hy : y.cls = C) (hlk : Cond.methodLink own i y ∈ TBL) (hin : Cond.instanceMethod y ∈ TBL) (hse : Cond.selects C y y ∈ TBL) (hini : Cond.initialized C ∈ TBL) (hco : Cond.code y cy nL' ret' ∈ TBL) (hd : y.cls ≠ "java/lang/invoke/MethodHandle" ∧ y.cls ≠ "java/lang/invoke/VarHandle" ∧ (parseMethodDescriptor y.desc).map (fun d => d.parameters.length) = some As.length) (hR : fm + 1 ≤ R.frames ∧ 8 + (nL' + 11) + lo ≤ R.locals) (hst : (st.map fun v => v.category).sum ≤ 8) (hkc : kc + mc' ≤ R.cells ∧ ks + ms' ≤ R.slots) (hmc : kc + mc' ≤ mc ∧ ks + ms' ≤ ms) (hT : ∀ x ∈ c.exceptionTable.toList, False) (kx : ∀ E σ', QX' E σ' → QX E σ') (hs : stk = As.reverse ++ .ref (gb G + a) :: st) (d : decode cc pc = .ok (.invokevirtual i, 3)) (k : ∀ v σ', Q' v σ' → J p l e R s m args below meth c nL G (vx_MQ below (QQ G Q) (XX G QX) args s mc ms (fr G)) (kc + mc') (ks + ms') (pc + 3) L (v.toList ++ st) σ') : J p l e R s m args below meth c nL G (vx_MQ below (QQ G Q) (XX G QX) args s mc ms (fr G)) kc ks pc L stk σ := by
  intro ls H locs hl hP hS
  have hts := F.2.2.2.2.2.2.1
  have cb : CallB R s args own i y cy nL' ret' (.code y cy nL' ret' :: TBL) (rmX fm lo mc' ms') mc' ms' As.length := callB_of As.length hts (tb_GoodIn hco) rfl rfl rfl (by rw [hy]; exact hts _ hini) (hts _ hlk) hd hR
  have hre : ∃ cellB : Cell, H[gb G + a]? = some cellB ∧ cellB.vm.isStatics = false ∧ s.vm.findClass C = some cellB.cls := by
    have h1 := hP a _ (ws_get G σ (lay_lt hlay (by omega)))
    rw [ent_o hlay hci] at h1
    obtain ⟨r, hr1, cell, q1, q2, q3, -⟩ := h1
    refine ⟨cell, q1, by rw [q3]; rfl, ?_⟩
    rw [q2]
    exact (F.2.2.2.2.2.2.2.1.1 ci _ hc).2.1
  have hr := vx_runV (g := F0 m pc ls stk) (rest := st) (As := As) (H := H) (locs := locs) (cells := kc) (slots := ks) (p := p) (e := e) (below := below) (meth := meth) ⟨F.1, F.2.1, F.2.2.2.2.1, F.2.2.2.2.2.1, hts⟩ hM ⟨cb, hts _ hin, hts _ hse⟩ ⟨fun a U g mk q => ⟨q.1, q.2.calling⟩, hre, fun U hU hW => ⟨rfl, by rw [hU]; exact hP, va_K.moved hW.alike F.2.2.2.2.2.2.2.1, by rw [hU]; exact (F.2.2.2.2.2.2.2.2.kept hS.1 hS.2.1).warm hW⟩⟩ rfl rfl hl.1 hs (by simpa [JFrame.monitorRoom] using hst) d hkc
  intro T hT' X
  rcases hr T hT' X with ⟨v, st₀, t, T', L9, h0, X', hL, e1, e2, ⟨⟨v', σ', hv, hq, hP'⟩, hF⟩, hst'⟩ | ⟨q, st₀, t, T', L9, E, ce, h0, X', hL, e1, e2, ⟨⟨σ', hq, hP'⟩, hF⟩, hce, hcv, hcl, hst'⟩
  · cases hv
    obtain ⟨t2, a1, b1⟩ := k _ σ' hq ls T'.heap (locs ++ L9) hl (by rw [e1]; exact hP') (by rw [e1]; exact hS.calls h0 hF hL) T' rfl X'
    exact ⟨t2, hst' t2 a1, b1⟩
  · have hS2 : va_S (fr G) s.heap T'.heap (locs ++ L9) := by rw [e1]; exact hS.calls h0 hF hL
    obtain ⟨t2, a1, b1⟩ := vx_out (pc := pc) (ls := ls) (rest := st) (Qc := QQ G Q) (XC := XX G QX) (E := E) (ce := ce) (q := q) (mc := mc) (ms := ms) (free := fr G) (H := T'.heap) (fun x h => (hT x h).elim) F.2.2.2.1 (by rw [e1]; exact hce) hcv hcl (fun t9 ht9 _ => ⟨⟨σ', kx E σ' hq, by rw [ht9, e1]; exact hP'⟩, hS2.F ht9⟩) hS2.2.2 hmc.1 hmc.2 T' rfl X'
    exact ⟨t2, hst'.trans a1, b1⟩
theorem J_xcallVi (F : FX p s m args meth c cc nL ret own G) {y : MethodName} {cy : ByteArray} {nL' fm lo i : Nat} {ret' : Option FieldType} {As : List Value} {Qr : Int32 → St → Prop} {mc' ms' mc ms : Nat} {QX' QX : String → St → Prop} {Q : Option Value → St → Prop} {a ci : Nat} {C : String} {T : u_T} {N : Nat} (hM : CnX l y cy nL' ret' fm lo mc' ms' G (.ref (gb G + a) :: As) σ (qI Qr) QX') (hlay : lay a = (ci, 0)) (hci : ci < 10) (hc : vwCl[ci]? = some (C, T, N)) (hy : y.cls = C) (hlk : Cond.methodLink own i y ∈ TBL) (hin : Cond.instanceMethod y ∈ TBL) (hse : Cond.selects C y y ∈ TBL) (hini : Cond.initialized C ∈ TBL) (hco : Cond.code y cy nL' ret' ∈ TBL) (hd : y.cls ≠ "java/lang/invoke/MethodHandle" ∧ y.cls ≠ "java/lang/invoke/VarHandle" ∧ (parseMethodDescriptor y.desc).map (fun d => d.parameters.length) = some As.length) (hR : fm + 1 ≤ R.frames ∧ 8 + (nL' + 11) + lo ≤ R.locals) (hst : (st.map fun v => v.category).sum ≤ 8) (hkc : kc + mc' ≤ R.cells ∧ ks + ms' ≤ R.slots) (hmc : kc + mc' ≤ mc ∧ ks + ms' ≤ ms) (hT : ∀ x ∈ c.exceptionTable.toList, False) (kx : ∀ E σ', QX' E σ' → QX E σ') (hs : stk = As.reverse ++ .ref (gb G + a) :: st) (d : decode cc pc = .ok (.invokevirtual i, 3)) (k : ∀ r σ', Qr r σ' → J p l e R s m args below meth c nL G (vx_MQ below (QQ G Q) (XX G QX) args s mc ms (fr G)) (kc + mc') (ks + ms') (pc + 3) L (.int r :: st) σ') : J p l e R s m args below meth c nL G (vx_MQ below (QQ G Q) (XX G QX) args s mc ms (fr G)) kc ks pc L stk σ :=
  J_xcallV F hM hlay hci hc hy hlk hin hse hini hco hd hR hst hkc hmc hT kx hs d (fun v σ' h => by obtain ⟨r, rfl, h⟩ := h; exact k r σ' h)
theorem J_xcallVv (F : FX p s m args meth c cc nL ret own G) {y : MethodName} {cy : ByteArray} {nL' fm lo i : Nat} {ret' : Option FieldType} {As : List Value} {Qr : St → Prop} {mc' ms' mc ms : Nat} {QX' QX : String → St → Prop} {Q : Option Value → St → Prop} {a ci : Nat} {C : String} {T : u_T} {N : Nat} (hM : CnX l y cy nL' ret' fm lo mc' ms' G (.ref (gb G + a) :: As) σ (qV Qr) QX') (hlay : lay a = (ci, 0)) (hci : ci < 10) (hc : vwCl[ci]? = some (C, T, N)) (hy : y.cls = C) (hlk : Cond.methodLink own i y ∈ TBL) (hin : Cond.instanceMethod y ∈ TBL) (hse : Cond.selects C y y ∈ TBL) (hini : Cond.initialized C ∈ TBL) (hco : Cond.code y cy nL' ret' ∈ TBL) (hd : y.cls ≠ "java/lang/invoke/MethodHandle" ∧ y.cls ≠ "java/lang/invoke/VarHandle" ∧ (parseMethodDescriptor y.desc).map (fun d => d.parameters.length) = some As.length) (hR : fm + 1 ≤ R.frames ∧ 8 + (nL' + 11) + lo ≤ R.locals) (hst : (st.map fun v => v.category).sum ≤ 8) (hkc : kc + mc' ≤ R.cells ∧ ks + ms' ≤ R.slots) (hmc : kc + mc' ≤ mc ∧ ks + ms' ≤ ms) (hT : ∀ x ∈ c.exceptionTable.toList, False) (kx : ∀ E σ', QX' E σ' → QX E σ') (hs : stk = As.reverse ++ .ref (gb G + a) :: st) (d : decode cc pc = .ok (.invokevirtual i, 3)) (k : ∀ σ', Qr σ' → J p l e R s m args below meth c nL G (vx_MQ below (QQ G Q) (XX G QX) args s mc ms (fr G)) (kc + mc') (ks + ms') (pc + 3) L st σ') : J p l e R s m args below meth c nL G (vx_MQ below (QQ G Q) (XX G QX) args s mc ms (fr G)) kc ks pc L stk σ :=
  J_xcallV F hM hlay hci hc hy hlk hin hse hini hco hd hR hst hkc hmc hT kx hs d (fun v σ' h => by obtain ⟨rfl, h⟩ := h; exact k σ' h)
theorem J_xcallS (F : FX p s m args meth c cc nL ret own G) {y : MethodName} {cy : ByteArray} {nL' fm lo i : Nat} {ret' : Option FieldType} {As : List Value} {Q' : Option Value → St → Prop} {mc' ms' mc ms : Nat} {QX' QX : String → St → Prop} {Q : Option Value → St → Prop} (hM : CnX l y cy nL' ret' fm lo mc' ms' G As σ Q' QX') (hlk : Cond.methodLink own i y ∈ TBL) (hin : Cond.static y ∈ TBL) (hini : Cond.initialized y.cls ∈ TBL) (hco : Cond.code y cy nL' ret' ∈ TBL) (hd : y.cls ≠ "java/lang/invoke/MethodHandle" ∧ y.cls ≠ "java/lang/invoke/VarHandle" ∧ (parseMethodDescriptor y.desc).map (fun d => d.parameters.length) = some As.length) (hR : fm + 1 ≤ R.frames ∧ 8 + (nL' + 11) + lo ≤ R.locals) (hst : (st.map fun v => v.category).sum ≤ 8) (hkc : kc + mc' ≤ R.cells ∧ ks + ms' ≤ R.slots) (hmc : kc + mc' ≤ mc ∧ ks + ms' ≤ ms) (hT : ∀ x ∈ c.exceptionTable.toList, False) (kx : ∀ E σ', QX' E σ' → QX E σ') (hs : stk = As.reverse ++ st) (d : decode cc pc = .ok (.invokestatic i, 3)) (k : ∀ v σ', Q' v σ' → J p l e R s m args below meth c nL G (vx_MQ below (QQ G Q) (XX G QX) args s mc ms (fr G)) (kc + mc') (ks + ms') (pc + 3) L (v.toList ++ st) σ') : J p l e R s m args below meth c nL G (vx_MQ below (QQ G Q) (XX G QX) args s mc ms (fr G)) kc ks pc L stk σ := by
  intro ls H locs hl hP hS
  have hts := F.2.2.2.2.2.2.1
  have cb : CallB R s args own i y cy nL' ret' (.code y cy nL' ret' :: TBL) (rmX fm lo mc' ms') mc' ms' As.length := callB_of As.length hts (tb_GoodIn hco) rfl rfl rfl (hts _ hini) (hts _ hlk) hd hR
  have hr := vx_runS (g := F0 m pc ls stk) (rest := st) (As := As) (H := H) (locs := locs) (cells := kc) (slots := ks) (p := p) (e := e) (below := below) (meth := meth) ⟨F.1, F.2.1, F.2.2.2.2.1, F.2.2.2.2.2.1, hts⟩ hM ⟨cb, hts _ hin⟩ ⟨fun a U g mk q => ⟨q.1, q.2.calling⟩, fun U hU hW => ⟨rfl, by rw [hU]; exact hP, va_K.moved hW.alike F.2.2.2.2.2.2.2.1, by rw [hU]; exact (F.2.2.2.2.2.2.2.2.kept hS.1 hS.2.1).warm hW⟩⟩ rfl rfl hl.1 hs (by simpa [JFrame.monitorRoom] using hst) d hkc
  intro T hT' X
  rcases hr T hT' X with ⟨v, st₀, t, T', L9, h0, X', hL, e1, e2, ⟨⟨v', σ', hv, hq, hP'⟩, hF⟩, hst'⟩ | ⟨q, st₀, t, T', L9, E, ce, h0, X', hL, e1, e2, ⟨⟨σ', hq, hP'⟩, hF⟩, hce, hcv, hcl, hst'⟩
  · cases hv
    obtain ⟨t2, a1, b1⟩ := k _ σ' hq ls T'.heap (locs ++ L9) hl (by rw [e1]; exact hP') (by rw [e1]; exact hS.calls h0 hF hL) T' rfl X'
    exact ⟨t2, hst' t2 a1, b1⟩
  · have hS2 : va_S (fr G) s.heap T'.heap (locs ++ L9) := by rw [e1]; exact hS.calls h0 hF hL
    obtain ⟨t2, a1, b1⟩ := vx_out (pc := pc) (ls := ls) (rest := st) (Qc := QQ G Q) (XC := XX G QX) (E := E) (ce := ce) (q := q) (mc := mc) (ms := ms) (free := fr G) (H := T'.heap) (fun x h => (hT x h).elim) F.2.2.2.1 (by rw [e1]; exact hce) hcv hcl (fun t9 ht9 _ => ⟨⟨σ', kx E σ' hq, by rw [ht9, e1]; exact hP'⟩, hS2.F ht9⟩) hS2.2.2 hmc.1 hmc.2 T' rfl X'
    exact ⟨t2, hst'.trans a1, b1⟩
theorem J_xcallSi (F : FX p s m args meth c cc nL ret own G) {y : MethodName} {cy : ByteArray} {nL' fm lo i : Nat} {ret' : Option FieldType} {As : List Value} {Qr : Int32 → St → Prop} {mc' ms' mc ms : Nat} {QX' QX : String → St → Prop} {Q : Option Value → St → Prop} (hM : CnX l y cy nL' ret' fm lo mc' ms' G As σ (qI Qr) QX') (hlk : Cond.methodLink own i y ∈ TBL) (hin : Cond.static y ∈ TBL) (hini : Cond.initialized y.cls ∈ TBL) (hco : Cond.code y cy nL' ret' ∈ TBL) (hd : y.cls ≠ "java/lang/invoke/MethodHandle" ∧ y.cls ≠ "java/lang/invoke/VarHandle" ∧ (parseMethodDescriptor y.desc).map (fun d => d.parameters.length) = some As.length) (hR : fm + 1 ≤ R.frames ∧ 8 + (nL' + 11) + lo ≤ R.locals) (hst : (st.map fun v => v.category).sum ≤ 8) (hkc : kc + mc' ≤ R.cells ∧ ks + ms' ≤ R.slots) (hmc : kc + mc' ≤ mc ∧ ks + ms' ≤ ms) (hT : ∀ x ∈ c.exceptionTable.toList, False) (kx : ∀ E σ', QX' E σ' → QX E σ') (hs : stk = As.reverse ++ st) (d : decode cc pc = .ok (.invokestatic i, 3)) (k : ∀ r σ', Qr r σ' → J p l e R s m args below meth c nL G (vx_MQ below (QQ G Q) (XX G QX) args s mc ms (fr G)) (kc + mc') (ks + ms') (pc + 3) L (.int r :: st) σ') : J p l e R s m args below meth c nL G (vx_MQ below (QQ G Q) (XX G QX) args s mc ms (fr G)) kc ks pc L stk σ :=
  J_xcallS F hM hlk hin hini hco hd hR hst hkc hmc hT kx hs d (fun v σ' h => by obtain ⟨r, rfl, h⟩ := h; exact k r σ' h)
theorem J_xcallSv (F : FX p s m args meth c cc nL ret own G) {y : MethodName} {cy : ByteArray} {nL' fm lo i : Nat} {ret' : Option FieldType} {As : List Value} {Qr : St → Prop} {mc' ms' mc ms : Nat} {QX' QX : String → St → Prop} {Q : Option Value → St → Prop} (hM : CnX l y cy nL' ret' fm lo mc' ms' G As σ (qV Qr) QX') (hlk : Cond.methodLink own i y ∈ TBL) (hin : Cond.static y ∈ TBL) (hini : Cond.initialized y.cls ∈ TBL) (hco : Cond.code y cy nL' ret' ∈ TBL) (hd : y.cls ≠ "java/lang/invoke/MethodHandle" ∧ y.cls ≠ "java/lang/invoke/VarHandle" ∧ (parseMethodDescriptor y.desc).map (fun d => d.parameters.length) = some As.length) (hR : fm + 1 ≤ R.frames ∧ 8 + (nL' + 11) + lo ≤ R.locals) (hst : (st.map fun v => v.category).sum ≤ 8) (hkc : kc + mc' ≤ R.cells ∧ ks + ms' ≤ R.slots) (hmc : kc + mc' ≤ mc ∧ ks + ms' ≤ ms) (hT : ∀ x ∈ c.exceptionTable.toList, False) (kx : ∀ E σ', QX' E σ' → QX E σ') (hs : stk = As.reverse ++ st) (d : decode cc pc = .ok (.invokestatic i, 3)) (k : ∀ σ', Qr σ' → J p l e R s m args below meth c nL G (vx_MQ below (QQ G Q) (XX G QX) args s mc ms (fr G)) (kc + mc') (ks + ms') (pc + 3) L st σ') : J p l e R s m args below meth c nL G (vx_MQ below (QQ G Q) (XX G QX) args s mc ms (fr G)) kc ks pc L stk σ :=
  J_xcallS F hM hlk hin hini hco hd hR hst hkc hmc hT kx hs d (fun v σ' h => by obtain ⟨rfl, h⟩ := h; exact k σ' h)
end CALLS
/-! loops: what is asked of a loop's head, n rounds at most -/
def LP1 {A : Type} (F : (A → Prop) → A → Prop) : Nat → A → Prop
  | 0 => fun _ => False
  | n + 1 => F (LP1 F n)

def LP2 {A0 A1 : Type} (F : (A0 → A1 → Prop) → A0 → A1 → Prop) : Nat → A0 → A1 → Prop
  | 0 => fun _ _ => False
  | n + 1 => F (LP2 F n)
def LP3 {A0 A1 A2 : Type} (F : (A0 → A1 → A2 → Prop) → A0 → A1 → A2 → Prop) : Nat → A0 → A1 → A2 → Prop
  | 0 => fun _ _ _ => False
  | n + 1 => F (LP3 F n)
def LP4 {A0 A1 A2 A3 : Type} (F : (A0 → A1 → A2 → A3 → Prop) → A0 → A1 → A2 → A3 → Prop) : Nat → A0 → A1 → A2 → A3 → Prop
  | 0 => fun _ _ _ _ => False
  | n + 1 => F (LP4 F n)
def LP5 {A0 A1 A2 A3 A4 : Type} (F : (A0 → A1 → A2 → A3 → A4 → Prop) → A0 → A1 → A2 → A3 → A4 → Prop) : Nat → A0 → A1 → A2 → A3 → A4 → Prop
  | 0 => fun _ _ _ _ _ => False
  | n + 1 => F (LP5 F n)
def LP6 {A0 A1 A2 A3 A4 A5 : Type} (F : (A0 → A1 → A2 → A3 → A4 → A5 → Prop) → A0 → A1 → A2 → A3 → A4 → A5 → Prop) : Nat → A0 → A1 → A2 → A3 → A4 → A5 → Prop
  | 0 => fun _ _ _ _ _ _ => False
  | n + 1 => F (LP6 F n)
def LP7 {A0 A1 A2 A3 A4 A5 A6 : Type} (F : (A0 → A1 → A2 → A3 → A4 → A5 → A6 → Prop) → A0 → A1 → A2 → A3 → A4 → A5 → A6 → Prop) : Nat → A0 → A1 → A2 → A3 → A4 → A5 → A6 → Prop
  | 0 => fun _ _ _ _ _ _ _ => False
  | n + 1 => F (LP7 F n)
def LP8 {A0 A1 A2 A3 A4 A5 A6 A7 : Type} (F : (A0 → A1 → A2 → A3 → A4 → A5 → A6 → A7 → Prop) → A0 → A1 → A2 → A3 → A4 → A5 → A6 → A7 → Prop) : Nat → A0 → A1 → A2 → A3 → A4 → A5 → A6 → A7 → Prop
  | 0 => fun _ _ _ _ _ _ _ _ => False
  | n + 1 => F (LP8 F n)
theorem LP1_in {A0 : Type} {F : (A0 → Prop) → A0 → Prop} (I : A0 → Prop) (μ : A0 → Nat) (hs : ∀ (ih : A0 → Prop) (x0 : A0), I x0 → (∀ (y0 : A0), I y0 → μ y0 < μ x0 → ih y0) → F ih x0) (x0 : A0) (h : I x0) : ∃ n, LP1 F n x0 := by
  have key : ∀ (n : Nat) (x0 : A0), I x0 → μ x0 ≤ n → LP1 F (n + 1) x0 := by
    intro n
    induction n with
    | zero => exact fun x0 hI hm => hs _ x0 hI (fun y0 _ hl => absurd hl (by omega))
    | succ n ihn => exact fun x0 hI hm => hs _ x0 hI (fun y0 hI' hl => ihn y0 hI' (by omega))
  exact ⟨_, key _ x0 h (Nat.le_refl _)⟩
theorem LP2_in {A0 A1 : Type} {F : (A0 → A1 → Prop) → A0 → A1 → Prop} (I : A0 → A1 → Prop) (μ : A0 → A1 → Nat) (hs : ∀ (ih : A0 → A1 → Prop) (x0 : A0) (x1 : A1), I x0 x1 → (∀ (y0 : A0) (y1 : A1), I y0 y1 → μ y0 y1 < μ x0 x1 → ih y0 y1) → F ih x0 x1) (x0 : A0) (x1 : A1) (h : I x0 x1) : ∃ n, LP2 F n x0 x1 := by
  have key : ∀ (n : Nat) (x0 : A0) (x1 : A1), I x0 x1 → μ x0 x1 ≤ n → LP2 F (n + 1) x0 x1 := by
    intro n
    induction n with
    | zero => exact fun x0 x1 hI hm => hs _ x0 x1 hI (fun y0 y1 _ hl => absurd hl (by omega))
    | succ n ihn => exact fun x0 x1 hI hm => hs _ x0 x1 hI (fun y0 y1 hI' hl => ihn y0 y1 hI' (by omega))
  exact ⟨_, key _ x0 x1 h (Nat.le_refl _)⟩
theorem LP3_in {A0 A1 A2 : Type} {F : (A0 → A1 → A2 → Prop) → A0 → A1 → A2 → Prop} (I : A0 → A1 → A2 → Prop) (μ : A0 → A1 → A2 → Nat) (hs : ∀ (ih : A0 → A1 → A2 → Prop) (x0 : A0) (x1 : A1) (x2 : A2), I x0 x1 x2 → (∀ (y0 : A0) (y1 : A1) (y2 : A2), I y0 y1 y2 → μ y0 y1 y2 < μ x0 x1 x2 → ih y0 y1 y2) → F ih x0 x1 x2) (x0 : A0) (x1 : A1) (x2 : A2) (h : I x0 x1 x2) : ∃ n, LP3 F n x0 x1 x2 := by
  have key : ∀ (n : Nat) (x0 : A0) (x1 : A1) (x2 : A2), I x0 x1 x2 → μ x0 x1 x2 ≤ n → LP3 F (n + 1) x0 x1 x2 := by
    intro n
    induction n with
    | zero => exact fun x0 x1 x2 hI hm => hs _ x0 x1 x2 hI (fun y0 y1 y2 _ hl => absurd hl (by omega))
    | succ n ihn => exact fun x0 x1 x2 hI hm => hs _ x0 x1 x2 hI (fun y0 y1 y2 hI' hl => ihn y0 y1 y2 hI' (by omega))
  exact ⟨_, key _ x0 x1 x2 h (Nat.le_refl _)⟩
theorem LP4_in {A0 A1 A2 A3 : Type} {F : (A0 → A1 → A2 → A3 → Prop) → A0 → A1 → A2 → A3 → Prop} (I : A0 → A1 → A2 → A3 → Prop) (μ : A0 → A1 → A2 → A3 → Nat) (hs : ∀ (ih : A0 → A1 → A2 → A3 → Prop) (x0 : A0) (x1 : A1) (x2 : A2) (x3 : A3), I x0 x1 x2 x3 → (∀ (y0 : A0) (y1 : A1) (y2 : A2) (y3 : A3), I y0 y1 y2 y3 → μ y0 y1 y2 y3 < μ x0 x1 x2 x3 → ih y0 y1 y2 y3) → F ih x0 x1 x2 x3) (x0 : A0) (x1 : A1) (x2 : A2) (x3 : A3) (h : I x0 x1 x2 x3) : ∃ n, LP4 F n x0 x1 x2 x3 := by
  have key : ∀ (n : Nat) (x0 : A0) (x1 : A1) (x2 : A2) (x3 : A3), I x0 x1 x2 x3 → μ x0 x1 x2 x3 ≤ n → LP4 F (n + 1) x0 x1 x2 x3 := by
    intro n
    induction n with
    | zero => exact fun x0 x1 x2 x3 hI hm => hs _ x0 x1 x2 x3 hI (fun y0 y1 y2 y3 _ hl => absurd hl (by omega))
    | succ n ihn => exact fun x0 x1 x2 x3 hI hm => hs _ x0 x1 x2 x3 hI (fun y0 y1 y2 y3 hI' hl => ihn y0 y1 y2 y3 hI' (by omega))
  exact ⟨_, key _ x0 x1 x2 x3 h (Nat.le_refl _)⟩
theorem LP5_in {A0 A1 A2 A3 A4 : Type} {F : (A0 → A1 → A2 → A3 → A4 → Prop) → A0 → A1 → A2 → A3 → A4 → Prop} (I : A0 → A1 → A2 → A3 → A4 → Prop) (μ : A0 → A1 → A2 → A3 → A4 → Nat) (hs : ∀ (ih : A0 → A1 → A2 → A3 → A4 → Prop) (x0 : A0) (x1 : A1) (x2 : A2) (x3 : A3) (x4 : A4), I x0 x1 x2 x3 x4 → (∀ (y0 : A0) (y1 : A1) (y2 : A2) (y3 : A3) (y4 : A4), I y0 y1 y2 y3 y4 → μ y0 y1 y2 y3 y4 < μ x0 x1 x2 x3 x4 → ih y0 y1 y2 y3 y4) → F ih x0 x1 x2 x3 x4) (x0 : A0) (x1 : A1) (x2 : A2) (x3 : A3) (x4 : A4) (h : I x0 x1 x2 x3 x4) : ∃ n, LP5 F n x0 x1 x2 x3 x4 := by
  have key : ∀ (n : Nat) (x0 : A0) (x1 : A1) (x2 : A2) (x3 : A3) (x4 : A4), I x0 x1 x2 x3 x4 → μ x0 x1 x2 x3 x4 ≤ n → LP5 F (n + 1) x0 x1 x2 x3 x4 := by
    intro n
    induction n with
    | zero => exact fun x0 x1 x2 x3 x4 hI hm => hs _ x0 x1 x2 x3 x4 hI (fun y0 y1 y2 y3 y4 _ hl => absurd hl (by omega))
    | succ n ihn => exact fun x0 x1 x2 x3 x4 hI hm => hs _ x0 x1 x2 x3 x4 hI (fun y0 y1 y2 y3 y4 hI' hl => ihn y0 y1 y2 y3 y4 hI' (by omega))
  exact ⟨_, key _ x0 x1 x2 x3 x4 h (Nat.le_refl _)⟩
theorem LP6_in {A0 A1 A2 A3 A4 A5 : Type} {F : (A0 → A1 → A2 → A3 → A4 → A5 → Prop) → A0 → A1 → A2 → A3 → A4 → A5 → Prop} (I : A0 → A1 → A2 → A3 → A4 → A5 → Prop) (μ : A0 → A1 → A2 → A3 → A4 → A5 → Nat) (hs : ∀ (ih : A0 → A1 → A2 → A3 → A4 → A5 → Prop) (x0 : A0) (x1 : A1) (x2 : A2) (x3 : A3) (x4 : A4) (x5 : A5), I x0 x1 x2 x3 x4 x5 → (∀ (y0 : A0) (y1 : A1) (y2 : A2) (y3 : A3) (y4 : A4) (y5 : A5), I y0 y1 y2 y3 y4 y5 → μ y0 y1 y2 y3 y4 y5 < μ x0 x1 x2 x3 x4 x5 → ih y0 y1 y2 y3 y4 y5) → F ih x0 x1 x2 x3 x4 x5) (x0 : A0) (x1 : A1) (x2 : A2) (x3 : A3) (x4 : A4) (x5 : A5) (h : I x0 x1 x2 x3 x4 x5) : ∃ n, LP6 F n x0 x1 x2 x3 x4 x5 := by
  have key : ∀ (n : Nat) (x0 : A0) (x1 : A1) (x2 : A2) (x3 : A3) (x4 : A4) (x5 : A5), I x0 x1 x2 x3 x4 x5 → μ x0 x1 x2 x3 x4 x5 ≤ n → LP6 F (n + 1) x0 x1 x2 x3 x4 x5 := by
    intro n
    induction n with
    | zero => exact fun x0 x1 x2 x3 x4 x5 hI hm => hs _ x0 x1 x2 x3 x4 x5 hI (fun y0 y1 y2 y3 y4 y5 _ hl => absurd hl (by omega))
    | succ n ihn => exact fun x0 x1 x2 x3 x4 x5 hI hm => hs _ x0 x1 x2 x3 x4 x5 hI (fun y0 y1 y2 y3 y4 y5 hI' hl => ihn y0 y1 y2 y3 y4 y5 hI' (by omega))
  exact ⟨_, key _ x0 x1 x2 x3 x4 x5 h (Nat.le_refl _)⟩
theorem LP7_in {A0 A1 A2 A3 A4 A5 A6 : Type} {F : (A0 → A1 → A2 → A3 → A4 → A5 → A6 → Prop) → A0 → A1 → A2 → A3 → A4 → A5 → A6 → Prop} (I : A0 → A1 → A2 → A3 → A4 → A5 → A6 → Prop) (μ : A0 → A1 → A2 → A3 → A4 → A5 → A6 → Nat) (hs : ∀ (ih : A0 → A1 → A2 → A3 → A4 → A5 → A6 → Prop) (x0 : A0) (x1 : A1) (x2 : A2) (x3 : A3) (x4 : A4) (x5 : A5) (x6 : A6), I x0 x1 x2 x3 x4 x5 x6 → (∀ (y0 : A0) (y1 : A1) (y2 : A2) (y3 : A3) (y4 : A4) (y5 : A5) (y6 : A6), I y0 y1 y2 y3 y4 y5 y6 → μ y0 y1 y2 y3 y4 y5 y6 < μ x0 x1 x2 x3 x4 x5 x6 → ih y0 y1 y2 y3 y4 y5 y6) → F ih x0 x1 x2 x3 x4 x5 x6) (x0 : A0) (x1 : A1) (x2 : A2) (x3 : A3) (x4 : A4) (x5 : A5) (x6 : A6) (h : I x0 x1 x2 x3 x4 x5 x6) : ∃ n, LP7 F n x0 x1 x2 x3 x4 x5 x6 := by
  have key : ∀ (n : Nat) (x0 : A0) (x1 : A1) (x2 : A2) (x3 : A3) (x4 : A4) (x5 : A5) (x6 : A6), I x0 x1 x2 x3 x4 x5 x6 → μ x0 x1 x2 x3 x4 x5 x6 ≤ n → LP7 F (n + 1) x0 x1 x2 x3 x4 x5 x6 := by
    intro n
    induction n with
    | zero => exact fun x0 x1 x2 x3 x4 x5 x6 hI hm => hs _ x0 x1 x2 x3 x4 x5 x6 hI (fun y0 y1 y2 y3 y4 y5 y6 _ hl => absurd hl (by omega))
    | succ n ihn => exact fun x0 x1 x2 x3 x4 x5 x6 hI hm => hs _ x0 x1 x2 x3 x4 x5 x6 hI (fun y0 y1 y2 y3 y4 y5 y6 hI' hl => ihn y0 y1 y2 y3 y4 y5 y6 hI' (by omega))
  exact ⟨_, key _ x0 x1 x2 x3 x4 x5 x6 h (Nat.le_refl _)⟩
theorem LP8_in {A0 A1 A2 A3 A4 A5 A6 A7 : Type} {F : (A0 → A1 → A2 → A3 → A4 → A5 → A6 → A7 → Prop) → A0 → A1 → A2 → A3 → A4 → A5 → A6 → A7 → Prop} (I : A0 → A1 → A2 → A3 → A4 → A5 → A6 → A7 → Prop) (μ : A0 → A1 → A2 → A3 → A4 → A5 → A6 → A7 → Nat) (hs : ∀ (ih : A0 → A1 → A2 → A3 → A4 → A5 → A6 → A7 → Prop) (x0 : A0) (x1 : A1) (x2 : A2) (x3 : A3) (x4 : A4) (x5 : A5) (x6 : A6) (x7 : A7), I x0 x1 x2 x3 x4 x5 x6 x7 → (∀ (y0 : A0) (y1 : A1) (y2 : A2) (y3 : A3) (y4 : A4) (y5 : A5) (y6 : A6) (y7 : A7), I y0 y1 y2 y3 y4 y5 y6 y7 → μ y0 y1 y2 y3 y4 y5 y6 y7 < μ x0 x1 x2 x3 x4 x5 x6 x7 → ih y0 y1 y2 y3 y4 y5 y6 y7) → F ih x0 x1 x2 x3 x4 x5 x6 x7) (x0 : A0) (x1 : A1) (x2 : A2) (x3 : A3) (x4 : A4) (x5 : A5) (x6 : A6) (x7 : A7) (h : I x0 x1 x2 x3 x4 x5 x6 x7) : ∃ n, LP8 F n x0 x1 x2 x3 x4 x5 x6 x7 := by
  have key : ∀ (n : Nat) (x0 : A0) (x1 : A1) (x2 : A2) (x3 : A3) (x4 : A4) (x5 : A5) (x6 : A6) (x7 : A7), I x0 x1 x2 x3 x4 x5 x6 x7 → μ x0 x1 x2 x3 x4 x5 x6 x7 ≤ n → LP8 F (n + 1) x0 x1 x2 x3 x4 x5 x6 x7 := by
    intro n
    induction n with
    | zero => exact fun x0 x1 x2 x3 x4 x5 x6 x7 hI hm => hs _ x0 x1 x2 x3 x4 x5 x6 x7 hI (fun y0 y1 y2 y3 y4 y5 y6 y7 _ hl => absurd hl (by omega))
    | succ n ihn => exact fun x0 x1 x2 x3 x4 x5 x6 x7 hI hm => hs _ x0 x1 x2 x3 x4 x5 x6 x7 hI (fun y0 y1 y2 y3 y4 y5 y6 y7 hI' hl => ihn y0 y1 y2 y3 y4 y5 y6 y7 hI' (by omega))
  exact ⟨_, key _ x0 x1 x2 x3 x4 x5 x6 x7 h (Nat.le_refl _)⟩
