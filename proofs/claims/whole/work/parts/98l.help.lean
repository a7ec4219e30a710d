/-! THE LAW'S HELPERS: rows for a body with handlers -/
section HELP
variable {p : Program} {l : Launch} {e : Env} {R : Room} {s : State} {m : MethodId} {args : Array Value} {below : List Frame} {meth : Method} {c : Code} {cc : ByteArray} {nL : Nat} {ret : Option FieldType} {own : String} {G : Gp} {Qm : State → Prop} {kc ks pc : Nat} {L L' : List (Nat × Value)} {st stk : List Value} {σ : St}
def CnW (l : Launch) (y : MethodName) (cy : ByteArray) (nL : Nat) (ret : Option FieldType) (hh : List (Nat × Nat × Nat × Nat)) (fm lo mc ms : Nat) (G : Gp) (av : List Value) (σ : St) (Q : Option Value → St → Prop) : Prop :=
  Met l y (.codeWith y cy nL ret hh :: TBL) (rmX fm lo mc ms) (va_Pc av (Inv G σ)) (QQ G Q) mc ms (fr G)
theorem met_ofWH {y : MethodName} {ws ws' : List Cond} {rm : Room} {Pc : Array Value → State → Prop} {Qc : Array Value → State → Outcome → State → Prop} {mc ms : Nat} {free : Addr → Prop} {cc : ByteArray} {maxL : Nat} {ret : Option FieldType} {hh : List (Nat × Nat × Nat × Nat)}
    (hy : plainName y.cls = true) (hw : ws = Cond.codeWith y cc maxL ret hh :: ws')
    (body : ∀ p e s m args below meth c s₁, BodyLoose p l y (headSpec ws rm) cc maxL ret e s m args below meth c s₁ → c.maxLocals = maxL → Pc args s →
      W p l e (headSpec ws rm).room s m args below meth c s.heap [] 0 0 (MQ below Qc args s mc ms free) (entryFrame m args maxL)) : Met l y ws rm Pc Qc mc ms free := by
  refine MetFree.of_bodyS (code := cc) (maxLocals := maxL) (ret := ret) hy ?_ ?_
  · intro args s m h hn
    obtain ⟨m9, meth, c, hn9, h1, h2, h3, h4, -, h5, h6, -⟩ := Cond.codeWith_spec (atoms_spec (ws := ws) h _ (by rw [hw]; exact List.mem_cons_self))
    cases hn.symm.trans hn9
    exact ⟨meth, c, h1, h2, h3, h4, h5, h6⟩
  · intro p e s m args below meth c s₁ B hml hP _
    have hh0 : s₁.heap = s.heap := by rw [B.state]; rfl
    obtain ⟨t, a1, o, b1, b2, b3⟩ := body p e s m args below meth c s₁ B hml hP s₁ hh0 (Stand.of_body B)
    exact ⟨t, o, a1, b1, b2, ⟨b3.1, b3.2⟩⟩
theorem CnW_of {y : MethodName} {cy : ByteArray} {hh : List (Nat × Nat × Nat × Nat)} {fm lo mc ms : Nat} {av : List Value} {Q : Option Value → St → Prop} (own : String) (hpl : plainName y.cls = true) (hyo : y.cls = own) (hav : (lg_sl av).length ≤ nL) (hL : lv_args 0 av = L)
    (body : ∀ (p : Program) (e : Env) (s : State) (m : MethodId) (below : List Frame) (meth : Method) (c : Code), FX p s m av.toArray meth c cy nL ret own G → c.exceptionTable.toList = tableOf hh → J p l e (rmX fm lo mc ms) s m av.toArray below meth c nL G (MQ below (QQ G Q) av.toArray s mc ms (fr G)) 0 0 0 L [] σ) : CnW l y cy nL ret hh fm lo mc ms G av σ Q := by
  refine met_ofWH (cc := cy) (maxL := nL) (ret := ret) hpl rfl ?_
  intro p e s m args below meth c s₁ B hml hv
  obtain ⟨rfl, hP, hK, hSx⟩ := hv
  have hts := atoms_spec (ws := .codeWith y cy nL ret hh :: TBL) B.pre
  have htab := vx_table (x := y) B (hts _ List.mem_cons_self)
  have hown : s.vm.findClass y.cls = some m.cls := findClass_of_methodNamed B.named
  have hl := lv_entry av (n := nL) hav
  rw [lg_entry_eq]
  generalize (lg_sl av ++ List.replicate (nL - (lg_sl av).length) Slot.unset).toArray = ls at hl ⊢
  exact body p e s m below meth c ⟨B.exec, B.bytes, B.returns, B.notSynchronized, hml, hyo ▸ hown, fun w h => hts w (List.mem_cons_of_mem _ h), hK, hSx⟩ htab ls s.heap [] (hL ▸ hl) hP va_S.rf
theorem J_retiW (F : FX p s m args meth c cc nL (some .int) own G) {Q : Option Value → St → Prop} {mc ms : Nat} (h1 : kc ≤ mc) (h2 : ks ≤ ms) {v : Int32} (hq : Q (some (.int v)) σ) (d : decode cc pc = .ok (.ireturn, 1)) : J p l e R s m args below meth c nL G (MQ below (QQ G Q) args s mc ms (fr G)) kc ks pc L [.int v] σ :=
  fun ls H locs hl hP hS => W.widen h1 h2 (W.iret F.1 F.2.1 F.2.2.1 (fun t ht _ => ⟨⟨_, σ, rfl, hq, by rw [ht]; exact hP⟩, hS.F ht⟩) hS.2.2 d F.2.2.2.1)
/-- a thrown E is caught here, at h -/
def ctch (own : String) (pc : Nat) (tb : List ExceptionTableEntry) (E : String) (h : Nat) : Prop :=
  ∃ pre x suf, tb = pre ++ x :: suf ∧ (∀ z ∈ pre, z.catchType ≠ 0 ∧ ∃ nm ∈ excs, Cond.classLink own z.catchType nm ∈ TBL ∧ E ≠ nm) ∧ covers x pc = true ∧ x.catchType ≠ 0 ∧ Cond.classLink own x.catchType E ∈ TBL ∧ E ∈ excs ∧ x.handlerPc = h
theorem J_tcallV (F : FX p s m args meth c cc nL ret own G) {y : MethodName} {cy : ByteArray} {nL' fm lo i : Nat} {ret' : Option FieldType} {As : List Value} {Q' : Option Value → St → Prop} {mc' ms' : Nat} {QX' : String → St → Prop} {a ci : Nat} {C : String} {T : u_T} {N : Nat} (hM : CnX l y cy nL' ret' fm lo mc' ms' G (.ref (gb G + a) :: As) σ Q' QX') (hlay : lay a = (ci, 0)) (hci : ci < 10) (hc : vwCl[ci]? = some (C, T, N)) (hy : y.cls = C) (hlk : Cond.methodLink own i y ∈ TBL) (hin : Cond.instanceMethod y ∈ TBL) (hse : Cond.selects C y y ∈ TBL) (hini : Cond.initialized C ∈ TBL) (hco : Cond.code y cy nL' ret' ∈ TBL) (hd : y.cls ≠ "java/lang/invoke/MethodHandle" ∧ y.cls ≠ "java/lang/invoke/VarHandle" ∧ (parseMethodDescriptor y.desc).map (fun d => d.parameters.length) = some As.length) (hR : fm + 1 ≤ R.frames ∧ 8 + (nL' + 11) + lo ≤ R.locals) (hst : (st.map fun v => v.category).sum ≤ 8) (hkc : kc + mc' ≤ R.cells ∧ ks + ms' ≤ R.slots)
    (kx : ∀ E σ', QX' E σ' → ∃ h, ctch own pc c.exceptionTable.toList E h ∧ ∀ q : Nat, J p l e R s m args below meth c nL G Qm (kc + mc') (ks + ms') h L [.ref q] σ') (hs : stk = As.reverse ++ .ref (gb G + a) :: st) (d : decode cc pc = .ok (.invokevirtual i, 3)) (k : ∀ v σ', Q' v σ' → J p l e R s m args below meth c nL G Qm (kc + mc') (ks + ms') (pc + 3) L (v.toList ++ st) σ') : J p l e R s m args below meth c nL G Qm kc ks pc L stk σ := by
  intro ls H locs hl hP hS
  have hts := F.2.2.2.2.2.2.1
  have hx4 := F.2.2.2.2.2.2.2.2.2.2.2.1
  have cb : CallB R s args own i y cy nL' ret' (.code y cy nL' ret' :: TBL) (rmX fm lo mc' ms') mc' ms' As.length := callB_of As.length hts (tb_GoodIn hco) rfl rfl rfl (by rw [hy]; exact hts _ hini) (hts _ hlk) hd hR
  have hre : ∃ cellB : Cell, H[gb G + a]? = some cellB ∧ cellB.vm.isStatics = false ∧ s.vm.findClass C = some cellB.cls := by
    have h1 := hP a _ (ws_get G σ (lay_lt hlay (by omega)))
    rw [ent_o hlay hci] at h1
    obtain ⟨r, hr1, cell, q1, q2, q3, -⟩ := h1
    refine ⟨cell, q1, by rw [q3]; rfl, ?_⟩
    rw [q2]
    exact (F.2.2.2.2.2.2.2.1.1 ci _ hc).2.1
  have hr := vx_runV (g := F0 m pc ls stk) (rest := st) (As := As) (H := H) (locs := locs) (cells := kc) (slots := ks) (p := p) (e := e) (below := below) (meth := meth) ⟨F.1, F.2.1, F.2.2.2.2.1, F.2.2.2.2.2.1, hts⟩ hM ⟨cb, hts _ hin, hts _ hse⟩ ⟨fun a U g mk q => ⟨q.1, q.2.calling⟩, hre, fun U hU hW => ⟨rfl, by rw [hU]; exact hP, va_K.moved hW.alike F.2.2.2.2.2.2.2.1, by rw [hU]; exact (F.2.2.2.2.2.2.2.2.kept hS.1 hS.2.1).warm hW⟩⟩ rfl rfl hl.1 hs (by simpa [JFrame.monitorRoom] using hst) d hkc
  intro T hT' X
  rcases hr T hT' X with ⟨v, st₀, t, T', L9, h0, X', hL, e1, e2, ⟨⟨v', σ', hv, hq, hP'⟩, hF⟩, hst'⟩ | ⟨q, st₀, t, T', L9, E, ce, h0, X', hL, e1, e2, ⟨⟨σ', hq, hP'⟩, hF⟩, hce, hcv, hcl, hst'⟩
  · cases hv
    obtain ⟨t2, a1, b1⟩ := k _ σ' hq ls T'.heap (locs ++ L9) hl (by rw [e1]; exact hP') (by rw [e1]; exact hS.calls h0 hF hL) T' rfl X'
    exact ⟨t2, hst' t2 a1, b1⟩
  · have hS2 : va_S (fr G) s.heap T'.heap (locs ++ L9) := by rw [e1]; exact hS.calls h0 hF hL
    obtain ⟨h, ⟨pre, x, suf, hsp, hpre, hcov, hx0, hlk2, hE, rfl⟩, hk⟩ := kx E σ' hq
    obtain ⟨t2, a1, b1⟩ := vx_catch (own := own) (name := E) (E := E) (ce := ce) (q := q) (H := T'.heap) (pc := pc) (ls := ls) (rest := st) F.2.2.2.2.2.1 pre x suf hsp (fun z hz => by
      obtain ⟨z0, nm, hnm, hl1, hne⟩ := hpre z hz
      exact Or.inr ⟨z0, nm, hts _ hl1, hx4.2.2 E hE nm hnm hne⟩) hcov hx0 (hts _ hlk2) (va_Nw.use rfl (hx4.2.1 E hE)) (by rw [e1]; exact hce) hcv hcl (hk q ls T'.heap (locs ++ L9) hl (by rw [e1]; exact hP') hS2) T' rfl X'
    exact ⟨t2, hst'.trans a1, b1⟩
end HELP
