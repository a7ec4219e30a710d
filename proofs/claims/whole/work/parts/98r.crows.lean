/-! THE CONSTRUCTORS: worlds that grow, the cells k0 to k0 + nw of the store -/
def wsI (G : Gp) (k0 nw : Nat) (E : Nat → va_E) : va_W := (List.range nw).map (fun j => (gb G + (k0 + j), E j))
theorem wsI_get {G : Gp} {k0 nw : Nat} {E : Nat → va_E} {j : Nat} (hj : j < nw) : (wsI G k0 nw E)[j]? = some (gb G + (k0 + j), E j) := by
  simp [wsI, List.getElem?_range hj]
theorem wsI_some {G : Gp} {k0 nw : Nat} {E : Nat → va_E} {j : Nat} {q : Nat × va_E} (h : (wsI G k0 nw E)[j]? = some q) : j < nw ∧ q = (gb G + (k0 + j), E j) := by
  have hl := (List.getElem?_eq_some_iff.mp h).1
  have hj : j < nw := by simpa [wsI] using hl
  rw [wsI_get hj] at h
  exact ⟨hj, (Option.some.inj h).symm⟩
def vu (E : Nat → va_E) (i : Nat) (e : va_E) : Nat → va_E := fun j => if j = i then e else E j
theorem wsI_set (G : Gp) (k0 nw : Nat) (E : Nat → va_E) {j : Nat} (hj : j < nw) (e : va_E) : (wsI G k0 nw E).set j (gb G + (k0 + j), e) = wsI G k0 nw (vu E j e) := by
  apply List.ext_getElem?
  intro i
  by_cases hi : i < nw
  · rw [wsI_get hi]
    by_cases hij : i = j
    · subst hij
      rw [List.getElem?_set_self (by simpa [wsI] using hi)]
      simp [vu]
    · rw [List.getElem?_set_ne (Ne.symm hij), wsI_get hi]
      simp [vu, hij]
  · rw [List.getElem?_eq_none (by simpa [wsI] using hi), List.getElem?_eq_none (by simpa [wsI] using hi)]
theorem va_P.of_I {G : Gp} {k0 nw : Nat} {E : Nat → va_E} {H : Heap} (h : ∀ j, j < nw → va_at (gD G) vwCl (gb G + (k0 + j), E j) H) : va_P (gD G) vwCl (wsI G k0 nw E) H := fun j q hq => by
  obtain ⟨h1, h2⟩ := wsI_some hq
  rw [h2]
  exact h j h1
theorem va_P.to_I {G : Gp} {k0 nw : Nat} {E : Nat → va_E} {H : Heap} (h : va_P (gD G) vwCl (wsI G k0 nw E) H) {j : Nat} (hj : j < nw) : va_at (gD G) vwCl (gb G + (k0 + j), E j) H := h j _ (wsI_get hj)
theorem wsI_D (G : Gp) (k0 nw : Nat) (E : Nat → va_E) : va_D (fun q => gb G + k0 ≤ q) (wsI G k0 nw E) := by
  refine ⟨fun i j p q hi hj e => ?_, fun k q hk => ?_⟩
  · rw [(wsI_some hi).2, (wsI_some hj).2] at e
    dsimp only at e
    omega
  · rw [(wsI_some hk).2]
    show gb G + k0 ≤ gb G + (k0 + k)
    omega
theorem va_P.pushI {G : Gp} {k0 nw : Nat} {E : Nat → va_E} {H H1 : Heap} {e : va_E} (hP : va_P (gD G) vwCl (wsI G k0 nw E) H) (hZ : H.size = gb G + (k0 + nw)) (o1 : ∀ q : Nat, q < H.size → H1[q]? = H[q]?) (he : va_at (gD G) vwCl (gb G + (k0 + nw), e) H1) : va_P (gD G) vwCl (wsI G k0 (nw + 1) (vu E nw e)) H1 := by
  refine va_P.of_I fun j hj => ?_
  by_cases h : j = nw
  · subst h
    simpa [vu] using he
  · have h1 := hP.to_I (j := j) (by omega)
    simp only [vu, if_neg h]
    exact h1.kept (o1 _ (by rw [hZ]; show gb G + (k0 + j) < _; omega))
def pf (G : Gp) (k0 : Nat) (es : List va_E) : Nat → va_E := fun j => (es[j]?).getD (ent G (k0 + j) (st0 (k0 + j)))
/-- a class's fields when an object is made -/
def df (ci : Nat) : List Value := (fsp ci).map (fun q => if q.1 = 0 then .int 0 else .null)
/-- what the constructors need beside the tables' words: links of nest mates, arrays of objects -/
def Nx (U : State) : Prop := (va_Nw (.methodLinkNest RX8 11 yX6_init RX8) U ∧ va_Nw (.methodLinkNest RX8 27 yX0_init RX8) U ∧ va_Nw (.methodLinkNest RX8 41 yX7_init RX8) U ∧ va_Nw (.methodLinkNest RX1 46 yX4_init RX8) U) ∧ va_AO RX1 U ∧ va_AO RX4 U
theorem Nx.warm {s U : State} (hW : s.WarmedH U.vm) (h : Nx s) : Nx U := by
  obtain ⟨⟨a1, a2, a3, a4⟩, b1, b2⟩ := h
  exact ⟨⟨a1.warmM hW, a2.warmM hW, a3.warmM hW, a4.warmM hW⟩, b1.moved hW.alike, b2.moved hW.alike⟩
abbrev fk (G : Gp) (k0 : Nat) : Nat → Prop := fun q => gb G + k0 ≤ q
/-- what a constructor finds and leaves -/
def PI (G : Gp) (k ci : Nat) (U : State) : Prop := U.heap.size = gb G + (k + 1) ∧ va_at (gD G) vwCl (gb G + k, .inr (ci, df ci)) U.heap ∧ va_K (gD G) vwCl (gT G) U ∧ Sx G U U.heap ∧ Nx U
def QI (G : Gp) (k len : Nat) : Array Value → State → Outcome → State → Prop := fun _ st o t => (o = .returned none ∧ t.heap.size = gb G + (k + len) ∧ ∀ j, j < len → va_at (gD G) vwCl (gb G + (k + j), ent G (k + j) (st0 (k + j))) t.heap) ∧ va_F (fk G k) st t
def CI (l : Launch) (y : MethodName) (cy : ByteArray) (nL fm lo mc ms : Nat) (G : Gp) (k ci len : Nat) (av : List Value) : Prop :=
  Met l y (.code y cy nL none :: TBL) (rmX fm lo mc ms) (va_Pc (.ref (gb G + k) :: av) (PI G k ci)) (QI G k len) mc ms (fk G k)
/-- the machine at a place of a constructor -/
def JI (p : Program) (l : Launch) (e : Env) (R : Room) (s : State) (m : MethodId) (args : Array Value) (below : List Frame) (meth : Method) (c : Code) (nL : Nat) (G : Gp) (k0 : Nat) (Qm : State → Prop) (kc ks : Nat) (pc : Nat) (L : List (Nat × Value)) (st : List Value) (nw : Nat) (E : Nat → va_E) : Prop :=
  ∀ (ls : Array Slot) (H : Heap) (locs : List Loc), lv_has ls nL L → va_P (gD G) vwCl (wsI G k0 nw E) H → H.size = gb G + (k0 + nw) → va_S (fk G k0) s.heap H locs → W p l e R s m args below meth c H locs kc ks Qm (F0 m pc ls st)
section IROWS
variable {p : Program} {l : Launch} {e : Env} {R : Room} {s : State} {m : MethodId} {args : Array Value} {below : List Frame} {meth : Method} {c : Code} {cc : ByteArray} {nL : Nat} {ret : Option FieldType} {own : String} {G : Gp} {Qm : State → Prop} {kc ks pc : Nat} {L L' : List (Nat × Value)} {st stk : List Value} {k0 nw : Nat} {E : Nat → va_E}
theorem JI_ic (F : FX p s m args meth c cc nL ret own G) {n : Int} {v : Int32} (d : decode cc pc = .ok (.iconst n, 1)) (hv : Int32.ofInt n = v) (k : JI p l e R s m args below meth c nL G k0 Qm kc ks (pc + 1) L (.int v :: st) nw E) : JI p l e R s m args below meth c nL G k0 Qm kc ks pc L st nw E :=
  fun ls H locs hl hP hZ hS => lv_iconst F.1 F.2.1 d hv (k ls H locs hl hP hZ hS)
theorem JI_bi (F : FX p s m args meth c cc nL ret own G) {n : Int} {v : Int32} (d : decode cc pc = .ok (.bipush n, 2)) (hv : (Int8.ofInt n).toInt32 = v) (k : JI p l e R s m args below meth c nL G k0 Qm kc ks (pc + 2) L (.int v :: st) nw E) : JI p l e R s m args below meth c nL G k0 Qm kc ks pc L st nw E :=
  fun ls H locs hl hP hZ hS => lv_bipush F.1 F.2.1 d hv (k ls H locs hl hP hZ hS)
theorem JI_si (F : FX p s m args meth c cc nL ret own G) {n : Int} {v : Int32} (d : decode cc pc = .ok (.sipush n, 3)) (hv : (Int16.ofInt n).toInt32 = v) (k : JI p l e R s m args below meth c nL G k0 Qm kc ks (pc + 3) L (.int v :: st) nw E) : JI p l e R s m args below meth c nL G k0 Qm kc ks pc L st nw E :=
  fun ls H locs hl hP hZ hS => lv_sipush F.1 F.2.1 d hv (k ls H locs hl hP hZ hS)
theorem JI_ldc (F : FX p s m args meth c cc nL ret own G) {i : Nat} {v : Int32} (d : decode cc pc = .ok (.ldc i, 2)) (hc : Cond.constant own i v ∈ TBL) (k : JI p l e R s m args below meth c nL G k0 Qm kc ks (pc + 2) L (.int v :: st) nw E) : JI p l e R s m args below meth c nL G k0 Qm kc ks pc L st nw E :=
  fun ls H locs hl hP hZ hS => lv_ldc F.1 F.2.1 F.2.2.2.2.2.1 (F.2.2.2.2.2.2.1 _ hc) d (k ls H locs hl hP hZ hS)
theorem JI_iln (F : FX p s m args meth c cc nL ret own G) {q : Fin 4} {i : Nat} {x : Int32} (j : Nat) (d : decode cc pc = .ok (.iload_n q, 1)) (hi : (q : Nat) = i) (hj : L[j]? = some (i, .int x)) (k : JI p l e R s m args below meth c nL G k0 Qm kc ks (pc + 1) L (.int x :: st) nw E) : JI p l e R s m args below meth c nL G k0 Qm kc ks pc L st nw E :=
  fun ls H locs hl hP hZ hS => lv_iload_n F.1 F.2.1 d hi (lv_at hl j hj) (k ls H locs hl hP hZ hS)
theorem JI_aln (F : FX p s m args meth c cc nL ret own G) {q : Fin 4} {i : Nat} {x : Nat} (j : Nat) (d : decode cc pc = .ok (.aload_n q, 1)) (hi : (q : Nat) = i) (hj : L[j]? = some (i, .ref x)) (k : JI p l e R s m args below meth c nL G k0 Qm kc ks (pc + 1) L (.ref x :: st) nw E) : JI p l e R s m args below meth c nL G k0 Qm kc ks pc L st nw E :=
  fun ls H locs hl hP hZ hS => lv_aload_n F.1 F.2.1 d hi (lv_at hl j hj) (k ls H locs hl hP hZ hS)
theorem JI_isn (F : FX p s m args meth c cc nL ret own G) {q : Fin 4} {i : Nat} {x : Int32} (d : decode cc pc = .ok (.istore_n q, 1)) (hi : (q : Nat) = i) (hn : i < nL) (hL : (i, Value.int x) :: L.filter (fun q => !(q.1 == i) && !(q.1 + 1 == i && q.2.category == 2)) = L') (k : JI p l e R s m args below meth c nL G k0 Qm kc ks (pc + 1) L' st nw E) : JI p l e R s m args below meth c nL G k0 Qm kc ks pc L (.int x :: st) nw E :=
  fun ls H locs hl hP hZ hS => lv_istore_n F.1 F.2.1 d hi hl hn hL (fun ls hl => k ls H locs hl hP hZ hS)
theorem JI_asn (F : FX p s m args meth c cc nL ret own G) {q : Fin 4} {i : Nat} {x : Nat} (d : decode cc pc = .ok (.astore_n q, 1)) (hi : (q : Nat) = i) (hn : i < nL) (hL : (i, Value.ref x) :: L.filter (fun q => !(q.1 == i) && !(q.1 + 1 == i && q.2.category == 2)) = L') (k : JI p l e R s m args below meth c nL G k0 Qm kc ks (pc + 1) L' st nw E) : JI p l e R s m args below meth c nL G k0 Qm kc ks pc L (.ref x :: st) nw E :=
  fun ls H locs hl hP hZ hS => lv_astore_n F.1 F.2.1 d hi hl hn hL (fun ls hl => k ls H locs hl hP hZ hS)
theorem JI_iinc (F : FX p s m args meth c cc nL ret own G) {i : Nat} {n : Int} {x v : Int32} (j : Nat) (d : decode cc pc = .ok (.iinc i n, 3)) (hj : L[j]? = some (i, .int x)) (hv : x + Int32.ofInt n = v) (hn : i < nL) (hL : (i, Value.int v) :: L.filter (fun q => !(q.1 == i) && !(q.1 + 1 == i && q.2.category == 2)) = L') (k : JI p l e R s m args below meth c nL G k0 Qm kc ks (pc + 3) L' st nw E) : JI p l e R s m args below meth c nL G k0 Qm kc ks pc L st nw E :=
  fun ls H locs hl hP hZ hS => lv_iinc F.1 F.2.1 d hl hj hv hn hL (fun ls hl => k ls H locs hl hP hZ hS)
theorem JI_dup (F : FX p s m args meth c cc nL ret own G) {x : Value} (d : decode cc pc = .ok (.dup, 1)) (hc : x.category = 1) (k : JI p l e R s m args below meth c nL G k0 Qm kc ks (pc + 1) L (x :: x :: st) nw E) : JI p l e R s m args below meth c nL G k0 Qm kc ks pc L (x :: st) nw E :=
  fun ls H locs hl hP hZ hS => lv_dup F.1 F.2.1 d hc (k ls H locs hl hP hZ hS)
theorem JI_cge (F : FX p s m args meth c cc nL ret own G) {x y : Int32} {off : Int} {tgt : Nat} (d : decode cc pc = .ok (.if_icmp .ge off, 3)) (ht : (pc : Int) + off = (tgt : Int)) (kt : y ≤ x → JI p l e R s m args below meth c nL G k0 Qm kc ks tgt L st nw E) (kf : ¬ y ≤ x → JI p l e R s m args below meth c nL G k0 Qm kc ks (pc + 3) L st nw E) : JI p l e R s m args below meth c nL G k0 Qm kc ks pc L (.int y :: .int x :: st) nw E :=
  fun ls H locs hl hP hZ hS => lv_icmp_ge F.1 F.2.1 d ht (fun h => kt h ls H locs hl hP hZ hS) (fun h => kf h ls H locs hl hP hZ hS)
theorem JI_goto (F : FX p s m args meth c cc nL ret own G) {off : Int} {tgt : Nat} (d : decode cc pc = .ok (.goto off, 3)) (ht : (pc : Int) + off = (tgt : Int)) (k : JI p l e R s m args below meth c nL G k0 Qm kc ks tgt L st nw E) : JI p l e R s m args below meth c nL G k0 Qm kc ks pc L st nw E :=
  fun ls H locs hl hP hZ hS => lv_goto F.1 F.2.1 d ht (k ls H locs hl hP hZ hS)
theorem JI_obj (F : FX p s m args meth c cc nL ret own G) {i : Nat} {a : Nat} (hlk : Cond.methodLink own i Lib.objectInit ∈ TBL) (hin : Cond.instanceMethod Lib.objectInit ∈ TBL) (hco : Cond.code Lib.objectInit ⟨#[0xb1]⟩ 1 none ∈ TBL) (hst : (st.map fun v => v.category).sum ≤ 8) (hf : 1 ≤ R.frames) (hlo : 20 ≤ R.locals) (d : decode cc pc = .ok (.invokespecial i, 3)) (k : JI p l e R s m args below meth c nL G k0 Qm kc ks (pc + 3) L st nw E) : JI p l e R s m args below meth c nL G k0 Qm kc ks pc L (.ref a :: st) nw E :=
  fun ls H locs hl hP hZ hS => W.objInit F.1 F.2.1 F.2.2.2.2.2.1 (F.2.2.2.2.2.2.1 _ hlk) (F.2.2.2.2.2.2.1 _ hin) (F.2.2.2.2.2.2.1 _ hco) rfl (by rw [F.2.2.2.2.1]; exact hl.1) rfl d hf (by
    have h1 : 2 * (F0 m pc ls (Value.ref a :: st)).monitorRoom + (st.map fun v => v.category).sum ≤ 8 := by simpa [JFrame.monitorRoom] using hst
    omega) (k ls H locs hl hP hZ hS)
theorem JI_new (F : FX p s m args meth c cc nL ret own G) {ci i : Nat} {C : String} {T : u_T} {N : Nat} (hc : vwCl[ci]? = some (C, T, N)) (hin : ∀ w ∈ u_ws C T N, w ∈ TBL) (t0 : Nat → FieldType) (hty : ∀ k, k < N → parseFieldDescriptor (T k).2.2.1 = some (t0 k)) (hlk : Cond.classLink own i C ∈ TBL) (hins : Cond.instantiable C N ∈ TBL) (hini : Cond.initialized C ∈ TBL) (hfs : ∀ j, j < N → defaultValue (t0 j) = vp_V (df ci) j) (hkc : kc + 1 ≤ R.cells) (hks : ks + N ≤ R.slots) (d : decode cc pc = .ok (.new i, 3)) (k : JI p l e R s m args below meth c nL G k0 Qm (kc + 1) (ks + N) (pc + 3) L (.ref (gb G + (k0 + nw)) :: st) (nw + 1) (vu E nw (.inr (ci, df ci)))) : JI p l e R s m args below meth c nL G k0 Qm kc ks pc L st nw E := by
  intro ls H locs hl hP hZ hS
  have hts := F.2.2.2.2.2.2.1
  have hKn := F.2.2.2.2.2.2.2.1.1 ci _ hc
  refine W.newcK F.1 F.2.1 F.2.2.2.2.2.1 (hts _ hlk) (hts _ hins) (hts _ hini) rfl d hkc hks hKn.2.1 hZ fun H1 kC hkC e1 z1 o1 => ?_
  exact k ls H1 locs hl (hP.pushI hZ (fun q hq => o1 q (by rw [← hZ]; exact hq)) ⟨_, hc, (u_born t0 hts hin hKn hkC e1 hty).to hfs⟩) (by rw [z1]; omega) ⟨Nat.le_trans hS.1 (by rw [z1, hZ]; omega), fun x h1 h2 => (o1 x (by have := hS.1; omega)).trans (hS.2.1 x h1 h2), hS.2.2⟩
theorem JI_newa (F : FX p s m args meth c cc nL ret own G) {atype : ArrayType} {ty : FieldType} (t0 : Nat) {cA : ClassId} {a0 : vp_A} {v : Int32} {N : Nat} (hty : newarray.typeOf atype = ty) (ht : (gT G)[t0]? = some (cA, ty)) (hra : va_RA s cA ty → s.vm.findClass ("[" ++ ty.toString) = some cA) (ha : ∀ cA : ClassId, vp_cell cA a0 = arrV cA N (fun _ => defaultValue ty)) (harr : Cond.arrayClass ty ∈ TBL) (hn : ¬ v < 0) (hN : v.toNatClampNeg = N) (hby : N * componentBytes ty ≤ 536870912) (hkc : kc + 1 ≤ R.cells) (hks : ks + N ≤ R.slots) (d : decode cc pc = .ok (.newarray atype, 2)) (k : JI p l e R s m args below meth c nL G k0 Qm (kc + 1) (ks + N) (pc + 2) L (.ref (gb G + (k0 + nw)) :: st) (nw + 1) (vu E nw (.inl (cA, a0)))) : JI p l e R s m args below meth c nL G k0 Qm kc ks pc L (.int v :: st) nw E := by
  subst hty
  intro ls H locs hl hP hZ hS
  have hts := F.2.2.2.2.2.2.1
  have hid := hra (F.2.2.2.2.2.2.2.1.2 t0 _ ht).2
  refine va_newaK F.1 F.2.1 (hts _ harr) rfl d rfl hn hN hby hkc hks hZ fun H1 cA' e1 z1 o1 hAr hNm => ?_
  cases hid.symm.trans hNm
  exact k ls H1 locs hl (hP.pushI hZ (fun q hq => o1 q (by rw [← hZ]; exact hq)) (by show H1[gb G + (k0 + nw)]? = some (vp_cell _ _); rw [ha]; exact e1)) (by rw [z1]; omega) ⟨Nat.le_trans hS.1 (by rw [z1, hZ]; omega), fun x h1 h2 => (o1 x (by have := hS.1; omega)).trans (hS.2.1 x h1 h2), hS.2.2⟩
theorem JI_newq (F : FX p s m args meth c cc nL ret own G) {C : String} {i : Nat} (t0 : Nat) {cA : ClassId} {v : Int32} {N : Nat} (ht : (gT G)[t0]? = some (cA, .object C)) (hao : va_AO C s) (hlk : Cond.classLink own i C ∈ TBL) (hn : ¬ v < 0) (hN : v.toNatClampNeg = N) (hby : N * 4 ≤ 536870912) (hkc : kc + 1 ≤ R.cells) (hks : ks + N ≤ R.slots) (d : decode cc pc = .ok (.anewarray i, 3)) (k : JI p l e R s m args below meth c nL G k0 Qm (kc + 1) (ks + N) (pc + 3) L (.ref (gb G + (k0 + nw)) :: st) (nw + 1) (vu E nw (.inl (cA, N, .inr (.inr (.inr (.inr (fun _ => none)))))))) : JI p l e R s m args below meth c nL G k0 Qm kc ks pc L (.int v :: st) nw E := by
  subst hN
  intro ls H locs hl hP hZ hS
  have hts := F.2.2.2.2.2.2.1
  obtain ⟨_, _, _, _, _, hid⟩ := (F.2.2.2.2.2.2.2.1.2 t0 _ ht).2
  refine W.anew F.1 F.2.1 F.2.2.2.2.2.1 (hts _ hlk) (va_AO.use hao) rfl d rfl hn hby hkc hks fun cA' kA comp f1 f2 f3 f4 => ?_
  cases hid.symm.trans f1
  generalize hH1 : H.push ({ cls := cA, slots := Array.replicate v.toNatClampNeg .null, vm := .none } : Cell) = H1
  have z1 : H1.size = H.size + 1 := by rw [← hH1, Array.size_push]
  have e1 : H1[H.size]? = some (arrV cA v.toNatClampNeg (fun _ => .null)) := by rw [← hH1, Array.getElem?_push_size, ← arrV_new]
  have o1 : ∀ q : Nat, q < H.size → H1[q]? = H[q]? := fun q hq => by rw [← hH1, Array.getElem?_push, if_neg (Nat.ne_of_lt hq)]
  rw [hZ] at e1
  have k := k ls H1 locs hl (hP.pushI hZ o1 (by show H1[gb G + (k0 + nw)]? = some (vp_cell _ _); rw [vp_cell_q]; exact e1)) (by rw [z1]; omega) ⟨Nat.le_trans hS.1 (by rw [z1]; omega), fun x h1 h2 => (o1 x (by have := hS.1; omega)).trans (hS.2.1 x h1 h2), hS.2.2⟩
  rw [← hZ] at k
  exact k
theorem JI_put (F : FX p s m args meth c cc nL ret own G) {ci i : Nat} {C : String} {T : u_T} {N : Nat} {ty : FieldType} {v : Value} {fs : List Value} (a j : Nat) (hc : vwCl[ci]? = some (C, T, N)) (hin : ∀ w ∈ u_ws C T N, w ∈ TBL) (t0 : Nat → FieldType) (hty : ∀ k, k < N → parseFieldDescriptor (T k).2.2.1 = some (t0 k)) (hnm : ∀ a, a < N → ∀ b, b < N → a ≠ b → (T a).2.1 ≠ (T b).2.1) (ha : a < nw) (hE : E a = .inr (ci, fs)) (hj : j < N) (hlk : Cond.fieldLink own i C (T j).2.1 (T j).2.2.1 ∈ TBL) (hd : (T j).1 = C) (hfin : (T j).2.2.2 = false) (hpd : parseFieldDescriptor (T j).2.2.1 = some ty) (hn : narrow ty v = v) (hf : fits ty v = true) (hl : j < fs.length) (d : decode cc pc = .ok (.putfield i, 3)) (k : JI p l e R s m args below meth c nL G k0 Qm kc ks (pc + 3) L st nw (vu E a (.inr (ci, fs.set j v)))) : JI p l e R s m args below meth c nL G k0 Qm kc ks pc L (v :: .ref (gb G + (k0 + a)) :: st) nw E := by
  intro ls H locs hl' hP hZ hS
  have hts := F.2.2.2.2.2.2.1
  have hK := F.2.2.2.2.2.2.2.1
  have he : (wsI G k0 nw E)[a]? = some (gb G + (k0 + a), .inr (ci, fs)) := by rw [wsI_get ha, hE]
  have hap := va_apart (own := own) hts hin t0 hty hnm hK hc
  obtain ⟨r, h1, cell, q1, q2, q3, q4⟩ := hP a _ he
  have hr : r = (C, T, N) := Option.some.inj (h1.symm.trans hc)
  subst hr
  obtain ⟨hS', hfc, kC, hkC, hkind⟩ := hK.1 ci _ hc
  obtain ⟨cf, kf, fi, f, hi, hsl⟩ := hS' j hj
  have hlay := hts _ (hin _ (u_in_lay hj))
  unfold u_lay at hlay
  rw [if_neg (by rw [hfin]; decide)] at hlay
  have hst := (u_facts hfc hkC (u_lays hts hin hj) hi).1
  have h6 := u_store hfc hkC hkind hlay hi hpd hn hf
  refine W.putK F.1 F.2.1 (f := f) ⟨F.2.2.2.2.2.1, hts _ hlk, ⟨cf, kf, fi, by rw [← hd]; exact hi⟩, hst⟩ (by rw [q2]; exact h6) q1 q3 (by rw [hsl]; exact k2_hasslot (q4 j hj)) rfl rfl d fun H' e1 e2 e3 => ?_
  rw [hsl] at e1 ⊢
  exact k ls H' _ hl' (by rw [← wsI_set G k0 nw E ha]; exact hP.set (wsI_D G k0 nw E) he ⟨_, hc, t_OB.to (V := updV (vp_V fs) j v) ⟨_, e1, q2, q3, t_set q4 hap hj v⟩ (fun i _ => vp_updV_set hl v i)⟩ e3) (by rw [e2, hZ]) (hS.put e2 e3 (by show gb G + k0 ≤ gb G + (k0 + a); omega))
theorem JI_putF (F : FX p s m args meth c cc nL ret own G) (hm : meth.name = "<init>") {ci i : Nat} {C : String} {T : u_T} {N : Nat} {ty : FieldType} {v : Value} {fs : List Value} (a j : Nat) (hc : vwCl[ci]? = some (C, T, N)) (hin : ∀ w ∈ u_ws C T N, w ∈ TBL) (t0 : Nat → FieldType) (hty : ∀ k, k < N → parseFieldDescriptor (T k).2.2.1 = some (t0 k)) (hnm : ∀ a, a < N → ∀ b, b < N → a ≠ b → (T a).2.1 ≠ (T b).2.1) (ha : a < nw) (hE : E a = .inr (ci, fs)) (hj : j < N) (hlk : Cond.fieldLink own i C (T j).2.1 (T j).2.2.1 ∈ TBL) (hd : (T j).1 = C) (hdo : C = own) (hfin : (T j).2.2.2 = true) (hpd : parseFieldDescriptor (T j).2.2.1 = some ty) (hn : narrow ty v = v) (hf : fits ty v = true) (hl : j < fs.length) (d : decode cc pc = .ok (.putfield i, 3)) (k : JI p l e R s m args below meth c nL G k0 Qm kc ks (pc + 3) L st nw (vu E a (.inr (ci, fs.set j v)))) : JI p l e R s m args below meth c nL G k0 Qm kc ks pc L (v :: .ref (gb G + (k0 + a)) :: st) nw E := by
  intro ls H locs hl' hP hZ hS
  have hts := F.2.2.2.2.2.2.1
  have hK := F.2.2.2.2.2.2.2.1
  have hown := F.2.2.2.2.2.1
  have he : (wsI G k0 nw E)[a]? = some (gb G + (k0 + a), .inr (ci, fs)) := by rw [wsI_get ha, hE]
  have hap := va_apart (own := own) hts hin t0 hty hnm hK hc
  obtain ⟨r, h1, cell, q1, q2, q3, q4⟩ := hP a _ he
  have hr : r = (C, T, N) := Option.some.inj (h1.symm.trans hc)
  subst hr
  obtain ⟨hS', hfc, kC, hkC, hkind⟩ := hK.1 ci _ hc
  obtain ⟨cf, kf, fi, f, hi, hsl⟩ := hS' j hj
  have hlay := hts _ (hin _ (u_in_lay hj))
  unfold u_lay at hlay
  rw [if_pos hfin] at hlay
  have hst := (u_facts hfc hkC (u_lays hts hin hj) hi).1
  have hcf : m.cls = cf := by
    obtain ⟨_, _, c', _, _, _, -, -, hf', -, -, -, hown2, -⟩ := Cond.laysFinal_spec hlay
    have e1 : c' = cf := by have := hi.symm.trans hf'; simp at this; exact this.1.symm
    rw [hd, hdo] at hown2
    rw [← e1]; exact Option.some.inj (hown.symm.trans hown2)
  have h6 := u_fits hfc hkC hkind (Or.inr hlay) hi hpd hn hf
  refine W.putFinK F.1 F.2.1 hown (hts _ hlk) (f := f) (cf := cf) (k := kf) (i := fi) (by rw [← hd]; exact hi) hst hcf hm (by rw [q2]; exact h6) q1 q3 (by rw [hsl]; exact k2_hasslot (q4 j hj)) rfl rfl d fun H' e1 e2 e3 => ?_
  rw [hsl] at e1 ⊢
  exact k ls H' _ hl' (by rw [← wsI_set G k0 nw E ha]; exact hP.set (wsI_D G k0 nw E) he ⟨_, hc, t_OB.to (V := updV (vp_V fs) j v) ⟨_, e1, q2, q3, t_set q4 hap hj v⟩ (fun i _ => vp_updV_set hl v i)⟩ e3) (by rw [e2, hZ]) (hS.put e2 e3 (by show gb G + k0 ≤ gb G + (k0 + a); omega))
theorem JI_get (F : FX p s m args meth c cc nL ret own G) {ci i : Nat} {C : String} {T : u_T} {N : Nat} {v : Value} {fs : List Value} (a j : Nat) (hc : vwCl[ci]? = some (C, T, N)) (hin : ∀ w ∈ u_ws C T N, w ∈ TBL) (ha : a < nw) (hE : E a = .inr (ci, fs)) (hj : j < N) (hlk : Cond.fieldLink own i C (T j).2.1 (T j).2.2.1 ∈ TBL) (hd : (T j).1 = C) (hv : fs[j]? = some v) (d : decode cc pc = .ok (.getfield i, 3)) (k : JI p l e R s m args below meth c nL G k0 Qm kc ks (pc + 3) L (v :: st) nw E) : JI p l e R s m args below meth c nL G k0 Qm kc ks pc L (.ref (gb G + (k0 + a)) :: st) nw E :=
  fun ls H locs hl hP hZ hS => va_get (D := gD G) (ref := C) F.1 F.2.1 F.2.2.2.2.2.2.1 hin F.2.2.2.2.2.1 F.2.2.2.2.2.2.2.1 hP a (by rw [wsI_get ha, hE]) hc j hj (F.2.2.2.2.2.2.1 _ hlk) (fun x h => by rw [hd] at h; exact h) hv d (k ls H locs hl hP hZ hS)
theorem JI_ast (F : FX p s m args meth c cc nL ret own G) {n ci : Nat} {cA : ClassId} {r : vw_C} {vs : List Value} {f : Nat → Option Nat} {i : Int32} (a t0 b : Nat) (ha : a < nw) (hE : E a = .inl (cA, n, .inr (.inr (.inr (.inr f))))) (ht : (gT G)[t0]? = some (cA, .object r.1)) (hb : b < nw) (hE2 : E b = .inr (ci, vs)) (hc : vwCl[ci]? = some r) (hin : vp_in i n) (d : decode cc pc = .ok (.aastore, 1)) (k : JI p l e R s m args below meth c nL G k0 Qm kc ks (pc + 1) L st nw (vu E a (.inl (cA, n, .inr (.inr (.inr (.inr (va_up f i.toNatClampNeg (some (gb G + (k0 + b)))))))))) ) : JI p l e R s m args below meth c nL G k0 Qm kc ks pc L (.ref (gb G + (k0 + b)) :: .int i :: .ref (gb G + (k0 + a)) :: st) nw E := by
  intro ls H locs hl hP hZ hS
  have hK := F.2.2.2.2.2.2.2.1
  have he : (wsI G k0 nw E)[a]? = some (gb G + (k0 + a), .inl (cA, n, .inr (.inr (.inr (.inr f))))) := by rw [wsI_get ha, hE]
  have hv : (wsI G k0 nw E)[b]? = some (gb G + (k0 + b), .inr (ci, vs)) := by rw [wsI_get hb, hE2]
  have hlt : i.toNatClampNeg < n := Nat.not_le.mp fun q => hin (Or.inr q)
  have h0 : ¬ i < 0 := fun q => hin (Or.inl q)
  obtain ⟨r', hr', cellV, g1, g2, g3, -⟩ := hP b _ hv
  have hcls := (hK.1 ci r hc).2
  obtain ⟨kA, comp, k1, k2, k3, -⟩ := (hK.2 t0 _ ht).2
  have hcomp : comp = (gD G).1 ci := Option.some.inj (k3.symm.trans hcls.1)
  subst hcomp
  obtain ⟨kC, hkC, -⟩ := hcls.2
  refine W.aast F.1 F.2.1 (hP a _ he) (fun q h => by cases h) (fun h => by cases h) k1 k2 rfl hkC ⟨h0, by show _ < (arrV _ _ _).slots.size; rw [arrV_size]; exact hlt⟩ g1 (fun q h => by rw [g3] at h; cases h) (by rw [g2]; exact hkC) (by rw [g2]; exact va_assign hcls) rfl rfl d fun H1 e z oq => ?_
  have hc1 : H1[gb G + (k0 + a)]? = some (vp_cell cA (n, .inr (.inr (.inr (.inr (va_up f i.toNatClampNeg (some (gb G + (k0 + b))))))))) := by
    rw [e]
    rw [vp_cell_q, vp_cell_q, arrV_store]
    congr 2
    funext q
    by_cases hq : q = i.toNatClampNeg
    · subst hq
      simp [updV, va_up, va_rf]
    · simp [updV, va_up, hq]
  exact k ls H1 _ hl (by rw [← wsI_set G k0 nw E ha]; exact hP.set (wsI_D G k0 nw E) he hc1 oq) (by rw [z, hZ]) (hS.put z oq (by show gb G + k0 ≤ gb G + (k0 + a); omega))
theorem JI_iast (F : FX p s m args meth c cc nL ret own G) {n : Nat} {f : Nat → Int32} {i x : Int32} (a : Nat) (ha : a < nw) (hE : E a = .inl (G.2.2.1.1, n, .inl f)) (hin : vp_in i n) (d : decode cc pc = .ok (.iastore, 1)) (k : JI p l e R s m args below meth c nL G k0 Qm kc ks (pc + 1) L st nw (vu E a (.inl (G.2.2.1.1, n, .inl (upd f i.toNatClampNeg x))))) : JI p l e R s m args below meth c nL G k0 Qm kc ks pc L (.int x :: .int i :: .ref (gb G + (k0 + a)) :: st) nw E := by
  intro ls H locs hl hP hZ hS
  have hK := F.2.2.2.2.2.2.2.1
  have he : (wsI G k0 nw E)[a]? = some (gb G + (k0 + a), .inl (G.2.2.1.1, n, .inl f)) := by rw [wsI_get ha, hE]
  refine W.iast F.1 F.2.1 (hP a _ he) ((hK.2 0 _ rfl).1 n (fun j => .int (f j))) (fun q => by cases q) (by show ¬ (i < 0 ∨ (arrV _ _ _).slots.size ≤ _); rw [arrV_size]; exact hin) rfl rfl d fun H1 e z oq => ?_
  have hc1 : H1[gb G + (k0 + a)]? = some (vp_cell G.2.2.1.1 (n, .inl (upd f i.toNatClampNeg x))) := by
    rw [e]
    rw [vp_cell_i, vp_cell_i, arrV_store]
    congr 2
    funext q
    by_cases hq : q = i.toNatClampNeg
    · subst hq
      simp [updV, upd]
    · simp [updV, upd, hq]
  exact k ls H1 _ hl (by rw [← wsI_set G k0 nw E ha]; exact hP.set (wsI_D G k0 nw E) he hc1 oq) (by rw [z, hZ]) (hS.put z oq (by show gb G + k0 ≤ gb G + (k0 + a); omega))
theorem PI.calling {k ci : Nat} {U : State} {g : JFrame} {mk : MethodId} {a : Array Value} (h : PI G k ci U) : PI G k ci (U.calling g mk a) := by
  obtain ⟨h1, h2, h3, h4, h5⟩ := h
  exact ⟨h1, h2, va_K.moved (u := U) (U := U.calling g mk a) (Vm.Alike.refl U.vm) h3, Sx.warm (s := U) (U := U.calling g mk a) (State.WarmedH.refl U) h4, Nx.warm (s := U) (U := U.calling g mk a) (State.WarmedH.refl U) h5⟩
/-- the world behind a constructor's call on the last cell -/
def bl (G : Gp) (k0 n0 : Nat) (E : Nat → va_E) : Nat → va_E := fun j => if j < n0 then E j else ent G (k0 + j) (st0 (k0 + j))
theorem JI_run {ls : Array Slot} {H : Heap} {locs : List Loc} {mc' ms' n0 len ci : Nat} {a : Array Value} (hr : va_Run p l e R s m args below meth c H locs kc ks mc' ms' (F0 m pc ls stk) st (QI G (k0 + n0) len a) (fk G (k0 + n0))) (hn : nw = n0 + 1) (hl : lv_has ls nL L) (hP : va_P (gD G) vwCl (wsI G k0 nw E) H) (hZ : H.size = gb G + (k0 + nw)) (hS : va_S (fk G k0) s.heap H locs) (k : JI p l e R s m args below meth c nL G k0 Qm (kc + mc') (ks + ms') (pc + 3) L st (n0 + len) (bl G k0 n0 E)) : W p l e R s m args below meth c H locs kc ks Qm (F0 m pc ls stk) := by
  intro T hT' X
  obtain ⟨v, st₀, t, T', L9, h0, X', hL, e1, e2, ⟨⟨hv, hz, hat⟩, hF⟩, hst'⟩ := hr T hT' X
  cases hv
  rw [← e1] at hz hat
  have hF1 : H.size ≤ T'.heap.size := by rw [e1, ← h0]; exact hF.1
  have hF2 : ∀ q : Nat, q < H.size → ¬ fk G (k0 + n0) q → T'.heap[q]? = H[q]? := fun q h1 h2 => by rw [e1, ← h0]; exact hF.2 q (by rw [h0]; exact h1) h2
  have hP9 : va_P (gD G) vwCl (wsI G k0 (n0 + len) (bl G k0 n0 E)) T'.heap := va_P.of_I fun j hj => by
    unfold bl
    by_cases h : j < n0
    · rw [if_pos h]
      exact (hP.to_I (by omega)).kept (hF2 _ (by rw [hZ]; show gb G + (k0 + j) < _; omega) (by show ¬ gb G + (k0 + n0) ≤ gb G + (k0 + j); omega))
    · rw [if_neg h]
      have h1 := hat (j - n0) (by omega)
      rw [show k0 + n0 + (j - n0) = k0 + j by omega] at h1
      exact h1
  have hS9 : va_S (fk G k0) s.heap T'.heap (locs ++ L9) := by
    refine ⟨Nat.le_trans hS.1 hF1, fun q h1 h2 => ?_, fun q hq => ?_⟩
    · rw [hF2 q (Nat.lt_of_lt_of_le h1 hS.1) (fun h => h2 (by show gb G + k0 ≤ q; have h : gb G + (k0 + n0) ≤ q := h; omega)), hS.2.1 q h1 h2]
    · rcases List.mem_append.mp hq with h | h
      · exact hS.2.2 q h
      · have h1 : gb G + (k0 + n0) ≤ q.base := hL q h
        show gb G + k0 ≤ q.base
        omega
  obtain ⟨t2, a1, b1⟩ := k ls T'.heap (locs ++ L9) hl hP9 (by rw [hz]; omega) hS9 T' rfl X'
  exact ⟨t2, hst' t2 a1, b1⟩
theorem PI_at (F : FX p s m args meth c cc nL ret own G) (hx : Nx s) {H : Heap} {locs : List Loc} {n0 ci : Nat} (hn : nw = n0 + 1) (hE : E n0 = .inr (ci, df ci)) (hP : va_P (gD G) vwCl (wsI G k0 nw E) H) (hZ : H.size = gb G + (k0 + nw)) (hS : va_S (fk G k0) s.heap H locs) (U : State) (hU : U.heap = H) (hW : s.WarmedH U.vm) : PI G (k0 + n0) ci U := by
  have h1 := hP.to_I (j := n0) (by omega)
  rw [hE] at h1
  refine ⟨by rw [hU, hZ]; omega, by rw [hU]; exact h1, va_K.moved hW.alike F.2.2.2.2.2.2.2.1, ?_, hx.warm hW⟩
  rw [hU]
  exact (F.2.2.2.2.2.2.2.2.kept hS.1 (fun a h1 h2 => hS.2.1 a h1 (fun h => h2 (by show gb G ≤ a; have h : gb G + k0 ≤ a := h; omega)))).warm hW
theorem JI_ctor (F : FX p s m args meth c cc nL ret own G) (hx : Nx s) {y : MethodName} {cy : ByteArray} {nL' fm lo mc' ms' i ci len : Nat} {As : List Value} (n0 : Nat) (hM : CI l y cy nL' fm lo mc' ms' G (k0 + n0) ci len As) (hn : nw = n0 + 1) (hE : E n0 = .inr (ci, df ci)) (hlk : Cond.methodLink own i y ∈ TBL) (hin : Cond.instanceMethod y ∈ TBL) (hini : Cond.initialized y.cls ∈ TBL) (hco : Cond.code y cy nL' none ∈ TBL) (hy : y.name = "<init>") (hd : y.cls ≠ "java/lang/invoke/MethodHandle" ∧ y.cls ≠ "java/lang/invoke/VarHandle" ∧ (parseMethodDescriptor y.desc).map (fun d => d.parameters.length) = some As.length) (hR : fm + 1 ≤ R.frames ∧ 8 + (nL' + 11) + lo ≤ R.locals) (hst : (st.map fun v => v.category).sum ≤ 8) (hkc : kc + mc' ≤ R.cells ∧ ks + ms' ≤ R.slots) (hs : stk = As.reverse ++ .ref (gb G + (k0 + n0)) :: st) (d : decode cc pc = .ok (.invokespecial i, 3)) (k : JI p l e R s m args below meth c nL G k0 Qm (kc + mc') (ks + ms') (pc + 3) L st (n0 + len) (bl G k0 n0 E)) : JI p l e R s m args below meth c nL G k0 Qm kc ks pc L stk nw E := by
  intro ls H locs hl hP hZ hS
  have hts := F.2.2.2.2.2.2.1
  have cb : CallB R s args own i y cy nL' none (.code y cy nL' none :: TBL) (rmX fm lo mc' ms') mc' ms' As.length := callB_of As.length hts (tb_GoodIn hco) rfl rfl rfl (hts _ hini) (hts _ hlk) hd hR
  have hr := va_runI (g := F0 m pc ls stk) (rest := st) (As := As) (H := H) (locs := locs) (cells := kc) (slots := ks) (p := p) (e := e) (below := below) (meth := meth) ⟨F.1, F.2.1, F.2.2.2.2.1, F.2.2.2.2.2.1, hts⟩ hM ⟨cb, hy, hts _ hin⟩ ⟨fun a U g mk q => ⟨q.1, q.2.calling⟩, fun U hU hW => ⟨rfl, PI_at F hx hn hE hP hZ hS U hU hW⟩⟩ rfl rfl hl.1 hs (by simpa [JFrame.monitorRoom] using hst) d hkc
  exact JI_run (ci := ci) hr hn hl hP hZ hS k
theorem JI_ctorN (F : FX p s m args meth c cc nL ret own G) (hx : Nx s) {y : MethodName} {host : String} {cy : ByteArray} {nL' fm lo mc' ms' i ci len : Nat} {As : List Value} (n0 : Nat) (hM : CI l y cy nL' fm lo mc' ms' G (k0 + n0) ci len As) (hn : nw = n0 + 1) (hE : E n0 = .inr (ci, df ci)) (hlk : va_Nw (.methodLinkNest own i y host) s) (hin : Cond.instanceMethod y ∈ TBL) (hini : Cond.initialized y.cls ∈ TBL) (hco : Cond.code y cy nL' none ∈ TBL) (hy : y.name = "<init>") (hd : y.cls ≠ "java/lang/invoke/MethodHandle" ∧ y.cls ≠ "java/lang/invoke/VarHandle" ∧ (parseMethodDescriptor y.desc).map (fun d => d.parameters.length) = some As.length) (hR : fm + 1 ≤ R.frames ∧ 8 + (nL' + 11) + lo ≤ R.locals) (hst : (st.map fun v => v.category).sum ≤ 8) (hkc : kc + mc' ≤ R.cells ∧ ks + ms' ≤ R.slots) (hs : stk = As.reverse ++ .ref (gb G + (k0 + n0)) :: st) (d : decode cc pc = .ok (.invokespecial i, 3)) (k : JI p l e R s m args below meth c nL G k0 Qm (kc + mc') (ks + ms') (pc + 3) L st (n0 + len) (bl G k0 n0 E)) : JI p l e R s m args below meth c nL G k0 Qm kc ks pc L stk nw E := by
  intro ls H locs hl hP hZ hS
  have hts := F.2.2.2.2.2.2.1
  have cb : va_CN R s args own i y host cy nL' none (.code y cy nL' none :: TBL) (rmX fm lo mc' ms') mc' ms' As.length := va_cnB As.length hts (tb_GoodIn hco) rfl rfl rfl hlk (hts _ hini) hd hR
  have hr := va_runIN (g := F0 m pc ls stk) (rest := st) (As := As) (H := H) (locs := locs) (cells := kc) (slots := ks) (p := p) (e := e) (below := below) (meth := meth) ⟨F.1, F.2.1, F.2.2.2.2.1, F.2.2.2.2.2.1, hts⟩ hM ⟨cb, hy, hts _ hin⟩ ⟨fun a U g mk q => ⟨q.1, q.2.calling⟩, fun U hU hW => ⟨rfl, PI_at F hx hn hE hP hZ hS U hU hW⟩⟩ rfl rfl hl.1 hs (by simpa [JFrame.monitorRoom] using hst) d hkc
  exact JI_run (ci := ci) hr hn hl hP hZ hS k
theorem JI_ret (F : FX p s m args meth c cc nL none own G) {len mc ms : Nat} (h1 : kc ≤ mc) (h2 : ks ≤ ms) (hn : nw = len) (hq : ∀ j, j < len → ∀ H : Heap, va_at (gD G) vwCl (gb G + (k0 + j), E j) H → va_at (gD G) vwCl (gb G + (k0 + j), ent G (k0 + j) (st0 (k0 + j))) H) (d : decode cc pc = .ok (.return_, 1)) : JI p l e R s m args below meth c nL G k0 (MQ below (QI G k0 len) args s mc ms (fk G k0)) kc ks pc L [] nw E :=
  fun ls H locs hl hP hZ hS => W.widen h1 h2 (W.vret F.1 F.2.1 F.2.2.1 (fun t ht _ => ⟨⟨rfl, by rw [ht, hZ, hn], fun j hj => by rw [ht]; exact hq j hj H (hP.to_I (by omega))⟩, hS.F ht⟩) hS.2.2 d F.2.2.2.1)
theorem CI_of {y : MethodName} {cy : ByteArray} {fm lo mc ms k ci len : Nat} {av : List Value} (own : String) (hpl : plainName y.cls = true) (hyo : y.cls = own) (hyn : y.name = "<init>") (hav : (lg_sl (.ref (gb G + k) :: av)).length ≤ nL) (hL : lv_args 0 (.ref (gb G + k) :: av) = L)
    (body : ∀ (p : Program) (e : Env) (s : State) (m : MethodId) (below : List Frame) (meth : Method) (c : Code), FX p s m (Value.ref (gb G + k) :: av).toArray meth c cy nL none own G → Nx s → meth.name = "<init>" → JI p l e (rmX fm lo mc ms) s m (Value.ref (gb G + k) :: av).toArray below meth c nL G k (MQ below (QI G k len) (Value.ref (gb G + k) :: av).toArray s mc ms (fk G k)) 0 0 0 L [] 1 (pf G k [.inr (ci, df ci)])) : CI l y cy nL fm lo mc ms G k ci len av := by
  refine Met.ofW (cc := cy) (maxL := nL) (ret := none) hpl rfl ?_
  intro p e s m args below meth c s₁ B hml hv
  obtain ⟨rfl, hz, hat, hK, hSx, hx⟩ := hv
  have hts := atoms_spec (ws := .code y cy nL none :: TBL) B.pre
  have hown : s.vm.findClass y.cls = some m.cls := findClass_of_methodNamed B.named
  have hm : meth.name = "<init>" := (name_of_methodNamed B.named B.method).1.trans hyn
  have hl := lv_entry (.ref (gb G + k) :: av) (n := nL) hav
  rw [lg_entry_eq]
  generalize (lg_sl (.ref (gb G + k) :: av) ++ List.replicate (nL - (lg_sl (.ref (gb G + k) :: av)).length) Slot.unset).toArray = ls at hl ⊢
  refine body p e s m below meth c ⟨B.exec, B.bytes, B.returns, B.notSynchronized, hml, hyo ▸ hown, fun w h => hts w (List.mem_cons_of_mem _ h), hK, hSx⟩ hx hm ls s.heap [] (hL ▸ hl) (va_P.of_I fun j hj => ?_) hz va_S.rf
  obtain rfl : j = 0 := by omega
  exact hat
end IROWS
/-! Arrays.fill of an array that is being made -/
def QF (G : Gp) (q N : Nat) (v : Int32) : Array Value → State → Outcome → State → Prop := fun _ st o t => (o = .returned none ∧ t.heap.size = st.heap.size ∧ t.heap[q]? = some (vp_cell G.2.2.1.1 (N, .inl (fun _ => v)))) ∧ va_F (fun a => a = q) st t
theorem arr_congr {cA : ClassId} {N : Nat} {f g : Nat → Int32} (h : ∀ j, j < N → f j = g j) : vp_cell cA (N, .inl f) = vp_cell cA (N, .inl g) := by
  rw [vp_cell_i, vp_cell_i]
  unfold arrV
  congr 1
  apply congrArg
  funext j
  dsimp only
  rw [h j.val j.isLt]
theorem arr_congrQ {cA : ClassId} {N : Nat} {f g : Nat → Option Nat} (h : ∀ j, j < N → f j = g j) : vp_cell cA (N, .inr (.inr (.inr (.inr f)))) = vp_cell cA (N, .inr (.inr (.inr (.inr g)))) := by
  rw [vp_cell_q, vp_cell_q]
  unfold arrV
  congr 1
  apply congrArg
  funext j
  dsimp only
  rw [h j.val j.isLt]
theorem fill_loop {p : Program} {l : Launch} {e : Env} {R : Room} {s : State} {m : MethodId} {args : Array Value} {below : List Frame} {meth : Method} {c : Code} {G : Gp} {q N : Nat} {v : Int32} (hx : p.tables.exec = Jvm.exec) (hb : c.code = cJ7_fill_53178) (hr : meth.sig.returnType = none) (hlk : meth.locks = false) (hK : va_K (gD G) vwCl (gT G) s) (hN : N < 2 ^ 31) : ∀ (d i : Nat) (f : Nat → Int32) (H : Heap) (locs : List Loc) (ls : Array Slot), i + d = N → lv_has ls 4 [(0, .ref q), (1, .int v), (2, .int (nI i)), (3, .int (nI N))] → (∀ j, j < i → f j = v) → H[q]? = some (vp_cell G.2.2.1.1 (N, .inl f)) → H.size = s.heap.size → va_S (fun a => a = q) s.heap H locs → W p l e R s m args below meth c H locs 0 0 (MQ below (QF G q N v) args s 0 0 (fun a => a = q)) (F0 m 5 ls []) := by
  intro d
  induction d with
  | zero =>
    intro i f H locs ls hi hl hf hH hz hS
    refine lv_iload_n hx hb dJ7_fill_53178_5 rfl (lv_at hl 2 rfl) ?_
    refine lv_iload_n hx hb dJ7_fill_53178_6 rfl (lv_at hl 3 rfl) ?_
    refine lv_icmp_ge (tgt := 20) hx hb dJ7_fill_53178_7 (by decide) (fun _ => ?_) (fun h => ?_)
    · refine W.vret hx hb hr (fun t ht _ => ⟨⟨rfl, by rw [ht]; exact hz, ?_⟩, hS.F ht⟩) hS.2.2 dJ7_fill_53178_20 hlk
      rw [ht, hH]
      exact congrArg some (arr_congr (fun j hj => hf j (by omega)))
    · exact absurd ((n_le hN (by omega)).mpr (by omega)) h
  | succ d ih =>
    intro i f H locs ls hi hl hf hH hz hS
    refine lv_iload_n hx hb dJ7_fill_53178_5 rfl (lv_at hl 2 rfl) ?_
    refine lv_iload_n hx hb dJ7_fill_53178_6 rfl (lv_at hl 3 rfl) ?_
    refine lv_icmp_ge (tgt := 20) hx hb dJ7_fill_53178_7 (by decide) (fun h => ?_) (fun _ => ?_)
    · exact absurd ((n_le hN (by omega)).mp h) (by omega)
    refine lv_aload_n hx hb dJ7_fill_53178_10 rfl (lv_at hl 0 rfl) ?_
    refine lv_iload_n hx hb dJ7_fill_53178_11 rfl (lv_at hl 2 rfl) ?_
    refine lv_iload_n hx hb dJ7_fill_53178_12 rfl (lv_at hl 1 rfl) ?_
    have hcl : (nI i).toNatClampNeg = i := n_cl (by omega)
    refine W.iast hx hb hH ((hK.2 0 _ rfl).1 N (fun j => .int (f j))) (fun q => by cases q) (by show ¬ (nI i < 0 ∨ (arrV _ _ _).slots.size ≤ _); rw [arrV_size]; exact n_in (by omega) hN) rfl rfl dJ7_fill_53178_13 fun H1 e1 z oq => ?_
    have e2 : H1[q]? = some (vp_cell G.2.2.1.1 (N, .inl (upd f i v))) := by
      rw [e1, hcl, vp_cell_i, vp_cell_i, arrV_store]
      congr 2
      funext k
      by_cases hk : k = i
      · subst hk; simp [updV, upd]
      · simp [updV, upd, hk]
    refine W.eq (g2 := F0 m 14 ls []) rfl ?_
    refine lv_iinc (k := 2) (v := nI (i + 1)) hx hb dJ7_fill_53178_14 hl rfl (by rw [ki_1, n_add]) (by decide) (lv' := [(2, .int (nI (i + 1))), (0, .ref q), (1, .int v), (3, .int (nI N))]) rfl (fun ls1 hl1 => ?_)
    refine lv_goto (tgt := 5) hx hb dJ7_fill_53178_17 (by decide) ?_
    refine ih (i + 1) (upd f i v) H1 _ ls1 (by omega) (lv_sub hl1 [1, 2, 0, 3] rfl) (fun j hj => ?_) e2 (by rw [z, hz]) (hS.put z oq rfl)
    unfold upd
    by_cases c : j = i
    · rw [if_pos c]
    · rw [if_neg c]; exact hf j (by omega)
theorem C_fillI (l : Launch) (G : Gp) (q N : Nat) (v : Int32) (f : Nat → Int32) (hN : N < 2 ^ 31) : Met l yJ7_fill_53178 (.code yJ7_fill_53178 cJ7_fill_53178 4 none :: TBL) (rmF 0 0) (va_Pc [.ref q, .int v] (fun U => U.heap[q]? = some (vp_cell G.2.2.1.1 (N, .inl f)) ∧ va_K (gD G) vwCl (gT G) U)) (QF G q N v) 0 0 (fun a => a = q) := by
  refine Met.ofW (cc := cJ7_fill_53178) (maxL := 4) (ret := none) (by decide) rfl ?_
  intro p e s m args below meth c s₁ B hml hv
  obtain ⟨rfl, hH, hK⟩ := hv
  have hx := B.exec
  have hb := B.bytes
  have hl := lv_entry ([.ref q, .int v]) (n := 4) (Nat.le_of_ble_eq_true rfl)
  rw [lg_entry_eq]
  generalize (lg_sl ([.ref q, .int v]) ++ List.replicate (4 - (lg_sl ([.ref q, .int v])).length) Slot.unset).toArray = ls at hl ⊢
  have hl : lv_has ls 4 [(0, .ref q), (1, .int v)] := hl
  refine lv_iconst hx hb dJ7_fill_53178_0 ki_0 ?_
  refine lv_istore_n hx hb dJ7_fill_53178_1 rfl hl (by decide) (lv' := [(2, .int (nI 0)), (0, .ref q), (1, .int v)]) rfl (fun ls1 hl1 => ?_)
  refine lv_aload_n hx hb dJ7_fill_53178_2 rfl (lv_at hl1 1 rfl) ?_
  have hP : va_P (gD G) vwCl [(q, .inl (G.2.2.1.1, N, .inl f))] s.heap := fun k x hk => by
    have hz : k < 1 := (List.getElem?_eq_some_iff.mp hk).1
    rw [show k = 0 by omega] at hk
    cases hk
    exact hH
  refine va_alen hx hb hK hP 0 0 (x := (N, .inl f)) rfl rfl (v := nI N) rfl dJ7_fill_53178_3 ?_
  refine lv_istore_n hx hb dJ7_fill_53178_4 rfl hl1 (by decide) (lv' := [(3, .int (nI N)), (2, .int (nI 0)), (0, .ref q), (1, .int v)]) rfl (fun ls2 hl2 => ?_)
  exact fill_loop hx hb B.returns B.notSynchronized hK hN N 0 f s.heap [] ls2 (by omega) (lv_sub hl2 [2, 3, 1, 0] rfl) (fun j hj => absurd hj (by omega)) hH rfl va_S.rf
section IFILL
variable {p : Program} {l : Launch} {e : Env} {R : Room} {s : State} {m : MethodId} {args : Array Value} {below : List Frame} {meth : Method} {c : Code} {cc : ByteArray} {nL : Nat} {ret : Option FieldType} {own : String} {G : Gp} {Qm : State → Prop} {kc ks pc : Nat} {L L' : List (Nat × Value)} {st stk : List Value} {k0 nw : Nat} {E : Nat → va_E}
theorem JI_fill (F : FX p s m args meth c cc nL ret own G) {i n : Nat} {f : Nat → Int32} {v : Int32} (a : Nat) (ha : a < nw) (hE : E a = .inl (G.2.2.1.1, n, .inl f)) (hN : n < 2 ^ 31) (hlk : Cond.methodLink own i yJ7_fill_53178 ∈ TBL) (hR : 1 ≤ R.frames ∧ 23 ≤ R.locals) (hst : (st.map fun v => v.category).sum ≤ 8) (hkc : kc ≤ R.cells ∧ ks ≤ R.slots) (d : decode cc pc = .ok (.invokestatic i, 3)) (k : JI p l e R s m args below meth c nL G k0 Qm kc ks (pc + 3) L st nw (vu E a (.inl (G.2.2.1.1, n, .inl (fun _ => v))))) : JI p l e R s m args below meth c nL G k0 Qm kc ks pc L (.int v :: .ref (gb G + (k0 + a)) :: st) nw E := by
  intro ls H locs hl hP hZ hS
  have hts := F.2.2.2.2.2.2.1
  have cb : CallB R s args own i yJ7_fill_53178 cJ7_fill_53178 4 none (.code yJ7_fill_53178 cJ7_fill_53178 4 none :: TBL) (rmF 0 0) 0 0 2 := callB_of 2 hts (tb_GoodIn lc_J7_fill_53178) rfl rfl rfl (hts _ ini_J7) (hts _ hlk) hd_J7_fill_53178 hR
  have hH : H[gb G + (k0 + a)]? = some (vp_cell G.2.2.1.1 (n, .inl f)) := by
    have h1 := hP.to_I ha
    rw [hE] at h1
    exact h1
  have hr := va_runS (g := F0 m pc ls (.int v :: .ref (gb G + (k0 + a)) :: st)) (rest := st) (As := [.ref (gb G + (k0 + a)), .int v]) (H := H) (locs := locs) (cells := kc) (slots := ks) (p := p) (e := e) (below := below) (meth := meth) ⟨F.1, F.2.1, F.2.2.2.2.1, F.2.2.2.2.2.1, hts⟩ (C_fillI l G (gb G + (k0 + a)) n v f hN) ⟨cb, hts _ li_J7_fill_53178⟩ ⟨fun a U g mk q => ⟨q.1, q.2.1, va_K.moved (u := U) (U := U.calling g mk a) (Vm.Alike.refl U.vm) q.2.2⟩, fun U hU hW => ⟨rfl, by rw [hU]; exact hH, va_K.moved hW.alike F.2.2.2.2.2.2.2.1⟩⟩ rfl rfl hl.1 rfl (by simpa [JFrame.monitorRoom] using hst) d hkc
  intro T hT' X
  obtain ⟨v', st₀, t, T', L9, h0, X', hL, e1, e2, ⟨⟨hv, hz, hat⟩, hF⟩, hst'⟩ := hr T hT' X
  cases hv
  rw [← e1] at hz hat
  rw [h0] at hz
  have hF2 : ∀ q : Nat, q < H.size → ¬ q = gb G + (k0 + a) → T'.heap[q]? = H[q]? := fun q h1 h2 => by rw [e1, ← h0]; exact hF.2 q (by rw [h0]; exact h1) h2
  have hP9 : va_P (gD G) vwCl (wsI G k0 nw (vu E a (.inl (G.2.2.1.1, n, .inl (fun _ => v))))) T'.heap := va_P.of_I fun j hj => by
    unfold vu
    by_cases h : j = a
    · subst h
      rw [if_pos rfl]
      exact hat
    · rw [if_neg h]
      exact (hP.to_I hj).kept (hF2 _ (by rw [hZ]; show gb G + (k0 + j) < _; omega) (by show ¬ gb G + (k0 + j) = gb G + (k0 + a); omega))
  have hS9 : va_S (fk G k0) s.heap T'.heap (locs ++ L9) := by
    refine ⟨by rw [hz]; exact hS.1, fun q h1 h2 => ?_, fun q hq => ?_⟩
    · rw [hF2 q (Nat.lt_of_lt_of_le h1 hS.1) (fun h => h2 (by show gb G + k0 ≤ q; omega)), hS.2.1 q h1 h2]
    · rcases List.mem_append.mp hq with h | h
      · exact hS.2.2 q h
      · have h1 : q.base = gb G + (k0 + a) := hL q h
        show gb G + k0 ≤ q.base
        rw [h1]
        exact Nat.add_le_add_left (Nat.le_add_right _ _) _
  obtain ⟨t2, a1, b1⟩ := k ls T'.heap (locs ++ L9) hl hP9 (by rw [hz, hZ]) hS9 T' rfl X'
  exact ⟨t2, hst' t2 a1, b1⟩
end IFILL
/-! a world with a list in front, and behind it what the start has -/
theorem pf_out {G : Gp} {k0 : Nat} {es : List va_E} {j : Nat} (h : es.length ≤ j) : pf G k0 es j = ent G (k0 + j) (st0 (k0 + j)) := by
  unfold pf
  rw [List.getElem?_eq_none h]
  rfl
theorem pf_new {G : Gp} {k0 n : Nat} {es es' : List va_E} {e : va_E} (hn : es.length = n) (h : es ++ [e] = es') : vu (pf G k0 es) n e = pf G k0 es' := by
  subst h
  funext j
  unfold vu pf
  by_cases c : j = n
  · rw [if_pos c, c, ← hn, List.getElem?_append_right (Nat.le_refl _)]
    simp
  · rw [if_neg c]
    by_cases c2 : j < es.length
    · rw [List.getElem?_append_left c2]
    · rw [List.getElem?_eq_none (by omega), List.getElem?_eq_none (by simp; omega)]
theorem pf_set {G : Gp} {k0 a : Nat} {es es' : List va_E} {e : va_E} (ha : a < es.length) (h : es.set a e = es') : vu (pf G k0 es) a e = pf G k0 es' := by
  subst h
  funext j
  unfold vu pf
  by_cases c : j = a
  · subst c
    rw [if_pos rfl, List.getElem?_set_self ha]
    rfl
  · rw [if_neg c, List.getElem?_set_ne (Ne.symm c)]
theorem pf_ctor {G : Gp} {k0 n : Nat} {es : List va_E} {e : va_E} (hn : es.length ≤ n) : bl G k0 n (vu (pf G k0 es) n e) = pf G k0 es := by
  funext j
  unfold bl
  by_cases c : j < n
  · rw [if_pos c]
    unfold vu
    rw [if_neg (by omega)]
  · rw [if_neg c, pf_out (by omega)]
theorem JI_eq {p : Program} {l : Launch} {e : Env} {R : Room} {s : State} {m : MethodId} {args : Array Value} {below : List Frame} {meth : Method} {c : Code} {nL : Nat} {G : Gp} {Qm : State → Prop} {kc ks pc : Nat} {L : List (Nat × Value)} {st : List Value} {k0 nw : Nat} {E : Nat → va_E} (n' kc' ks' : Nat) (E' : Nat → va_E) (hn : nw = n') (hc : kc = kc') (hs : ks = ks') (hE : E = E') (k : JI p l e R s m args below meth c nL G k0 Qm kc' ks' pc L st n' E') : JI p l e R s m args below meth c nL G k0 Qm kc ks pc L st nw E := by
  subst hn hc hs hE
  exact k
theorem fin_i {G : Gp} {a k N : Nat} {f : Nat → Int32} {H : Heap} (hl : lay k = (10, N)) (hf : ∀ j, j < N → f j = st0 k j) (h : va_at (gD G) vwCl (a, .inl (G.2.2.1.1, N, .inl f)) H) : va_at (gD G) vwCl (a, ent G k (st0 k)) H := by
  rw [ent_i hl]
  show H[a]? = some (vp_cell _ _)
  rw [← arr_congr hf]
  exact h
theorem fin_b {G : Gp} {a k N : Nat} {f : Nat → Int32} {H : Heap} (hl : lay k = (11, N)) (hf : ∀ j, j < N → f j = st0 k j) (h : va_at (gD G) vwCl (a, .inl (G.2.2.1.2.1, N, .inl f)) H) : va_at (gD G) vwCl (a, ent G k (st0 k)) H := by
  rw [ent_b hl]
  show H[a]? = some (vp_cell _ _)
  rw [← arr_congr hf]
  exact h
theorem fin_N {G : Gp} {a k N : Nat} {f : Nat → Option Nat} {H : Heap} (hl : lay k = (12, N)) (hf : ∀ j, j < N → f j = some (gb G + (8 + 21 * j))) (h : va_at (gD G) vwCl (a, .inl (G.2.2.1.2.2.1, N, .inr (.inr (.inr (.inr f))))) H) : va_at (gD G) vwCl (a, ent G k (st0 k)) H := by
  rw [ent_N hl]
  show H[a]? = some (vp_cell _ _)
  rw [← arr_congrQ hf]
  exact h
theorem fin_S {G : Gp} {a k N : Nat} {f : Nat → Option Nat} {H : Heap} (hl : lay k = (13, N)) (hf : ∀ j, j < N → f j = some (gb G + (k + 8 + 4 * j))) (h : va_at (gD G) vwCl (a, .inl (G.2.2.1.2.2.2.1, N, .inr (.inr (.inr (.inr f))))) H) : va_at (gD G) vwCl (a, ent G k (st0 k)) H := by
  rw [ent_S hl]
  show H[a]? = some (vp_cell _ _)
  rw [← arr_congrQ hf]
  exact h
theorem fin_o {G : Gp} {a k ci : Nat} {fs : List Value} {H : Heap} (hl : lay k = (ci, 0)) (hc : ci < 10) (hf : fs = flds (gb G) k ci (st0 k)) (h : va_at (gD G) vwCl (a, .inr (ci, fs)) H) : va_at (gD G) vwCl (a, ent G k (st0 k)) H := by
  rw [ent_o hl hc, ← hf]
  exact h
