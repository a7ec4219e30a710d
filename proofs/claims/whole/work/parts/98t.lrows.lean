/-! THE LAW'S LOOP: rows -/
section LROWS
variable {p : Program} {l : Launch} {e : Env} {R : Room} {s : State} {m : MethodId} {args : Array Value} {below : List Frame} {meth : Method} {c : Code} {cc : ByteArray} {nL : Nat} {ret : Option FieldType} {own : String} {G : Gp} {Qm : State → Prop} {kc ks pc : Nat} {L L' : List (Nat × Value)} {st stk : List Value} {σ : St}
theorem J_widen {k n : Nat} (h1 : kc ≤ k) (h2 : ks ≤ n) (h : J p l e R s m args below meth c nL G Qm k n pc L st σ) : J p l e R s m args below meth c nL G Qm kc ks pc L st σ :=
  fun ls H locs hl hP hS => W.widen h1 h2 (h ls H locs hl hP hS)
theorem J_sld (F : FX p s m args meth c cc nL ret own G) {b Ln : Nat} {xs : Nat → Int32} (hX : va_X b Ln xs s s.heap) (hb : b < gb G) (hg : gb G = s.heap.size) {i : Int32} (hin : vp_in i Ln) (d : decode cc pc = .ok (.iaload, 1)) (k : J p l e R s m args below meth c nL G Qm kc ks (pc + 1) L (.int (xs i.toNatClampNeg) :: st) σ) : J p l e R s m args below meth c nL G Qm kc ks pc L (.int i :: .ref b :: st) σ :=
  fun ls H locs hl hP hS => va_sld F.1 F.2.1 hX (by rw [← hg]; exact hb) (Nat.not_le.mpr hb) hS hin d (k ls H locs hl hP hS)
theorem J_scrlen (F : FX p s m args meth c cc nL ret own G) {b Ln : Nat} {xs : Nat → Int32} (hX : va_X b Ln xs s s.heap) (hb : b < gb G) (hg : gb G = s.heap.size) (d : decode cc pc = .ok (.arraylength, 1)) (k : J p l e R s m args below meth c nL G Qm kc ks (pc + 1) L (.int (nI Ln) :: st) σ) : J p l e R s m args below meth c nL G Qm kc ks pc L (.ref b :: st) σ :=
  fun ls H locs hl hP hS => va_slen F.1 F.2.1 hX (by rw [← hg]; exact hb) (Nat.not_le.mpr hb) hS d (k ls H locs hl hP hS)
theorem J_lald (F : FX p s m args meth c cc nL ret own G) {a n : Nat} {i : Int32} (hlay : lay a = (14, n)) (hin : vp_in i n) (d : decode cc pc = .ok (.laload, 1)) (k : J p l e R s m args below meth c nL G Qm kc ks (pc + 1) L (.long (σ a i.toNatClampNeg).toInt64 :: st) σ) : J p l e R s m args below meth c nL G Qm kc ks pc L (.int i :: .ref (gb G + a) :: st) σ :=
  fun ls H locs hl hP hS => va_lald (D := gD G) F.1 F.2.1 F.2.2.2.2.2.2.2.1 hP a 4 (by rw [ws_get G σ (lay_lt hlay (by omega)), ent_l hlay]) rfl hin d (k ls H locs hl hP hS)
theorem J_lcmp (F : FX p s m args meth c cc nL ret own G) {x y : Int64} (d : decode cc pc = .ok (.lcmp, 1)) (k : J p l e R s m args below meth c nL G Qm kc ks (pc + 1) L (.int (lg_cmp x y) :: st) σ) : J p l e R s m args below meth c nL G Qm kc ks pc L (.long y :: .long x :: st) σ :=
  fun ls H locs hl hP hS => W.lcmp F.1 F.2.1 d (k ls H locs hl hP hS)
theorem J_callSW (F : FX p s m args meth c cc nL ret own G) {y : MethodName} {cy : ByteArray} {nL' fm lo mc' ms' i : Nat} {ret' : Option FieldType} {hh : List (Nat × Nat × Nat × Nat)} {As : List Value} {Qr : Int32 → St → Prop} (hM : CnW l y cy nL' ret' hh fm lo mc' ms' G As σ (qI Qr)) (hlk : Cond.methodLink own i y ∈ TBL) (hsa : Cond.static y ∈ TBL) (hini : Cond.initialized y.cls ∈ TBL) (hco : Cond.codeWith y cy nL' ret' hh ∈ TBL) (hd : y.cls ≠ "java/lang/invoke/MethodHandle" ∧ y.cls ≠ "java/lang/invoke/VarHandle" ∧ (parseMethodDescriptor y.desc).map (fun d => d.parameters.length) = some As.length) (hR : fm + 1 ≤ R.frames ∧ 8 + (nL' + 11) + lo ≤ R.locals) (hst : (st.map fun v => v.category).sum ≤ 8) (hkc : kc + mc' ≤ R.cells ∧ ks + ms' ≤ R.slots) (hs : stk = As.reverse ++ st) (d : decode cc pc = .ok (.invokestatic i, 3)) (k : ∀ r σ', Qr r σ' → J p l e R s m args below meth c nL G Qm (kc + mc') (ks + ms') (pc + 3) L (.int r :: st) σ') : J p l e R s m args below meth c nL G Qm kc ks pc L stk σ := by
  intro ls H locs hl hP hS
  have hts := F.2.2.2.2.2.2.1
  have hG : GoodIn TBL (va_wsS own i y (.codeWith y cy nL' ret' hh :: TBL)) := fun w hw => by
    have h1 : w ∈ TBL := by
      unfold va_wsS at hw
      rcases List.mem_append.mp hw with h | h
      · rcases List.mem_cons.mp h with e | h
        · rw [e]; exact hlk
        · rcases List.mem_cons.mp h with e | h
          · rw [e]; exact hsa
          · rcases List.mem_cons.mp h with e | h
            · rw [e]; exact hini
            · cases h
      · rcases List.mem_cons.mp h with e | h
        · rw [e]; exact hco
        · exact h
    exact ⟨h1, good_of_word (tb_good _ h1)⟩
  have cb : vx_CSW R s args own i y cy nL' ret' hh (.codeWith y cy nL' ret' hh :: TBL) (rmX fm lo mc' ms') mc' ms' As.length := vx_cwSW As.length hts hG rfl rfl rfl hd hR
  have hr := vx_runSW (g := F0 m pc ls stk) (rest := st) (As := As) (H := H) (locs := locs) (cells := kc) (slots := ks) (p := p) (e := e) (below := below) (meth := meth) ⟨F.1, F.2.1, F.2.2.2.2.1, F.2.2.2.2.2.1, hts⟩ hM cb ⟨fun a U g mk q => ⟨q.1, q.2.calling⟩, fun U hU hW => ⟨rfl, by rw [hU]; exact hP, va_K.moved hW.alike F.2.2.2.2.2.2.2.1, by rw [hU]; exact (F.2.2.2.2.2.2.2.2.kept hS.1 hS.2.1).warm hW⟩⟩ rfl rfl hl.1 hs (by simpa [JFrame.monitorRoom] using hst) d hkc
  intro T hT' X
  obtain ⟨v, st₀, t, T', L9, h0, X', hL, e1, e2, ⟨⟨v', σ', hv, ⟨r, hr2, hq⟩, hP'⟩, hF⟩, hst'⟩ := hr T hT' X
  cases hv
  subst hr2
  obtain ⟨t2, a1, b1⟩ := k r σ' hq ls T'.heap (locs ++ L9) hl (by rw [e1]; exact hP') (by rw [e1]; exact hS.calls h0 hF hL) T' rfl X'
  exact ⟨t2, hst' t2 a1, b1⟩
end LROWS
theorem lcmp_same (x : Int64) : lg_cmp x x = 0 := by simp [lg_cmp]
/-- the law's locals, and what stays in its loop -/
abbrev Lw (G : Gp) (b : Nat) (x4 : Int32) : List (Nat × Value) := [(4, .int x4), (3, .ref (gb G + 258)), (2, .ref (gb G + 244)), (1, .ref (gb G + 0)), (0, .ref b)]
def LA (p : Program) (s : State) (m : MethodId) (meth : Method) (c : Code) (G : Gp) (b Ln : Nat) (xs : Nat → Int32) : Prop :=
  FX p s m #[Value.ref b] meth c code 7 ret RL G ∧ va_X b Ln xs s s.heap ∧ b < gb G ∧ gb G = s.heap.size
/-- the int of the script at i + c -/
abbrev sc (xs : Nat → Int32) (x4 : Int32) (c : Nat) : Int32 := xs (x4 + nI c).toNatClampNeg
/-- one call of the law, from its place in the switch -/
def LStep (p : Program) (l : Launch) (e : Env) (s : State) (m : MethodId) (below : List Frame) (meth : Method) (c : Code) (G : Gp) (b : Nat) (Qm : State → Prop) (x4 : Int32) (pc : Nat) : Prop :=
  ∀ (kc ks : Nat) (σ : St) (u : AS), kc + 4 ≤ 601024 → ks + 24 ≤ 7293034 → CR σ u → RR σ u → Sok u →
    (∀ (σ' : St) (u' : AS), CR σ' u' → RR σ' u' → Sok u' → J p l e room_1 s m #[Value.ref b] below meth c 7 G Qm (kc + 4) (ks + 24) 1966 (Lw G b x4) [] σ') → J p l e room_1 s m #[Value.ref b] below meth c 7 G Qm kc ks pc (Lw G b x4) [] σ
theorem rMend_ok (u : AS) : (rMend u).1 = 0 := by
  unfold rMend actR
  rw [if_pos (show acode (sF u) 10 0 0 0 0 = 0 from rfl)]
