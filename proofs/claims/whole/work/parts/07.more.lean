section MORE
variable {p : Program} {l : Launch} {e : Env} {R : Room} {s : State} {m : MethodId} {args : Array Value} {below : List Frame} {meth : Method} {c : Code} {cc : ByteArray} {nL : Nat} {ret : Option FieldType} {own : String} {G : Gp} {Qm : State → Prop} {kc ks pc : Nat} {L L' : List (Nat × Value)} {st stk : List Value} {σ : St}
theorem J_st (k : ∀ σ' : St, σ' = σ → J p l e R s m args below meth c nL G Qm kc ks pc L st σ') : J p l e R s m args below meth c nL G Qm kc ks pc L st σ := k σ rfl
theorem J_case {x v : Int32} (kt : x = v → J p l e R s m args below meth c nL G Qm kc ks pc L (.int v :: st) σ) (kf : ¬ x = v → J p l e R s m args below meth c nL G Qm kc ks pc L (.int x :: st) σ) : J p l e R s m args below meth c nL G Qm kc ks pc L (.int x :: st) σ := by
  by_cases h : x = v
  · have := kt h; rw [h]; exact this
  · exact kf h
theorem J_ialdc (F : FX p s m args meth c cc nL ret own G) {a n i : Nat} (hlay : lay a = (10, n)) (hi : i < n) (hn : n < 2 ^ 31) (d : decode cc pc = .ok (.iaload, 1)) (k : J p l e R s m args below meth c nL G Qm kc ks (pc + 1) L (.int (σ a i) :: st) σ) : J p l e R s m args below meth c nL G Qm kc ks pc L (.int (nI i) :: .ref (gb G + a) :: st) σ :=
  J_iald F hlay (vp_in_nI hi hn) d (by rw [nI_clamp (Nat.lt_trans hi hn)]; exact k)
theorem J_iastc (F : FX p s m args meth c cc nL ret own G) {a n i : Nat} {x : Int32} (hlay : lay a = (10, n)) (hi : i < n) (hn : n < 2 ^ 31) (d : decode cc pc = .ok (.iastore, 1)) (k : J p l e R s m args below meth c nL G Qm kc ks (pc + 1) L st (su σ a i x)) : J p l e R s m args below meth c nL G Qm kc ks pc L (.int x :: .int (nI i) :: .ref (gb G + a) :: st) σ :=
  J_iast F hlay (vp_in_nI hi hn) d (by rw [nI_clamp (Nat.lt_trans hi hn)]; exact k)
end MORE
theorem nz_b {v : Int32} (h : v = 0 ∨ v = 1) : narrow .boolean (.int v) = .int v := by rcases h with rfl | rfl <;> decide
theorem nz_f {v : Int32} (h : v = 0 ∨ v = 1) : fits .boolean (.int v) = true := by rcases h with rfl | rfl <;> decide
theorem tnc_lt {x : Int32} : x.toNatClampNeg < 2 ^ 31 := by
  have h : x.toInt < 2 ^ 31 := Int32.toInt_lt x
  show x.toInt.toNat < 2 ^ 31
  omega
theorem tab_out {x : Int32} (lo hi : Nat) (h : ∀ k : Nat, lo ≤ k → k ≤ hi → ¬ x = nI k) : x.toInt < (lo : Int) ∨ (hi : Int) < x.toInt := by
  rcases Int.lt_or_le x.toInt lo with q | q
  · exact Or.inl q
  · rcases Int.lt_or_le (hi : Int) x.toInt with q2 | q2
    · exact Or.inr q2
    · exfalso
      have h3 := Int32.toInt_lt x
      refine h x.toInt.toNat (by omega) (by omega) ?_
      apply Int32.toInt_inj.mp
      rw [nI_toInt (by omega)]
      omega
theorem toInt_ne {x : Int32} {k : Nat} (hk : k < 2 ^ 31) (h : ¬ x = nI k) : ¬ x.toInt = (k : Int) := fun q => h (Int32.toInt_inj.mp (by rw [nI_toInt hk]; exact q))
theorem look_out2 {x : Int32} {a b d : Int} (h0 : ¬ x = nI 0) (h1 : ¬ x = nI 1) : Op.lookupswitch.offset (#[((0 : Int), a), (1, b)]).toList d x.toInt = d := by
  have e0 : ¬ x.toInt = 0 := toInt_ne (k := 0) (by decide) h0
  have e1 : ¬ x.toInt = 1 := toInt_ne (k := 1) (by decide) h1
  have e2 : ¬ (0 : Int) = x.toInt := fun q => e0 q.symm
  have e3 : ¬ (1 : Int) = x.toInt := fun q => e1 q.symm
  simp [Op.lookupswitch.offset, e0, e1, e2, e3]
