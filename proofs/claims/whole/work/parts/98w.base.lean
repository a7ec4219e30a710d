/-! THE BASE: what the statement gives of the start -/
theorem base_T {args : Array Value} {s : State} (hts : ∀ w ∈ lw_tbl, w.before args s = true) : ∀ w ∈ TBL, w.before args s = true := fun w h => hts w (List.mem_filter.mp h).1
theorem base_D {args : Array Value} {s : State} (hts : ∀ w ∈ TBL, w.before args s = true) : ∃ D : va_G, ∀ (c : Nat) (q : vw_C), vwCl[c]? = some q → u_Kn s q.1 q.2.1 q.2.2 (D.1 c) (D.2 c) := by
  have h : ∀ c : Nat, ∃ d : ClassId × (Nat → Nat), ∀ q : vw_C, vwCl[c]? = some q → u_Kn s q.1 q.2.1 q.2.2 d.1 d.2 := by
    intro c
    match c with
    | 0 => obtain ⟨a, b, h⟩ := u_known hts inX0 (hts _ zj_X0); exact ⟨(a, b), fun q hq => by cases hq; exact h⟩
    | 1 => obtain ⟨a, b, h⟩ := u_known hts inX1 (hts _ zj_X1); exact ⟨(a, b), fun q hq => by cases hq; exact h⟩
    | 2 => obtain ⟨a, b, h⟩ := u_known hts inX2 (hts _ zj_X2); exact ⟨(a, b), fun q hq => by cases hq; exact h⟩
    | 3 => obtain ⟨a, b, h⟩ := u_known hts inX3 (hts _ zj_X3); exact ⟨(a, b), fun q hq => by cases hq; exact h⟩
    | 4 => obtain ⟨a, b, h⟩ := u_known hts inX4 (hts _ zj_X4); exact ⟨(a, b), fun q hq => by cases hq; exact h⟩
    | 5 => obtain ⟨a, b, h⟩ := u_known hts inX5 (hts _ zj_X5); exact ⟨(a, b), fun q hq => by cases hq; exact h⟩
    | 6 => obtain ⟨a, b, h⟩ := u_known hts inX6 (hts _ zj_X6); exact ⟨(a, b), fun q hq => by cases hq; exact h⟩
    | 7 => obtain ⟨a, b, h⟩ := u_known hts inX7 (hts _ zj_X7); exact ⟨(a, b), fun q hq => by cases hq; exact h⟩
    | 8 => obtain ⟨a, b, h⟩ := u_known hts inX8 (hts _ zj_X8); exact ⟨(a, b), fun q hq => by cases hq; exact h⟩
    | 9 => obtain ⟨a, b, h⟩ := u_known hts inX9 (hts _ zj_X9); exact ⟨(a, b), fun q hq => by cases hq; exact h⟩
    | n + 10 => exact ⟨(0, fun _ => 0), fun q hq => absurd (List.getElem?_eq_some_iff.mp hq).1 (by simp)⟩
  obtain ⟨d, hd⟩ := Classical.axiomOfChoice h
  exact ⟨(fun c => (d c).1, fun c => (d c).2), hd⟩
theorem base_A {args : Array Value} {s : State} {ty : FieldType} (h : (Cond.arrayClass ty).before args s = true) : ∃ cA : ClassId, ArrOfT s cA ty ∧ s.vm.findClass ("[" ++ ty.toString) = some cA := by
  obtain ⟨c, k, comp, h1, h2, h3⟩ := Cond.arrayClass_spec h
  exact ⟨c, fun n z => ⟨fun k h => (by cases h), k, h2, comp, h3⟩, h1⟩
theorem base_O {s : State} {C : String} (h : va_AO C s) : ∃ cA : ClassId, ArrOfT s cA (.object C) ∧ va_RA s cA (.object C) := by
  obtain ⟨comp, c, k, h1, -, h2, h3, h4⟩ := Cond.arrayOver_spec (va_AO.use (A := #[]) h)
  exact ⟨c, fun n z => ⟨fun k h => (by cases h), k, h2, comp, h3⟩, k, comp, h2, h3, h1, h4⟩
theorem vb_eqR {args : Array Value} {s : State} {t u : Term} {a b : Nat} (h : (Cond.eq t u).before args s = true) (ht : t.eval args s none [] s = some (.ref a)) (hu : u.eval args s none [] s = some (.ref b)) : a = b := by
  simpa [Cond.before, Cond.holds, Cond.value, ht, hu] using h
abbrev gvn : Cond := Jvm.Cond.and given_1 narrow_1
def tR (i : Nat) : Term := .string RX3 (txR.getD i (0, "")).1
def tM (i : Nat) : Term := .string RX9 (txM.getD i (0, "")).1
theorem gR1 : ∀ i, i < 12 → Cond.exactly (tR i) "java/lang/String" ∈ flatC gvn := by decide +kernel
theorem gR2 : ∀ i, i < 12 → Cond.eq (.field (tR i) "java/lang/String" "coder" "B") (.int 0) ∈ flatC gvn := by decide +kernel
theorem gR3 : ∀ i, i < 12 → Cond.arrayOf (.field (tR i) "java/lang/String" "value" "[B") .byte ∈ flatC gvn := by decide +kernel
theorem gR4 : ∀ i, i < 12 → Cond.eq (.length (.field (tR i) "java/lang/String" "value" "[B")) (.int (Int32.ofNat (litL.getD i 0))) ∈ flatC gvn := by decide +kernel
theorem gR5 : ∀ i, i < 12 → ∀ j, j < litL.getD i 0 → Cond.eq (.elem (.field (tR i) "java/lang/String" "value" "[B") (.int (Int32.ofNat j))) (.int ((litB.getD i []).getD j 0)) ∈ flatC gvn := by decide +kernel
theorem gR6 : ∀ i, i < 12 → Cond.stringRef RX3 (txR.getD i (0, "")).1 (txR.getD i (0, "")).2 ∈ lw_tbl := by decide +kernel
theorem gM1 : ∀ i, i < 12 → Cond.exactly (tM i) "java/lang/String" ∈ flatC gvn := by decide +kernel
theorem gM2 : ∀ i, i < 12 → Cond.eq (tR i) (tM i) ∈ flatC gvn := by decide +kernel
theorem gM6 : ∀ i, i < 12 → Cond.stringRef RX9 (txM.getD i (0, "")).1 (txM.getD i (0, "")).2 ∈ lw_tbl := by decide +kernel
theorem gX1 : ∀ i, i < 14 → Cond.exactly (.string RX8 (txX.getD i (0, "")).1) "java/lang/String" ∈ flatC gvn := by decide +kernel
theorem gX6 : ∀ i, i < 14 → Cond.stringRef RX8 (txX.getD i (0, "")).1 (txX.getD i (0, "")).2 ∈ lw_tbl := by decide +kernel
theorem gS1 : Cond.arrayOf (.static RX8 "SPREAD" "[I") .int ∈ flatC gvn := by decide +kernel
theorem gS2 : Cond.eq (.length (.static RX8 "SPREAD" "[I")) (.int (Int32.ofNat 32)) ∈ flatC gvn := by decide +kernel
theorem gS3 : ∀ j, j < 32 → Cond.eq (.elem (.static RX8 "SPREAD" "[I") (.int (Int32.ofNat j))) (.int (spr j)) ∈ flatC gvn := by decide +kernel
theorem gZ1 : Cond.isRef (.static Bundle.tN "UNASSIGNED_STACK" Bundle.steD) ∈ flatC gvn := by decide +kernel
theorem gZ2 : Cond.isRef (.static Bundle.tN "SUPPRESSED_SENTINEL" Bundle.listD) ∈ flatC gvn := by decide +kernel
theorem gZ3 : Cond.eq (.static RJ0 "COMPACT_STRINGS" "Z") (.int 1) ∈ flatC gvn := by decide +kernel
theorem gZ4 : Cond.isRef (.static RJ3 "SIOOBE_FORMATTER" "Ljava/util/function/BiFunction;") ∈ flatC gvn := by decide +kernel
theorem gC1 : ∀ E ∈ excs, ∀ E' ∈ excs, E ≠ E' → Cond.not (.castable E E') ∈ flatC gvn := by decide +kernel
theorem gC2 : ∀ E ∈ excs, Cond.castable E E ∈ lw_tbl := by decide +kernel
theorem lit_inj : ∀ i, i < 12 → ∀ j, j < 12 → Int32.ofNat (litL.getD i 0) = Int32.ofNat (litL.getD j 0) → (∀ k, k < litL.getD i 0 → (litB.getD i []).getD k 0 = (litB.getD j []).getD k 0) → i = j := by decide +kernel
theorem lit_len : ∀ i, i < 12 → ∀ j, j < 12 → Int32.ofNat (litL.getD i 0) = Int32.ofNat (litL.getD j 0) → litL.getD i 0 = litL.getD j 0 := by decide +kernel
theorem txR_at : ∀ (i : Nat) (q : Nat × String), txR[i]? = some q → i < 12 ∧ txR.getD i (0, "") = q := fun i q h => ⟨(List.getElem?_eq_some_iff.mp h).1, by rw [List.getD_eq_getElem?_getD, h]; rfl⟩
theorem txM_at : ∀ (i : Nat) (q : Nat × String), txM[i]? = some q → i < 12 ∧ txM.getD i (0, "") = q := fun i q h => ⟨(List.getElem?_eq_some_iff.mp h).1, by rw [List.getD_eq_getElem?_getD, h]; rfl⟩
theorem txX_at : ∀ (i : Nat) (q : Nat × String), txX[i]? = some q → i < 14 ∧ txX.getD i (0, "") = q := fun i q h => ⟨(List.getElem?_eq_some_iff.mp h).1, by rw [List.getD_eq_getElem?_getD, h]; rfl⟩
/-- the texts' cells -/
theorem base_S {args : Array Value} {s : State} {A : Nat → Prop} (hg : ∀ c ∈ flatC gvn, c.before args s = true) (hA : ∀ a : Nat, a < s.heap.size → ¬ A a) : ∃ adK adV : Nat → Nat, vk_S 12 litL litB adK adV A s s.heap ∧ ∀ i : Nat, i < 12 → (tR i).eval args s none [] s = some (.ref (adK i)) := by
  have h0 : ∀ i : Nat, ∃ q : Nat × Nat, i < 12 → (tR i).eval args s none [] s = some (.ref q.1) ∧ va_O "java/lang/String" q.1 A s s.heap ∧ va_OF "java/lang/String" "coder" "B" (.int 0) q.1 A s s.heap ∧ va_OF "java/lang/String" "value" "[B" (.ref q.2) q.1 A s s.heap ∧ va_T .byte q.2 (litL.getD i 0) (fun j => .int ((litB.getD i []).getD j 0)) A s s.heap := by
    intro i
    by_cases hi : i < 12
    · obtain ⟨a, c, cA, kA, q1, q2, q3, q4, q5, q6, -⟩ := Cond.exactly_spec (args := args) (first := s) (o := none) (s := s) (idx := []) (t := tR i) (cls := "java/lang/String") (hg _ (gR1 i hi))
      obtain ⟨t, ht, hT⟩ := va_Tof (N := litL.getD i 0) (f := fun j => .int ((litB.getD i []).getD j 0)) (A := A) ((by decide +kernel : ∀ i, i < 12 → litL.getD i 0 < 2 ^ 31) i hi) (hg _ (gR3 i hi)) (va_eqt (hg _ (gR4 i hi))) (fun j hj => va_eqt (hg _ (gR5 i hi j hj))) hA
      exact ⟨(a, t), fun _ => ⟨q1, ⟨cA, q3, q5, by rw [q6]; exact q2, hA a (Array.getElem?_eq_some_iff.mp q3).1⟩, vk_OFof q1 (va_eqt (hg _ (gR2 i hi))) hA, vk_OFof q1 ht hA, hT⟩⟩
    · exact ⟨(0, 0), fun h => absurd h hi⟩
  obtain ⟨ad, had⟩ := Classical.axiomOfChoice h0
  refine ⟨fun i => (ad i).1, fun i => (ad i).2, ⟨fun i hi => (had i hi).2, fun i j hi hj e => ?_⟩, fun i hi => (had i hi).1⟩
  dsimp only at e
  obtain ⟨-, -, -, ⟨cf, kf, fi, f, cell, a1, a2, a3, a4, a5, a6⟩, ⟨ci, b1, b2, b3, b4, b5, b6, b7⟩⟩ := had i hi
  obtain ⟨-, -, -, ⟨cf', kf', fi', f', cell', c1, c2, c3, c4, c5, c6⟩, ⟨ci', d1, d2, d3, d4, d5, d6, d7⟩⟩ := had j hj
  rw [e] at a3
  cases a3.symm.trans c3
  have hff := a1.symm.trans c1
  simp only [Option.some.injEq, Prod.mk.injEq] at hff
  obtain ⟨-, -, -, rfl⟩ := hff
  have hv := a5.symm.trans c5
  simp only [Option.some.injEq, Value.ref.injEq] at hv
  rw [hv] at b1
  cases b1.symm.trans d1
  have hl := b5.symm.trans d5
  refine lit_inj i hi j hj hl fun k hk => ?_
  have h1 := (b6 k hk).symm.trans (d6 k (by rw [← lit_len i hi j hj hl]; exact hk))
  simpa using h1
theorem base_X {args : Array Value} {s : State} (hts : ∀ w ∈ lw_tbl, w.before args s = true) : Nx s :=
  ⟨⟨va_Nw.of rfl (hts _ (List.mem_of_getElem? (i := 161) (by decide +kernel))), va_Nw.of rfl (hts _ (List.mem_of_getElem? (i := 203) (by decide +kernel))), va_Nw.of rfl (hts _ (List.mem_of_getElem? (i := 307) (by decide +kernel))), va_Nw.of rfl (hts _ (List.mem_of_getElem? (i := 235) (by decide +kernel)))⟩, va_AO.of (hts _ (List.mem_of_getElem? (i := 226) (by decide +kernel))), va_AO.of (hts _ (List.mem_of_getElem? (i := 233) (by decide +kernel)))⟩
theorem base_ex {args : Array Value} {s : State} (hts : ∀ w ∈ lw_tbl, w.before args s = true) (hgv : gvn.before args s = true) : ∃ G : Gp, gb G = s.heap.size ∧ va_K (gD G) vwCl (gT G) s ∧ Sx G s s.heap ∧ Nx s := by
  have hT := base_T hts
  have hg := flat_of_before _ hgv
  have hx := base_X hts
  obtain ⟨D, hD⟩ := base_D hT
  obtain ⟨cI, i1, i2⟩ := base_A (hT _ za_int)
  obtain ⟨cB, b1, b2⟩ := base_A (hT _ za_byte)
  obtain ⟨cL, l1, l2⟩ := base_A (ty := .long) (hts _ (List.mem_of_getElem? (i := 1875) (by decide +kernel)))
  obtain ⟨cN, n1, n2⟩ := base_O hx.2.1
  obtain ⟨cS, s1, s2⟩ := base_O hx.2.2
  have hA : ∀ a : Nat, a < s.heap.size → ¬ (fun q : Nat => s.heap.size ≤ q) a := fun a h q => absurd q (Nat.not_le.mpr h)
  obtain ⟨t, ht, hTt⟩ := va_Tof (N := 32) (f := fun j => .int (spr j)) (A := fun q => s.heap.size ≤ q) (by decide) (hg _ gS1) (va_eqt (hg _ gS2)) (fun j hj => va_eqt (hg _ (gS3 j hj))) hA
  obtain ⟨adK, adV, hS, hev⟩ := base_S (A := fun q => s.heap.size ≤ q) hg hA
  refine ⟨(s.heap.size, D, (cI, cB, cN, cS, cL), t, adK, adV), rfl, ⟨hD, fun k q hk => ?_⟩, ?_, hx⟩
  · match k with
    | 0 => cases hk; exact ⟨i1, i2⟩
    | 1 => cases hk; exact ⟨b1, b2⟩
    | 2 => cases hk; exact ⟨n1, n2⟩
    | 3 => cases hk; exact ⟨s1, s2⟩
    | 4 => cases hk; exact ⟨l1, l2⟩
    | n + 5 => exact absurd (List.getElem?_eq_some_iff.mp hk).1 (by simp)
  · refine ⟨⟨?_, hTt, ?_, Nat.le_refl _, ?_⟩, ⟨fun i q hq => ?_, fun i q hq => ?_, fun i q hq => ?_, hS⟩, ⟨?_, ?_⟩, ⟨⟨?_, ?_, ?_⟩, fun E hE => va_Nw.of rfl (hts _ (gC2 E hE)), fun E hE E' hE' hn => va_Nc.of (hg _ (gC1 E hE E' hE' hn))⟩, ?_, ?_⟩
    · exact va_Zof (hts _ (List.mem_of_getElem? (i := 444) (by decide +kernel))) (hT _ zy_X8) ht hA
    · obtain ⟨cell, h1, -⟩ := hTt
      exact (Array.getElem?_eq_some_iff.mp h1).1
    · exact va_Nw.of rfl (hts _ (List.mem_of_getElem? (i := 443) (by decide +kernel)))
    · obtain ⟨hi, e⟩ := txR_at i q hq
      subst e
      exact vk_R.of (hts _ (gR6 i hi)) (hev i hi)
    · obtain ⟨hi, e⟩ := txM_at i q hq
      subst e
      obtain ⟨a, c, cA, kA, q1, -⟩ := Cond.exactly_spec (args := args) (first := s) (o := none) (s := s) (idx := []) (t := tM i) (cls := "java/lang/String") (hg _ (gM1 i hi))
      have h2 := vb_eqR (hg _ (gM2 i hi)) (hev i hi) q1
      subst h2
      exact vk_R.of (hts _ (gM6 i hi)) q1
    · obtain ⟨hi, e⟩ := txX_at i q hq
      subst e
      obtain ⟨a, c, cA, kA, q1, -⟩ := Cond.exactly_spec (args := args) (first := s) (o := none) (s := s) (idx := []) (t := .string RX8 (txX.getD i (0, "")).1) (cls := "java/lang/String") (hg _ (gX1 i hi))
      exact ⟨a, vk_R.of (hts _ (gX6 i hi)) q1⟩
    · exact vx_Zqof (hts _ (List.mem_of_getElem? (i := 521) (by decide +kernel))) (hts _ (List.mem_of_getElem? (i := 144) (by decide +kernel))) (hg _ gZ1) hA
    · exact vx_Zqof (hts _ (List.mem_of_getElem? (i := 523) (by decide +kernel))) (hts _ (List.mem_of_getElem? (i := 144) (by decide +kernel))) (hg _ gZ2) hA
    · exact va_Nw.of rfl (hts _ (List.mem_of_getElem? (i := 498) (by decide +kernel)))
    · exact va_Nw.of rfl (hts _ (List.mem_of_getElem? (i := 500) (by decide +kernel)))
    · exact va_Nw.of rfl (hts _ (List.mem_of_getElem? (i := 502) (by decide +kernel)))
    · exact va_Zof (hts _ (List.mem_of_getElem? (i := 776) (by decide +kernel))) (hts _ (List.mem_of_getElem? (i := 138) (by decide +kernel))) (va_eqt (hg _ gZ3)) hA
    · exact va_Zqof (hts _ (List.mem_of_getElem? (i := 792) (by decide +kernel))) (hts _ (List.mem_of_getElem? (i := 140) (by decide +kernel))) (hg _ gZ4) hA
