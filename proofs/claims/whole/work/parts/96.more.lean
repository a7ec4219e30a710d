/-! HUB, EVEN, STRAYS, SPOT -/
def hubF (o st : Nat → Nat) : Nat → Option Nat
  | 0 => none
  | n + 1 => match hubF o st n with
    | none => if st n = 1 then some n else none
    | some b => if st n = 1 ∧ pc (nbn o b) 10 < pc (nbn o n) 10 then some n else some b
theorem hubF_lt {o st : Nat → Nat} : ∀ n b, hubF o st n = some b → b < n
  | 0, b, h => by simp [hubF] at h
  | n + 1, b, h => by
    unfold hubF at h
    cases e : hubF o st n with
    | none =>
      rw [e] at h
      dsimp only at h
      split at h
      · cases h; omega
      · cases h
    | some c =>
      rw [e] at h
      dsimp only at h
      have := hubF_lt n c e
      split at h
      · cases h; omega
      · cases h; omega
theorem s_X9_members {σ : St} {m : Nat} {Q : Int32 → Prop} (hm : m < 1024) (hQ : Q (nI (pc m 10))) : wp_X9_members σ (nI m) Q := by
  refine LP2_nat 10 (fun i x y => y = nI i ∧ x = nI (pc m i)) ?_ 0 _ _ (Nat.zero_le _) ⟨rfl, rfl⟩
  rintro ih i _ _ hi ⟨rfl, rfl⟩ hih
  unfold wp_X9_members_4
  simp (disch := omega) only [forall_eq, forall_eq', n_inT, n_cl, n_lt, n_le, n_eq, n_eq0, n_lt0, n_ge0, n_gt0, n_le0, n_em, n_me, n_add, n_mul, n_00, n_s01, n_1z, n_0z, Nat.one_ne_zero, eq_self, ne_eq, true_and, and_true, true_implies, false_implies, implies_true, not_true_eq_false, not_false_eq_true, false_and, and_false, or_false, false_or, or_true, true_or]
  refine ⟨fun q => by rw [show i = 10 by omega]; exact hQ, fun q => ?_⟩
  rw [n_bit (by omega) (by omega), n_add]
  exact hih _ _ (by omega) ⟨rfl, rfl⟩
theorem s_X9_hubOf {τ : St} {o : Nat → Nat} {Q : Int32 → Prop} (hf : RowOK (τ 245)) (hb : OB o) (hl : LR τ o) (hQ : Q (nO (hubF o (gst (τ 245)) 10))) : wp_X9_hubOf τ Q := by
  refine LP2_nat 10 (fun j x y => y = nI j ∧ x = nO (hubF o (gst (τ 245)) j)) ?_ 0 _ _ (Nat.zero_le _) ⟨rfl, rfl⟩
  rintro ih j _ _ hj ⟨rfl, rfl⟩ hih
  unfold wp_X9_hubOf_4
  simp (disch := omega) only [forall_eq, forall_eq', n_inT, n_cl, n_lt, n_le, n_eq, n_eq0, n_lt0, n_ge0, n_gt0, n_le0, n_em, n_me, n_add, n_mul, n_00, n_s01, n_1z, n_0z, Nat.one_ne_zero, eq_self, ne_eq, true_and, and_true, true_implies, false_implies, implies_true, not_true_eq_false, not_false_eq_true, false_and, and_false, or_false, false_or, or_true, true_or]
  refine ⟨fun h => by have e : j = 10 := (by omega); subst e; exact hQ, fun h => s_X9_isState hf (by omega) (by decide) (fun c => ⟨fun _ => ?_, fun t => absurd t (by decide)⟩) (fun c => ⟨fun t => absurd rfl t, fun _ => hih _ _ (by omega) ⟨rfl, ?_⟩⟩)⟩
  · cases e : hubF o (gst (τ 245)) j with
    | none =>
      refine ⟨fun _ => hih _ _ (by omega) ⟨rfl, ?_⟩, fun q => absurd rfl q⟩
      simp [hubF, e, c, nO]
    | some b =>
      have hbl := hubF_lt j b e
      refine ⟨fun q => absurd q (by rw [nO, n_em (by omega)]; exact not_false), fun _ => ?_⟩
      rw [nO]
      refine s_X9_besideNode hb hl (by omega) (s_X9_members (nbn_lt _ _) (s_X9_besideNode hb hl (by omega) (s_X9_members (nbn_lt _ _) ?_)))
      have v1 := pc_le (nbn o b) 10
      have v2 := pc_le (nbn o j) 10
      rw [n_le (by omega) (by omega)]
      refine ⟨fun q => hih _ _ (by omega) ⟨rfl, ?_⟩, fun q => hih _ _ (by omega) ⟨rfl, ?_⟩⟩
      · simp [hubF, e, nO, show ¬ pc (nbn o b) 10 < pc (nbn o j) 10 by omega]
      · simp [hubF, e, nO, c, show pc (nbn o b) 10 < pc (nbn o j) 10 by omega]
  · cases e : hubF o (gst (τ 245)) j with
    | none => simp [hubF, e, c]
    | some b => simp [hubF, e, c]
theorem s_X7_besideIn {τ : St} {r n : Nat} {v : Int32} {Q : Int32 → Prop} (hr : r < 3) (hn : n < 10) (h : τ 177 (10 * r + n) = v) (hQ : Q v) : wp_X7_besideIn τ (nI r) (nI n) Q := by
  unfold wp_X7_besideIn
  rw [n_mul, n_add, n_cl (by omega), show r * 10 + n = 10 * r + n by omega, h]
  exact ⟨n_in (by omega) (by decide), hQ⟩
theorem s_X8_hubOf {σ : St} {s : AS} {r : Nat} {Q : Int32 → St → Prop} (h : CR σ s) (hs : Sok s) (hr : r < gR (sF s)) (hQ : ∀ τ, (∀ b, b < 176 ∨ 180 < b → τ b = σ b) → Q (nO (hubF (gow (sF s) r) (gst (sF s)) 10)) τ) : wp_X8_hubOf σ (nI r) Q := by
  obtain ⟨A, e, l, hN, hA⟩ := h.net
  have hR := hs.1.R3
  have hob := (hs.1.2 r hr).1.1
  unfold wp_X8_hubOf
  rw [e, n_cl (by omega)]
  refine ⟨l, n_in (by omega) (by decide), s_X7_lookBeside (hN.sp r hr) hob (hs.1.hP hr) (by omega) (Or.inr (by omega)) (fun τ a1 a2 a3 => ?_)⟩
  have hq := hQ τ (fun b hb => a1 b (by omega))
  refine LP3_nat 10 (fun j x w y => y = nI j ∧ x = nO (hubF (gow (sF s) r) (gst (sF s)) j) ∧ w = (match hubF (gow (sF s) r) (gst (sF s)) j with | none => -1 | some b => nI (pc (nbn (gow (sF s) r) b) 10))) ?_ 0 _ _ _ (Nat.zero_le _) ⟨rfl, rfl, rfl⟩
  rintro ih j _ _ _ hj ⟨rfl, rfl, rfl⟩ hih
  unfold wp_X8_hubOf_24
  rw [a1 0 (by decide), e]
  simp (disch := omega) only [forall_eq, forall_eq', n_inT, n_cl, n_lt, n_le, n_eq, n_eq0, n_lt0, n_ge0, n_gt0, n_le0, n_em, n_me, n_add, n_mul, n_00, n_s01, n_1z, n_0z, Nat.one_ne_zero, eq_self, ne_eq, true_and, and_true, true_implies, false_implies, implies_true, not_true_eq_false, not_false_eq_true, false_and, and_false, or_false, false_or, or_true, true_or]
  refine ⟨fun q => by have e : j = 10 := (by omega); subst e; exact hq, fun q => s_X7_besideIn (by omega) (by omega) (a2 j (by omega)) (s_J6_bitCount (nbn_lt _ _) ⟨l, n_in (by omega) (by decide), ?_⟩)⟩
  have hjl : j < 10 := by omega
  have hst := (hs.1.1.1 j hjl).2
  have v2 := pc_le (nbn (gow (sF s) r) j) 10
  rw [a1 _ (by omega), hN.st j hjl, n_eq (by omega) (by decide)]
  refine ⟨fun c => hih _ _ _ hjl ⟨rfl, ?_, ?_⟩, fun c => ?_⟩
  · cases e : hubF (gow (sF s) r) (gst (sF s)) j with
    | none => simp [hubF, e, c]
    | some b => simp [hubF, e, c]
  · cases e : hubF (gow (sF s) r) (gst (sF s)) j with
    | none => simp [hubF, e, c]
    | some b => simp [hubF, e, c]
  · cases e : hubF (gow (sF s) r) (gst (sF s)) j with
    | none =>
      have es : hubF (gow (sF s) r) (gst (sF s)) (j + 1) = some j := by simp [hubF, e, c]
      refine ⟨fun t => absurd t ?_, fun _ => hih _ _ _ hjl ⟨rfl, by rw [es]; rfl, by rw [es]⟩⟩
      dsimp only
      rw [Int32.not_le]
      exact Int32.lt_of_lt_of_le n_ltm1 (nI_pos' (by omega))
    | some b =>
      have hbl := hubF_lt j b e
      have v1 := pc_le (nbn (gow (sF s) r) b) 10
      dsimp only
      rw [n_le (by omega) (by omega)]
      refine ⟨fun t => hih _ _ _ hjl ⟨rfl, ?_, ?_⟩, fun t => hih _ _ _ hjl ⟨rfl, ?_, ?_⟩⟩
      · simp [hubF, e, show ¬ pc (nbn (gow (sF s) r) b) 10 < pc (nbn (gow (sF s) r) j) 10 by omega]
      · simp [hubF, e, show ¬ pc (nbn (gow (sF s) r) b) 10 < pc (nbn (gow (sF s) r) j) 10 by omega]
      · simp [hubF, e, c, nO, show pc (nbn (gow (sF s) r) b) 10 < pc (nbn (gow (sF s) r) j) 10 by omega]
      · simp [hubF, e, c, show pc (nbn (gow (sF s) r) b) 10 < pc (nbn (gow (sF s) r) j) 10 by omega]
/-! a node's volume is at most all -/
theorem sumN_int (a m : Nat) : ∀ n, a + m ≤ n → sumN (fun c => if a ≤ c ∧ c < a + m then 1 else 0) n = m
  | 0, h => by rw [show m = 0 by omega]; rfl
  | n + 1, h => by
    show sumN _ n + (if a ≤ n ∧ n < a + m then 1 else 0) = m
    rcases Nat.lt_or_ge n (a + m) with q | q
    · have e : n + 1 = a + m := by omega
      cases m with
      | zero =>
        rw [if_neg (by omega), show sumN (fun c => if a ≤ c ∧ c < a + 0 then 1 else 0) n = sumN (fun _ => 0) n from sumN_congr n (fun j _ => by rw [if_neg (by omega)]), sumN_zero]
      | succ m =>
        rw [if_pos (by omega), show sumN (fun c => if a ≤ c ∧ c < a + (m + 1) then 1 else 0) n = sumN (fun c => if a ≤ c ∧ c < a + m then 1 else 0) n from sumN_congr n (fun j hj => by
          by_cases c : a ≤ j ∧ j < a + m
          · rw [if_pos (by omega), if_pos c]
          · rw [if_neg (by omega), if_neg c]), sumN_int a m n (by omega)]
    · rw [if_neg (by omega), sumN_int a m n (by omega), Nat.add_zero]
theorem vol_le {o : Nat → Nat} (hb : OB o) (hc : chain o) (p : Nat) : vol o p ≤ 1024 := by
  have h1 : vol o p ≤ sumN (fun z => sumN (fun c => if o z = p + 1 ∧ (1024 + c) / 2 ^ (10 - zd z) = z then 1 else 0) 1024) 2048 := by
    refine sumN_le 2048 (fun z hz => ?_)
    by_cases e : o z = p + 1
    · rw [if_pos e]
      have z1 := PT.pos hb (show o z ≠ 0 by omega)
      have hd := zd_le hz z1
      have hp := zd_pow z1
      have a1 : 2 ^ zd z * 2 ^ (10 - zd z) = 1024 := by rw [← Nat.pow_add, show zd z + (10 - zd z) = 10 by omega]
      have a2 : 2 ^ (zd z + 1) * 2 ^ (10 - zd z) = 2048 := by rw [← Nat.pow_add, show zd z + 1 + (10 - zd z) = 11 by omega]
      have a3 : 1024 ≤ z * 2 ^ (10 - zd z) := by rw [← a1]; exact Nat.mul_le_mul hp.1 (Nat.le_refl _)
      have a4 : (z + 1) * 2 ^ (10 - zd z) ≤ 2048 := by rw [← a2]; exact Nat.mul_le_mul hp.2 (Nat.le_refl _)
      rw [Nat.succ_mul] at a4
      have a5 : zsz z = 2 ^ (10 - zd z) := by
        unfold zsz
        rw [← a1, Nat.mul_div_cancel_left _ (Nat.two_pow_pos _)]
      have a6 := sumN_int (z * 2 ^ (10 - zd z) - 1024) (2 ^ (10 - zd z)) 1024 (by omega)
      refine Nat.le_trans (Nat.le_of_eq (a5.trans a6.symm)) (sumN_le 1024 (fun c _ => ?_))
      by_cases d : z * 2 ^ (10 - zd z) - 1024 ≤ c ∧ c < z * 2 ^ (10 - zd z) - 1024 + 2 ^ (10 - zd z)
      · rw [if_pos d, if_pos ⟨e, div_in.mpr ⟨by omega, by omega⟩⟩]
        exact Nat.le_refl _
      · rw [if_neg d]; exact Nat.zero_le _
    · rw [if_neg e]; exact Nat.zero_le _
  rw [sumN_swap] at h1
  refine Nat.le_trans h1 ?_
  have h2 := sumN_le (g := fun c => sumN (fun z => if o z = p + 1 ∧ (1024 + c) / 2 ^ (10 - zd z) = z then 1 else 0) 2048) (h := fun _ => 1) 1024 (fun c hcl => by
    have hh := sumN_one (P := fun z => decide (o z = p + 1 ∧ (1024 + c) / 2 ^ (10 - zd z) = z)) 2048 (fun i j hi hj pi pj => by
      have pi := of_decide_eq_true pi
      have pj := of_decide_eq_true pj
      have e1 := zat_eq hc (c := 1024 + c) (i := 10 - zd i) (by omega) (by omega) (by omega) (by rw [pi.2]; omega)
      have e2 := zat_eq hc (c := 1024 + c) (i := 10 - zd j) (by omega) (by omega) (by omega) (by rw [pj.2]; omega)
      rw [pi.2] at e1
      rw [pj.2] at e2
      omega)
    simp only [decide_eq_true_eq] at hh
    exact hh)
  rw [sumN_const] at h2
  exact h2
/-! EVEN -/
def emx (o st : Nat → Nat) : Nat → Nat
  | 0 => 0
  | n + 1 => if st n = 1 then max (emx o st n) (vol o n) else emx o st n
def emn (o st : Nat → Nat) : Nat → Nat
  | 0 => 1024
  | n + 1 => if st n = 1 then min (emn o st n) (vol o n) else emn o st n
def anyU (st : Nat → Nat) : Nat → Bool
  | 0 => false
  | n + 1 => anyU st n || decide (st n = 1)
theorem anyU_iff (st : Nat → Nat) : ∀ n, anyU st n = true ↔ ∃ j, j < n ∧ st j = 1
  | 0 => by simp [anyU]
  | n + 1 => by
    unfold anyU
    rw [Bool.or_eq_true, anyU_iff st n, decide_eq_true_eq]
    constructor
    · rintro (⟨j, h1, h2⟩ | h)
      · exact ⟨j, by omega, h2⟩
      · exact ⟨n, by omega, h⟩
    · rintro ⟨j, h1, h2⟩
      rcases Nat.lt_or_ge j n with t | t
      · exact Or.inl ⟨j, t, h2⟩
      · exact Or.inr (by rw [show n = j by omega]; exact h2)
theorem em_le {o st : Nat → Nat} : ∀ n, anyU st n = true → emn o st n ≤ emx o st n
  | 0, h => by simp [anyU] at h
  | n + 1, h => by
    unfold emn emx
    by_cases c : st n = 1
    · rw [if_pos c, if_pos c]
      exact Nat.le_trans (Nat.min_le_right _ _) (Nat.le_max_right _ _)
    · rw [if_neg c, if_neg c]
      refine em_le n ?_
      unfold anyU at h
      rw [Bool.or_eq_true] at h
      rcases h with h | h
      · exact h
      · exact absurd (of_decide_eq_true h) c
theorem emx_le (o st : Nat → Nat) : ∀ n, emx o st n ≤ 2048 * 1024
  | 0 => Nat.zero_le _
  | n + 1 => by
    unfold emx
    split
    · exact Nat.max_le.mpr ⟨emx_le o st n, vol_lt o n⟩
    · exact emx_le o st n
theorem emn_le (o st : Nat → Nat) : ∀ n, emn o st n ≤ 1024
  | 0 => Nat.le_refl _
  | n + 1 => by
    unfold emn
    split
    · exact Nat.le_trans (Nat.min_le_left _ _) (emn_le o st n)
    · exact emn_le o st n
def evn (o st : Nat → Nat) : Int32 := if anyU st 10 then nI (emx o st 10 - emn o st 10) else -1
theorem s_X4_evenOf {σ : St} {s : Nat} {o st : Nat → Nat} {Q : Int32 → Prop} (hs : SpRep σ s o) (hQ : Q (evn o st)) : wp_X4_evenOf σ s (nI (bits st 1)) Q := by
  have hbl := bits_lt st 1
  have e0 : bits st 1 = 0 ↔ anyU st 10 = false := by
    rw [z10 hbl]
    constructor
    · intro h
      rw [Bool.eq_false_iff]
      intro t
      obtain ⟨j, hj, e⟩ := (anyU_iff st 10).mp t
      have := h j hj
      rw [tb_bits] at this
      simp [hj, e] at this
    · intro h j hj
      rw [tb_bits]
      by_cases c : st j = 1
      · have := (anyU_iff st 10).mpr ⟨j, hj, c⟩
        rw [h] at this; cases this
      · simp [c]
  unfold wp_X4_evenOf
  unfold evn at hQ
  rw [n_eq0 (by omega), e0]
  refine ⟨fun c => ?_, fun c => by rw [c] at hQ; exact hQ⟩
  have c' : anyU st 10 = true := by cases e : anyU st 10 with | true => rfl | false => exact absurd e c
  rw [if_pos c'] at hQ
  refine LP3_nat 10 (fun j x w y => y = nI j ∧ x = nI (emx o st j) ∧ w = nI (emn o st j)) ?_ 0 _ _ _ (Nat.zero_le _) ⟨rfl, rfl, rfl⟩
  rintro ih j _ _ _ hj ⟨rfl, rfl, rfl⟩ hih
  have h1 := emx_le o st j
  have h2 := emn_le o st j
  unfold wp_X4_evenOf_15
  simp (disch := omega) only [forall_eq, forall_eq', n_inT, n_cl, n_lt, n_le, n_eq, n_eq0, n_lt0, n_ge0, n_gt0, n_le0, n_em, n_me, n_add, n_mul, n_00, n_s01, n_1z, n_0z, Nat.one_ne_zero, eq_self, ne_eq, true_and, and_true, true_implies, false_implies, implies_true, not_true_eq_false, not_false_eq_true, false_and, and_false, or_false, false_or, or_true, true_or]
  refine ⟨fun q => ?_, fun q => ?_⟩
  · rw [show j = 10 by omega, n_sub (em_le 10 c')]; exact hQ
  · have hjl : j < 10 := by omega
    have hv := vol_lt o j
    rw [n_bit0 (by omega) (by omega), tb_bits]
    by_cases d : st j = 1
    · refine ⟨fun t => by simp [hjl, d] at t, fun _ => ⟨n_in hjl (by decide), ?_⟩⟩
      rw [hs.2.1 j hjl, n_max (by omega) (by omega), n_min (by omega) (by omega)]
      have eX : emx o st (j + 1) = max (emx o st j) (vol o j) := by
        conv => lhs; unfold emx
        rw [if_pos d]
      have eN : emn o st (j + 1) = min (emn o st j) (vol o j) := by
        conv => lhs; unfold emn
        rw [if_pos d]
      exact ⟨n_in hjl (by decide), hih _ _ _ hjl ⟨rfl, by rw [eX], by rw [eN]⟩⟩
    · refine ⟨fun _ => hih _ _ _ hjl ⟨rfl, ?_, ?_⟩, fun t => absurd (by simp [d]) t⟩
      · conv => rhs; unfold emx
        rw [if_neg d]
      · conv => rhs; unfold emn
        rw [if_neg d]
def emG (o st : Nat → Nat) : Nat → Nat
  | 0 => 1000000
  | n + 1 => if st n = 1 then min (emG o st n) (vol o n) else emG o st n
theorem emn_G (o st : Nat → Nat) : ∀ n, emn o st n = min 1024 (emG o st n)
  | 0 => by show 1024 = min 1024 1000000; decide
  | n + 1 => by
    unfold emn emG
    split
    · rw [emn_G o st n, Nat.min_assoc]
    · exact emn_G o st n
theorem emG_le (o st : Nat → Nat) : ∀ n, emG o st n ≤ 1000000
  | 0 => Nat.le_refl _
  | n + 1 => by
    unfold emG
    split
    · exact Nat.le_trans (Nat.min_le_left _ _) (emG_le o st n)
    · exact emG_le o st n
theorem emG_any {o st : Nat → Nat} (hv : ∀ n, vol o n ≤ 1024) : ∀ n, anyU st n = true → emG o st n ≤ 1024
  | 0, h => by simp [anyU] at h
  | n + 1, h => by
    unfold emG
    by_cases c : st n = 1
    · rw [if_pos c]; exact Nat.le_trans (Nat.min_le_right _ _) (hv n)
    · rw [if_neg c]
      refine emG_any hv n ?_
      unfold anyU at h
      rw [Bool.or_eq_true] at h
      rcases h with h | h
      · exact h
      · exact absurd (of_decide_eq_true h) c
theorem s_X9_even {τ : St} {o : Nat → Nat} {Q : Int32 → Prop} (hf : RowOK (τ 245)) (hb : OB o) (hc : chain o) (hl : LR τ o) (hQ : Q (evn o (gst (τ 245)))) : wp_X9_even τ Q := by
  have hvol := vol_le hb hc
  generalize hst : gst (τ 245) = st at *
  refine LP3_nat 10 (fun j x w y => y = nI j ∧ x = nI (emG o st j) ∧ w = (if anyU st j then nI (emx o st j) else -1)) ?_ 0 _ _ _ (Nat.zero_le _) ⟨rfl, rfl, rfl⟩
  rintro ih j _ _ _ hj ⟨rfl, rfl, rfl⟩ hih
  have h1 := emx_le o st j
  have h2 := emG_le o st j
  unfold wp_X9_even_8
  simp (disch := omega) only [forall_eq, forall_eq', n_inT, n_cl, n_lt, n_le, n_eq, n_eq0, n_lt0, n_ge0, n_gt0, n_le0, n_em, n_me, n_add, n_mul, n_00, n_s01, n_1z, n_0z, Nat.one_ne_zero, eq_self, ne_eq, true_and, and_true, true_implies, false_implies, implies_true, not_true_eq_false, not_false_eq_true, false_and, and_false, or_false, false_or, or_true, true_or]
  refine ⟨fun q => ?_, fun q => ?_⟩
  · have ej : j = 10 := by omega
    subst ej
    unfold wp_X9_even_55
    unfold evn at hQ
    cases e : anyU st 10 with
    | false =>
      rw [e] at hQ
      exact ⟨fun t => absurd rfl t, fun _ => hQ⟩
    | true =>
      rw [e, if_pos rfl, emn_G, Nat.min_eq_right (emG_any hvol 10 e)] at hQ
      have hle := em_le (o := o) 10 e
      rw [emn_G, Nat.min_eq_right (emG_any hvol 10 e)] at hle
      rw [if_pos rfl, n_em (by omega), n_sub hle]
      exact ⟨fun _ => hQ, fun t => t.elim⟩
  · have hjl : j < 10 := by omega
    have hv := hvol j
    refine s_X9_isState hf hjl (by decide) (fun c => ⟨fun _ => s_X9_volumeOf hb hl hjl (s_X9_lesser (by omega) (by omega) ?_), fun t => absurd t (by decide)⟩) (fun c => ⟨fun t => absurd rfl t, fun _ => hih _ _ _ hjl ⟨rfl, ?_, ?_⟩⟩)
    · rw [hst] at c
      have eG : emG o st (j + 1) = min (emG o st j) (vol o j) := by
        conv => lhs; unfold emG
        rw [if_pos c]
      have eX : emx o st (j + 1) = max (emx o st j) (vol o j) := by
        conv => lhs; unfold emx
        rw [if_pos c]
      have eA : anyU st (j + 1) = true := (anyU_iff st (j + 1)).mpr ⟨j, by omega, c⟩
      cases ea : anyU st j with
      | false =>
        have hx0 : emx o st j = 0 := by
          have key : ∀ n, anyU st n = false → emx o st n = 0 := by
            intro n
            induction n with
            | zero => intro _; rfl
            | succ n ihn =>
              intro h
              unfold anyU at h
              rw [Bool.or_eq_false_iff] at h
              unfold emx
              rw [if_neg (of_decide_eq_false h.2)]
              exact ihn h.1
          exact key j ea
        refine ⟨fun t => absurd t ?_, fun _ => hih _ _ _ hjl ⟨rfl, by rw [eG], by rw [eA, eX, hx0, if_pos rfl, Nat.zero_max]⟩⟩
        rw [if_neg (by decide), Int32.not_le]
        exact Int32.lt_of_lt_of_le n_ltm1 (nI_pos' (by omega))
      | true =>
        rw [if_pos rfl, n_le (by omega) (by omega)]
        refine ⟨fun t => hih _ _ _ hjl ⟨rfl, by rw [eG], by rw [eA, eX, if_pos rfl, Nat.max_eq_left t]⟩, fun t => hih _ _ _ hjl ⟨rfl, by rw [eG], by rw [eA, eX, if_pos rfl, Nat.max_eq_right (by omega)]⟩⟩
    · rw [hst] at c
      conv => rhs; unfold emG
      rw [if_neg c]
    · rw [hst] at c
      have eX : emx o st (j + 1) = emx o st j := by
        conv => lhs; unfold emx
        rw [if_neg c]
      have eA : anyU st (j + 1) = anyU st j := by
        conv => lhs; unfold anyU
        simp [c]
      rw [eX, eA]
