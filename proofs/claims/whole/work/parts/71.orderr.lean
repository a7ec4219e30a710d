/-! the order: the reference -/
theorem s_X9_farFrom {σ : St} {i px py : Nat} {f : Nat → Int32} {Q : Int32 → Prop} (hσ : σ 245 = f) (hf : RowOK f) (hx : px < 100) (hy : py < 100) (hi : i < gK f) (hQ : Q (nI (ldist f px py i))) : wp_X9_farFrom σ (nI i) (nI px) (nI py) Q := by
  have hK := hf.2.2.1.2
  have h4 := hf.2.2.2.1 i hi
  unfold wp_X9_farFrom
  simp (disch := omega) only [forall_eq, forall_eq', n_inT, n_cl, n_lt, n_le, n_eq, n_eq0, n_lt0, n_ge0, n_gt0, n_le0, n_em, n_me, n_add, n_mul, n_00, n_s01, n_1z, n_0z, Nat.one_ne_zero, eq_self, ne_eq, true_and, and_true, true_implies, false_implies, implies_true, not_true_eq_false, not_false_eq_true, false_and, and_false, or_false, false_or, or_true, true_or]
  rw [hσ, h4.1.1, h4.2.1]
  refine s_X9_apart (by omega) (by omega) (s_X9_apart (by omega) (by omega) ?_)
  rw [n_add]
  exact hQ
theorem s_X9_isNearer {σ : St} {i j px py : Nat} {f : Nat → Int32} {Q : Int32 → Prop} (hσ : σ 245 = f) (hf : RowOK f) (hx : px < 100) (hy : py < 100) (hi : i < gK f) (hj : j < gK f) (h1 : nrd (ldist f px py) i j = true → Q (nI 1)) (h0 : ¬ nrd (ldist f px py) i j = true → Q (nI 0)) : wp_X9_isNearer σ (nI i) (nI j) (nI px) (nI py) Q := by
  have hK := hf.2.2.1.2
  unfold wp_X9_isNearer
  refine s_X9_farFrom hσ hf hx hy hi (s_X9_farFrom hσ hf hx hy hj ?_)
  have l1 := ldist_lt hf hx hy hi
  have l2 := ldist_lt hf hx hy hj
  have e1 : nrd (ldist f px py) i j = true ↔ (ldist f px py i < ldist f px py j ∨ ldist f px py i = ldist f px py j ∧ i < j) := by
    unfold nrd
    rw [decide_eq_true_eq]
    exact ⟨fun t => t.2.2, fun t => ⟨by omega, by omega, t⟩⟩
  rw [e1] at h1 h0
  intro g hg
  rw [hg, n_sneg (by omega) (by omega), n_szero (by omega) (by omega), n_le (by omega) (by omega)]
  exact ⟨fun c => h1 (by omega), fun c => ⟨fun c2 => h0 (by omega), fun c2 => ⟨fun c3 => h0 (by omega), fun c3 => h1 (by omega)⟩⟩⟩
theorem bst_lt {nr : Nat → Nat → Bool} {m : Nat} : ∀ n b, bst nr m n = some b → b < n ∧ m.testBit b = true
  | 0, b, h => by simp [bst] at h
  | n + 1, b, h => by
    unfold bst at h
    cases e : bst nr m n with
    | none =>
      rw [e] at h
      dsimp only at h
      split at h
      · cases h; exact ⟨by omega, by assumption⟩
      · cases h
    | some c =>
      rw [e] at h
      dsimp only at h
      have := bst_lt n c e
      split at h
      · cases h; exact ⟨by omega, by rename_i q; exact q.1⟩
      · cases h; exact ⟨by omega, this.2⟩
theorem bst_none {nr : Nat → Nat → Bool} {m : Nat} : ∀ n, bst nr m n = none → ∀ b, b < n → m.testBit b = false
  | 0, _, b, hb => absurd hb (by omega)
  | n + 1, h, b, hb => by
    unfold bst at h
    cases e : bst nr m n with
    | none =>
      rw [e] at h
      dsimp only at h
      split at h
      · cases h
      · rcases Nat.lt_or_ge b n with q | q
        · exact bst_none n e b q
        · rw [show b = n by omega]
          rename_i q2
          simpa using q2
    | some c =>
      rw [e] at h
      dsimp only at h
      split at h <;> cases h
theorem pc_le (m : Nat) : ∀ n, pc m n ≤ n
  | 0 => Nat.le_refl _
  | n + 1 => by have := pc_le m n; unfold pc; split <;> omega
theorem pc_clr8 : ∀ left, left < 8 → ∀ b, b < 3 → left.testBit b = true → pc (clr left b) 3 + 1 = pc left 3 := by decide +kernel
theorem pc_pos8 : ∀ left, left < 8 → 0 < pc left 3 → ∃ b, b < 3 ∧ left.testBit b = true := by decide +kernel
theorem tb_top {left K b : Nat} (hl : left < 2 ^ K) (h : left.testBit b = true) : b < K := by
  rcases Nat.lt_or_ge b K with q | q
  · exact q
  · rw [Nat.testBit_lt_two_pow (Nat.lt_of_lt_of_le hl (Nat.pow_le_pow_right (by decide) q))] at h
    cases h
theorem or_ones : ∀ j, j < 3 → (2 ^ j - 1) ||| 2 ^ j = 2 ^ (j + 1) - 1 := by decide +kernel
theorem pc_ones : ∀ K, K ≤ 3 → pc (2 ^ K - 1) 3 = K := by decide +kernel
theorem pow8 : ∀ K, K ≤ 3 → 2 ^ K ≤ 8 := by decide +kernel
theorem s_X9_orderOf {σ : St} {px py : Nat} {f : Nat → Int32} {Q : Int32 → Prop} (hσ : σ 245 = f) (hf : RowOK f) (hx : px < 100) (hy : py < 100) (hQ : Q (nI (lord f px py))) : wp_X9_orderOf σ (nI px) (nI py) Q := by
  have hK := hf.2.2.1.2
  have h30 : σ 245 30 = nI (gK f) := by rw [hσ]; exact hf.2.2.1.1
  unfold lord at hQ
  rw [ord_eq _ hK] at hQ
  generalize hnr : nrd (ldist f px py) = nr at hQ
  have hpw := pow8 (gK f) hK
  refine LP2_nat (gK f) (fun j x y => x = nI (2 ^ j - 1) ∧ y = nI j) ?_ 0 _ _ (Nat.zero_le _) ⟨rfl, rfl⟩
  rintro ih j _ _ hj ⟨rfl, rfl⟩ hih
  unfold wp_X9_orderOf_8
  rw [h30]
  simp (disch := omega) only [forall_eq, forall_eq', n_inT, n_cl, n_lt, n_le, n_eq, n_eq0, n_lt0, n_ge0, n_gt0, n_le0, n_em, n_me, n_add, n_mul, n_00, n_s01, n_1z, n_0z, Nat.one_ne_zero, eq_self, ne_eq, true_and, and_true, true_implies, false_implies, implies_true, not_true_eq_false, not_false_eq_true, false_and, and_false, or_false, false_or, or_true, true_or]
  refine ⟨fun q => ?_, fun q => ?_⟩
  · have ej : j = gK f := by omega
    subst ej
    have hKp := Nat.two_pow_pos (gK f)
    refine LP3_nat (gK f) (fun i x y z => z = nI (gK f - i) ∧ ∃ left num, y = nI left ∧ x = nI num ∧ left < 2 ^ gK f ∧ pc left 3 = gK f - i ∧ ordR nr (gK f) (2 ^ gK f - 1) 0 = ordR nr (gK f - i) left num) ?_ 0 _ _ _ (Nat.zero_le _) ⟨rfl, 2 ^ gK f - 1, 0, rfl, rfl, by omega, by rw [pc_ones _ hK]; rfl, rfl⟩
    rintro ih2 i _ _ _ hi ⟨rfl, left, num, rfl, rfl, hll, hpc, he⟩ hih2
    unfold wp_X9_orderOf_44
    simp (disch := omega) only [forall_eq, forall_eq', n_inT, n_cl, n_lt, n_le, n_eq, n_eq0, n_lt0, n_ge0, n_gt0, n_le0, n_em, n_me, n_add, n_mul, n_00, n_s01, n_1z, n_0z, Nat.one_ne_zero, eq_self, ne_eq, true_and, and_true, true_implies, false_implies, implies_true, not_true_eq_false, not_false_eq_true, false_and, and_false, or_false, false_or, or_true, true_or]
    refine ⟨fun q2 => ?_, fun q2 => ?_⟩
    · rw [he, q2] at hQ
      exact hQ
    · obtain ⟨m, hm⟩ : ∃ m, gK f - i = m + 1 := ⟨gK f - i - 1, by omega⟩
      refine LP2_nat 3 (fun j x y => y = nI j ∧ x = nO (bst nr left j)) ?_ 0 _ _ (Nat.zero_le _) ⟨rfl, rfl⟩
      rintro ih3 j3 _ _ hj3 ⟨rfl, rfl⟩ hih3
      unfold wp_X9_orderOf_55
      simp (disch := omega) only [forall_eq, forall_eq', n_inT, n_cl, n_lt, n_le, n_eq, n_eq0, n_lt0, n_ge0, n_gt0, n_le0, n_em, n_me, n_add, n_mul, n_00, n_s01, n_1z, n_0z, Nat.one_ne_zero, eq_self, ne_eq, true_and, and_true, true_implies, false_implies, implies_true, not_true_eq_false, not_false_eq_true, false_and, and_false, or_false, false_or, or_true, true_or]
      refine ⟨fun q3 => ?_, fun q3 => ?_⟩
      · have ej : j3 = 3 := by omega
        subst ej
        cases eb : bst nr left 3 with
        | none =>
          obtain ⟨b, hb, ht⟩ := pc_pos8 left (by omega) (by omega)
          rw [bst_none 3 eb b hb] at ht
          cases ht
        | some b =>
          obtain ⟨hb, ht⟩ := bst_lt 3 b eb
          refine LP2_nat b (fun j x y => y = nI j ∧ x = nI (pc left j)) ?_ 0 _ _ (Nat.zero_le _) ⟨rfl, rfl⟩
          rintro ih4 j4 _ _ hj4 ⟨rfl, rfl⟩ hih4
          unfold wp_X9_orderOf_107
          rw [nO]
          simp (disch := omega) only [forall_eq, forall_eq', n_inT, n_cl, n_lt, n_le, n_eq, n_eq0, n_lt0, n_ge0, n_gt0, n_le0, n_em, n_me, n_add, n_mul, n_00, n_s01, n_1z, n_0z, Nat.one_ne_zero, eq_self, ne_eq, true_and, and_true, true_implies, false_implies, implies_true, not_true_eq_false, not_false_eq_true, false_and, and_false, or_false, false_or, or_true, true_or]
          refine ⟨fun q4 => ?_, fun q4 => ?_⟩
          · have ej : j4 = b := by omega
            subst ej
            unfold wp_X9_orderOf_132
            rw [n_clr (by omega), n_dec (by omega), n_mul, n_add]
            refine fun _ e1 _ e2 _ e3 => e1 ▸ e2 ▸ e3 ▸ hih2 _ _ _ (by omega) ⟨by congr 1, clr left j4, num * (gK f - i) + pc left j4, rfl, rfl, Nat.lt_of_le_of_lt (clr_le _ _) hll, ?_, ?_⟩
            · have := pc_clr8 left (by omega) j4 hb ht
              omega
            · rw [he, hm, ordR, eb, Option.getD_some, show gK f - (i + 1) = m by omega]
          · rw [n_bit (by omega) (by omega), n_add]
            exact hih4 _ _ (by omega) ⟨rfl, by rw [pc]⟩
      · rw [n_bit1 (by omega) (by omega)]
        refine ⟨fun c => hih3 _ _ (by omega) ⟨rfl, ?_⟩, fun c => ?_⟩
        · have c' : left.testBit j3 = false := by simpa using c
          cases e : bst nr left j3 with
          | none => simp [bst, e, c']
          | some b => simp [bst, e, c']
        · cases e : bst nr left j3 with
          | none =>
            refine ⟨fun _ => hih3 _ _ (by omega) ⟨rfl, ?_⟩, fun t => absurd rfl t⟩
            simp [bst, e, c, nO]
          | some b =>
            obtain ⟨hb, ht⟩ := bst_lt j3 b e
            refine ⟨fun t => absurd t (by rw [nO, n_em (by omega)]; exact not_false), fun _ => ?_⟩
            rw [nO]
            refine s_X9_isNearer hσ hf hx hy (tb_top hll c) (tb_top hll ht) (fun t => ?_) (fun t => ?_)
            · rw [hnr] at t
              refine ⟨fun s => absurd s (by decide), fun _ => hih3 _ _ (by omega) ⟨rfl, ?_⟩⟩
              simp [bst, e, c, t, nO]
            · rw [hnr] at t
              refine ⟨fun _ => hih3 _ _ (by omega) ⟨rfl, ?_⟩, fun s => absurd rfl s⟩
              simp [bst, e, t, nO]
  · rw [n_one (by omega), n_or, or_ones j (by omega)]
    exact hih _ _ (by omega) ⟨rfl, rfl⟩
theorem s_X9_ordersOf {σ : St} {f : Nat → Int32} {Q : Int32 → Prop} (hσ : σ 245 = f) (hf : RowOK f) (hQ : Q (nI (if gK f = 3 then 6 else if gK f = 2 then 2 else 1))) : wp_X9_ordersOf σ Q := by
  have hK := hf.2.2.1.2
  unfold wp_X9_ordersOf
  rw [show σ 245 30 = nI (gK f) by rw [hσ]; exact hf.2.2.1.1]
  simp (disch := omega) only [forall_eq, forall_eq', n_inT, n_cl, n_lt, n_le, n_eq, n_eq0, n_lt0, n_ge0, n_gt0, n_le0, n_em, n_me, n_add, n_mul, n_00, n_s01, n_1z, n_0z, Nat.one_ne_zero, eq_self, ne_eq, true_and, and_true, true_implies, false_implies, implies_true, not_true_eq_false, not_false_eq_true, false_and, and_false, or_false, false_or, or_true, true_or]
  refine ⟨fun c => ⟨fun c2 => ?_, fun c2 => ?_⟩, fun c => ?_⟩
  · rw [if_pos (by omega)] at hQ; exact hQ
  · rw [if_neg (by omega), if_pos c2] at hQ; exact hQ
  · rw [if_neg (by omega), if_neg (by omega)] at hQ; exact hQ
theorem s_X9_near0 {σ : St} {px py : Nat} {f : Nat → Int32} {Q : Int32 → St → Prop} (hσ : σ 245 = f) (hf : RowOK f) (hx : px < 100) (hy : py < 100) (hQ : wp_X9_join0 σ (nI px) (nI py) (nI (nrx f px py)) (nI ((px + py) % 32)) Q) : wp_X9_near0 σ (nI px) (nI py) Q := by
  unfold wp_X9_near0
  refine s_X9_ordersOf hσ hf ?_
  have hd : 0 < (if gK f = 3 then 6 else if gK f = 2 then 2 else 1) ∧ (if gK f = 3 then 6 else if gK f = 2 then 2 else 1) < 7 := by split <;> (try split) <;> decide
  refine ⟨fun q => ?_, s_X9_orderOf hσ hf hx hy ?_⟩
  · rw [n_eq0 (by omega)] at q; omega
  · rw [n_div (by decide) (by omega) (by omega), n_mul, n_add, n_mod32 (by omega)]
    exact hQ
