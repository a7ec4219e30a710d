/-! what is remembered: the reference -/
theorem s_X9_putsAside {σ : St} {Q : St → Prop} (hQ : ∀ τ, (∀ b, b ≠ 246 → τ b = σ b) → Eq6 (τ 246) (σ 245) → Q τ) : wp_X9_putsAside σ Q := by
  refine LP2_nat 6682 (fun i τ z => z = nI i ∧ (∀ b, b ≠ 246 → τ b = σ b) ∧ ∀ j, j < i → τ 246 j = σ 245 j) ?_ 0 _ _ (Nat.zero_le _) ⟨rfl, fun _ _ => rfl, fun j hj => absurd hj (by omega)⟩
  rintro ih i τ _ hi ⟨rfl, hne, hrow⟩ hih
  unfold wp_X9_putsAside_2
  simp (disch := omega) only [forall_eq, forall_eq', n_inT, n_cl, n_lt, n_le, n_eq, n_eq0, n_lt0, n_ge0, n_gt0, n_le0, n_em, n_me, n_add, n_mul, n_00, n_s01, n_1z, n_0z, Nat.one_ne_zero, eq_self, ne_eq, true_and, and_true, true_implies, false_implies, implies_true, not_true_eq_false, not_false_eq_true, false_and, and_false, or_false, false_or, or_true, true_or]
  refine ⟨fun q => hQ τ hne (fun j hj => hrow j (by omega)), fun q => ⟨n_in (by omega) (by decide), n_in (by omega) (by decide), hih _ _ (by omega) ⟨rfl, fun b hb => by rw [su_ne hb]; exact hne b hb, fun j hj => ?_⟩⟩⟩
  rw [su_at]
  by_cases c : j = i
  · rw [if_pos c, c, hne 245 (by decide)]
  · rw [if_neg c]; exact hrow j (by omega)
/-- the reference's state, whatever is thrown, whatever why is -/
theorem s_rem51 {σ : St} {U : Nat} {rows : Nat → Nat → Int32} {f : Nat → Int32} {Q : St → Prop} (hU : U < 8) (h5 : σ 244 5 = nI U) (hr : ∀ i, i < U → ∀ j, j < 6682 → σ 248 (6682 * i + j) = rows i j) (hf : Eq6 (σ 246) f)
    (hQ : ∀ τ, (∀ b, b ≠ 244 → b ≠ 248 → τ b = σ b) → (∀ j, j ≠ 5 → τ 244 j = σ 244 j) → τ 244 5 = nI (U + 1) → (∀ i, i < U → ∀ j, j < 6682 → τ 248 (6682 * i + j) = rows i j) → (∀ j, j < 6682 → τ 248 (6682 * U + j) = f j) → Q τ) : ∃ n9 : Nat, LP2 (wp_X9_remembers_51 Q) n9 σ (nI 0) := by
  refine LP2_nat 6682 (fun i τ z => z = nI i ∧ (∀ b, b ≠ 248 → τ b = σ b) ∧ (∀ q, q < U → ∀ j, j < 6682 → τ 248 (6682 * q + j) = rows q j) ∧ ∀ j, j < i → τ 248 (6682 * U + j) = f j) ?_ 0 _ _ (Nat.zero_le _) ⟨rfl, fun _ _ => rfl, hr, fun j hj => absurd hj (by omega)⟩
  rintro ih i τ _ hi ⟨rfl, hne, hro, hrow⟩ hih
  unfold wp_X9_remembers_51
  have h5' : τ 244 5 = nI U := by rw [hne 244 (by decide)]; exact h5
  rw [h5']
  simp (disch := omega) only [forall_eq, forall_eq', n_inT, n_cl, n_lt, n_le, n_eq, n_eq0, n_lt0, n_ge0, n_gt0, n_le0, n_em, n_me, n_add, n_mul, n_00, n_s01, n_1z, n_0z, Nat.one_ne_zero, eq_self, ne_eq, true_and, and_true, true_implies, false_implies, implies_true, not_true_eq_false, not_false_eq_true, false_and, and_false, or_false, false_or, or_true, true_or]
  refine ⟨fun q => ?_, fun q => ⟨n_in (by omega) (by decide), n_in (by omega) (by decide), ?_⟩⟩
  · refine hQ _ (fun b b1 b2 => by rw [su_ne b1]; exact hne b b2) (fun j hj => by rw [su_at, if_neg hj, hne 244 (by decide)]) (by rw [su_at, if_pos rfl]) (fun i' hi' j hj => by rw [su_ne (by decide)]; exact hro i' hi' j hj) (fun j hj => by rw [su_ne (by decide)]; exact hrow j (by omega))
  · refine hih _ _ (by omega) ⟨rfl, fun b hb => by rw [su_ne hb]; exact hne b hb, fun q' hq' j hj => ?_, fun j hj => ?_⟩
    · rw [su_at, if_neg (by omega)]; exact hro q' hq' j hj
    · rw [su_at]
      by_cases c : j = i
      · rw [if_pos (by omega), c, hne 246 (by decide), hf i (by omega)]
      · rw [if_neg (by omega)]; exact hrow j (by omega)
theorem s_X9_remembers {σ : St} {U : Nat} {rows : Nat → Nat → Int32} {f : Nat → Int32} {Q : St → Prop} (hU : U ≤ 8) (h5 : σ 244 5 = nI U) (hr : ∀ i, i < U → ∀ j, j < 6682 → σ 248 (6682 * i + j) = rows i j) (hf : Eq6 (σ 246) f)
    (hQ : ∀ τ, (∀ b, b ≠ 244 → b ≠ 248 → τ b = σ b) → (∀ j, j ≠ 5 → τ 244 j = σ 244 j) → τ 244 5 = nI (pU U) → (∀ i, i < pU U → ∀ j, j < 6682 → τ 248 (6682 * i + j) = pR U rows f i j) → Q τ) : wp_X9_remembers σ Q := by
  unfold wp_X9_remembers
  rw [h5, n_eq (by omega) (by decide)]
  unfold pU pR at hQ
  refine ⟨fun c => ?_, fun c => ?_⟩
  · refine s_rem51 (by omega) h5 hr hf (fun τ a1 a2 a3 a4 a5 => hQ τ a1 a2 (by rw [if_neg c]; exact a3) (fun i hi j hj => ?_))
    rw [if_neg c] at hi ⊢
    by_cases e : i = U
    · rw [if_pos e, e]; exact a5 j hj
    · rw [if_neg e]; exact a4 i (by omega) j hj
  · refine LP2_nat 46774 (fun i τ z => z = nI i ∧ (∀ b, b ≠ 248 → τ b = σ b) ∧ (∀ j, j < i → τ 248 j = σ 248 (j + 6682)) ∧ ∀ j, i ≤ j → τ 248 j = σ 248 j) ?_ 0 _ _ (Nat.zero_le _) ⟨rfl, fun _ _ => rfl, fun j hj => absurd hj (by omega), fun _ _ => rfl⟩
    rintro ih i τ _ hi ⟨rfl, hne, hlo, hhi⟩ hih
    unfold wp_X9_remembers_11
    simp (disch := omega) only [forall_eq, forall_eq', n_inT, n_cl, n_lt, n_le, n_eq, n_eq0, n_lt0, n_ge0, n_gt0, n_le0, n_em, n_me, n_add, n_mul, n_00, n_s01, n_1z, n_0z, Nat.one_ne_zero, eq_self, ne_eq, true_and, and_true, true_implies, false_implies, implies_true, not_true_eq_false, not_false_eq_true, false_and, and_false, or_false, false_or, or_true, true_or]
    refine ⟨fun q => ?_, fun q => ⟨n_in (by omega) (by decide), hih _ _ (by omega) ⟨rfl, fun b hb => by rw [su_ne hb]; exact hne b hb, fun j hj => ?_, fun j hj => ?_⟩⟩⟩
    · unfold wp_X9_remembers_39
      intro τ1 hτ1
      rw [hne 244 (by decide), h5, c, n_sub (by decide)] at hτ1
      have m1 : ∀ b, b ≠ 244 → τ1 b = τ b := fun b hb => by rw [hτ1, su_ne hb]
      refine s_rem51 (U := 7) (rows := fun i => rows (i + 1)) (f := f) (by decide) (by rw [hτ1, su_at, if_pos rfl]) (fun i' hi' j hj => ?_) (by rw [m1 246 (by decide), hne 246 (by decide)]; exact hf) (fun τ2 a1 a2 a3 a4 a5 => hQ τ2 (fun b b1 b2 => by rw [a1 b b1 b2, m1 b b1, hne b b2]) (fun j hj => by rw [a2 j hj, hτ1, su_at, if_neg hj, hne 244 (by decide)]) (by rw [if_pos c]; exact a3) (fun i' hi' j hj => ?_))
      · rw [m1 248 (by decide), hlo _ (by omega), show 6682 * i' + j + 6682 = 6682 * (i' + 1) + j by omega]
        exact hr (i' + 1) (by omega) j hj
      · rw [if_pos c] at hi' ⊢
        by_cases e : i' = 7
        · rw [if_pos e, e]; exact a5 j hj
        · rw [if_neg e]; exact a4 i' (by omega) j hj
    · rw [su_at]
      by_cases e : j = i
      · rw [if_pos e, e, hhi _ (by omega)]
      · rw [if_neg e]; exact hlo j (by omega)
    · rw [su_at, if_neg (by omega)]; exact hhi j (by omega)
/-- the end of an act by a call: done -/
theorem s_X9_isDone0 {σ : St} {s : AS} {f1 : Nat → Int32} {x2 : Int32} {Q : Int32 → St → Prop} (hR : RR σ (rowS s f1)) (hs : Sok s) (h6 : Eq6 (σ 246) (sF s))
    (hQ : ∀ τ, Rf σ τ → RR τ (doneS s f1) → τ 244 0 = nI 0 → τ 244 28 = σ 244 28 → Q (nI 1) τ) : wp_X9_isDone σ (nI 0) x2 Q := by
  obtain ⟨r1, r2, r3, r4, r5, r6, r7, r8, r9⟩ := hR
  unfold wp_X9_isDone
  intro σ1 hσ1
  refine ⟨fun _ => ?_, fun t => absurd (by decide) t⟩
  unfold wp_X9_isDone_15
  intro σ2 hσ2
  refine ⟨fun t => absurd rfl t, fun _ => ?_⟩
  have m : ∀ b, b ≠ 244 → σ2 b = σ b := fun b hb => by rw [hσ2, su_ne hb, hσ1, su_ne hb]
  have g : ∀ j, j ≠ 0 → j ≠ 7 → σ2 244 j = σ 244 j := fun j j1 j2 => by rw [hσ2, su_at, if_neg j1, hσ1, su_at, if_neg j2]
  refine s_X9_remembers (U := sU s) (rows := sR s) (f := sF s) hs.2.1 (by rw [g 5 (by decide) (by decide)]; exact r2) (by rw [m 248 (by decide)]; exact r3) (by rw [m 246 (by decide)]; exact h6) (fun τ a1 a2 a3 a4 => ?_)
  unfold wp_X9_isDone_26
  refine ⟨fun t => absurd rfl t, fun _ => ?_⟩
  refine hQ τ (fun b hb => by rw [a1 b (by omega) (by omega)]; exact m b (by omega)) ⟨?_, a3, a4, ?_, ?_, ?_, ?_, ?_, ?_⟩ ?_ ?_
  · rw [a1 245 (by decide) (by decide), m 245 (by decide)]; exact r1
  · rw [a2 6 (by decide), g 6 (by decide) (by decide)]; exact r4
  · rw [a1 247 (by decide) (by decide), m 247 (by decide)]; exact r5
  · rw [a2 7 (by decide), hσ2, su_at, if_neg (by decide), hσ1, su_at, if_pos rfl]; rfl
  · rw [a2 12 (by decide), g 12 (by decide) (by decide)]; exact r7
  · rw [a2 9 (by decide), g 9 (by decide) (by decide)]; exact r8
  · rw [a1 249 (by decide) (by decide), m 249 (by decide)]; exact r9
  · rw [a2 0 (by decide), hσ2, su_at, if_pos rfl]
  · rw [a2 28 (by decide), g 28 (by decide) (by decide)]
/-- refused -/
theorem s_X9_isDone1 {σ : St} {s : AS} {c t : Nat} {Q : Int32 → St → Prop} (hR : RR σ s) (hc : 0 < c) (hc2 : c < 100)
    (hQ : ∀ τ, Rf σ τ → RR τ (whyS s (nI c)) → τ 244 0 = nI t → Q (nI 0) τ) : wp_X9_isDone σ (nI c) (nI t) Q := by
  obtain ⟨r1, r2, r3, r4, r5, r6, r7, r8, r9⟩ := hR
  unfold wp_X9_isDone
  intro σ1 hσ1
  rw [n_le0 (by omega)]
  refine ⟨fun q => absurd q (by omega), fun _ => ?_⟩
  unfold wp_X9_isDone_15
  intro σ2 hσ2
  have m : ∀ b, b ≠ 244 → σ2 b = σ b := fun b hb => by rw [hσ2, su_ne hb, hσ1, su_ne hb]
  have g : ∀ j, j ≠ 0 → j ≠ 7 → σ2 244 j = σ 244 j := fun j j1 j2 => by rw [hσ2, su_at, if_neg j1, hσ1, su_at, if_neg j2]
  rw [n_eq0 (by omega)]
  refine ⟨fun _ => ?_, fun q => absurd q (by omega)⟩
  unfold wp_X9_isDone_26
  rw [n_eq0 (by omega)]
  refine ⟨fun _ => ?_, fun q => absurd q (by omega)⟩
  refine hQ σ2 (fun b hb => m b (by omega)) ⟨?_, ?_, ?_, ?_, ?_, ?_, ?_, ?_, ?_⟩ ?_
  · rw [m 245 (by decide)]; exact r1
  · rw [g 5 (by decide) (by decide)]; exact r2
  · rw [m 248 (by decide)]; exact r3
  · rw [g 6 (by decide) (by decide)]; exact r4
  · rw [m 247 (by decide)]; exact r5
  · rw [hσ2, su_at, if_neg (by decide), hσ1, su_at, if_pos rfl]; rfl
  · rw [g 12 (by decide) (by decide)]; exact r7
  · rw [g 9 (by decide) (by decide)]; exact r8
  · rw [m 249 (by decide)]; exact r9
  · rw [hσ2, su_at, if_pos rfl]
/-- the reference's state over what its acts may scribble on -/
theorem RR.mf {σ τ : St} {s : AS} {f1 : Nat → Int32} (h : RR σ s) (hM : Mf σ τ) (h245 : τ 245 = f1) : RR τ (rowS s f1) := by
  obtain ⟨r1, r2, r3, r4, r5, r6, r7, r8, r9⟩ := h
  refine ⟨h245, ?_, ?_, ?_, ?_, ?_, ?_, ?_, ?_⟩
  · rw [hM.2 5 (by decide)]; exact r2
  · rw [hM.1 248 (by omega)]; exact r3
  · rw [hM.2 6 (by decide)]; exact r4
  · rw [hM.1 247 (by omega)]; exact r5
  · rw [hM.2 7 (by decide)]; exact r6
  · rw [hM.2 12 (by decide)]; exact r7
  · rw [hM.2 9 (by decide)]; exact r8
  · rw [hM.1 249 (by omega)]; exact r9
theorem RR.same {σ τ : St} {s : AS} (h : RR σ s) (hM : Mf σ τ) (h245 : τ 245 = sF s) : RR τ s := h.mf hM h245
/-- thrown changes -/
theorem RR.thr {σ τ : St} {s : AS} {v : Int32} (h : RR σ s) (e : τ = su σ 244 0 v) : RR τ s := by
  obtain ⟨r1, r2, r3, r4, r5, r6, r7, r8, r9⟩ := h
  have m : ∀ b, b ≠ 244 → τ b = σ b := fun b hb => by rw [e, su_ne hb]
  have g : ∀ j, j ≠ 0 → τ 244 j = σ 244 j := fun j j1 => by rw [e, su_at, if_neg j1]
  refine ⟨?_, ?_, ?_, ?_, ?_, ?_, ?_, ?_, ?_⟩
  · rw [m 245 (by decide)]; exact r1
  · rw [g 5 (by decide)]; exact r2
  · rw [m 248 (by decide)]; exact r3
  · rw [g 6 (by decide)]; exact r4
  · rw [m 247 (by decide)]; exact r5
  · rw [g 7 (by decide)]; exact r6
  · rw [g 12 (by decide)]; exact r7
  · rw [g 9 (by decide)]; exact r8
  · rw [m 249 (by decide)]; exact r9
theorem RR.aside {σ τ : St} {s : AS} (h : RR σ s) (e : ∀ b, b ≠ 246 → τ b = σ b) : RR τ s := by
  unfold RR
  rw [e 245 (by decide), e 244 (by decide), e 248 (by decide), e 247 (by decide), e 249 (by decide)]
  exact h
