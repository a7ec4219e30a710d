/-! TAKEN BACK, THE IMAGE -/
def mix (g f : Nat → Int32) : Nat → Int32 := fun j => if j < 6682 then g j else f j
theorem mix_eq (g f : Nat → Int32) : Eq6 (mix g f) g := fun j hj => if_pos hj
def rUndo (s : AS) : RS := if sU s = 0 then (1, 0, s) else (0, nI (sU s - 1), (mix (sR s (sU s - 1)) (sF s), sU s - 1, sR s, sB s, sI s, sW s, sX s, sT s, sP s))
def imgS (s : AS) : AS := (sF s, sU s, sR s, 1, sF s, sW s, sX s, sT s, sP s)
def rBack (s : AS) : RS := if sB s = 0 then (0, nI 0, s) else (0, nI 1, (mix (sI s) (sF s), 0, sR s, sB s, sI s, sW s, sX s, sT s, sP s))
theorem Sok.undo {s : AS} (h : Sok s) : Sok (rUndo s).2.2 := by
  unfold rUndo
  by_cases c : sU s = 0
  · rw [if_pos c]; exact h
  · rw [if_neg c]
    have hU := h.2.1
    exact ⟨(h.2.2.1 _ (by omega)).eq6 (mix_eq _ _), by show sU s - 1 ≤ 8; omega, fun i hi => h.2.2.1 i (by have : i < sU s - 1 := hi; omega), h.2.2.2.1, h.2.2.2.2.1, h.2.2.2.2.2.1, h.2.2.2.2.2.2⟩
theorem Sok.image {s : AS} (h : Sok s) : Sok (imgS s) := ⟨h.1, h.2.1, h.2.2.1, Nat.le_refl 1, fun _ => h.1, h.2.2.2.2.2.1, h.2.2.2.2.2.2⟩
theorem Sok.back {s : AS} (h : Sok s) : Sok (rBack s).2.2 := by
  unfold rBack
  by_cases c : sB s = 0
  · rw [if_pos c]; exact h
  · rw [if_neg c]
    have hB := h.2.2.2.1
    exact ⟨(h.2.2.2.2.1 (by omega)).eq6 (mix_eq _ _), Nat.zero_le _, fun i hi => absurd hi (Nat.not_lt_zero i), h.2.2.2.1, h.2.2.2.2.1, h.2.2.2.2.2.1, h.2.2.2.2.2.2⟩
theorem s_X8_undo {σ : St} {s : AS} {QX : String → St → Prop} {Q : Int32 → St → Prop} (h : CR σ s) (hs : Sok s) (hP : PC σ (rUndo s) (ex3 sISE sISE sISE) QX Q) : wp_X8_undo σ QX Q := by
  have hC := h
  obtain ⟨A, B, F, h⟩ := h
  obtain ⟨l1, l2⟩ := nowlay h
  obtain ⟨g1, g2, g3, g4, g5, g6, g7, g8, g9, g10, g11, g12, g13, g14⟩ := h
  have hAB : (A = 202 ∧ B = 223) ∨ (A = 223 ∧ B = 202) := g1
  have hU := hs.2.1
  unfold rUndo at hP
  unfold wp_X8_undo
  rw [g7, n_eq0 (by omega), l1]
  refine ⟨fun c => ⟨l2, ?_⟩, fun c => ?_⟩
  · rw [if_neg c] at hP
    unfold wp_X2_takeBack
    rw [g7, n_le0 (by omega), n_sub (by omega)]
    refine ⟨fun t => absurd t c, fun _ σ1 h1 => ?_⟩
    have m : ∀ b, b ≠ 6 → σ1 b = σ b := fun b hb => by rw [h1, su_ne hb]
    have a1 : σ1 6 1 = nI F := by rw [h1, su_at, if_neg (by decide)]; exact g6
    have a2 : σ1 6 2 = nI (sU s - 1) := by rw [h1, su_at, if_pos rfl]
    rw [a1, a2, n_add, n_rem (by omega) (by decide) (by decide), n_cl (by omega)]
    have hsrc : NetRep σ1 (8 + 21 * ((F + (sU s - 1)) % 8)) (sR s (sU s - 1)) := (g8 _ (by omega)).congr (hs.2.2.1 _ (by omega)).R3 (fun b b1 b2 => m b (by omega))
    refine ⟨n_in (by omega) (by decide), s_X1_copyFrom hsrc (hs.2.2.1 _ (by omega)) (by omega) (fun τ hN hR => ?_)⟩
    have t6 : τ 6 = σ1 6 := hN 6 (by omega)
    show Q (τ 6 2) τ
    rw [t6, a2]
    refine hP.1 rfl τ (fun b hb => by rw [hN b (by omega)]; exact m b (by omega)) ⟨A, B, F, g1, g2, ?_, ?_, hR.eq6 (hs.2.2.1 _ (by omega)).R3 (mix_eq _ _), by rw [t6]; exact a1, by rw [t6]; exact a2, fun i hi => ?_, ?_, fun q => ?_, ?_, ?_, ?_, fun i hi => ?_⟩
    · rw [hN 0 (by omega), m 0 (by decide)]; exact g3
    · rw [hN 0 (by omega), m 0 (by decide)]; exact g4
    · have hi' : i < sU s - 1 := hi
      exact (g8 i (by omega)).congr (hs.2.2.1 i (by omega)).R3 (fun b b1 b2 => by rw [hN b (by omega)]; exact m b (by omega))
    · rw [hN 0 (by omega), m 0 (by decide)]; exact g9
    · exact (g10 q).congr (hs.2.2.2.2.1 q).R3 (fun b b1 b2 => by rw [hN b (by omega)]; exact m b (by omega))
    · rw [hN 0 (by omega), m 0 (by decide)]; exact g11
    · rw [hN 0 (by omega), m 0 (by decide)]; exact g12
    · rw [hN 1 (by omega), m 1 (by decide)]; exact g13
    · rw [hN 2 (by omega), m 2 (by decide)]; exact g14 i hi
  · rw [if_pos c] at hP
    exact hP.no (by decide) hC rfl
theorem s_X9_undo {σ : St} {s : AS} {Q : Int32 → St → Prop} (h : RR σ s) (hs : Sok s) (hP : PR σ (rUndo s) Q) : wp_X9_undo σ Q := by
  obtain ⟨r1, r2, r3, r4, r5, r6, r7, r8, r9⟩ := h
  have hR : RR σ s := ⟨r1, r2, r3, r4, r5, r6, r7, r8, r9⟩
  have hU := hs.2.1
  unfold rUndo at hP
  unfold wp_X9_undo
  rw [r2, n_eq0 (by omega)]
  refine ⟨fun c => ?_, fun c => ?_⟩
  · rw [if_neg c] at hP
    unfold wp_X9_undo_13
    intro σ1 h1
    rw [thr_at h1]
    refine ⟨fun _ σ2 h2 => ?_, fun t => absurd (by decide) t⟩
    have a5 : σ1 244 5 = nI (sU s) := by rw [h1, su_at, if_neg (by decide)]; exact r2
    rw [a5, n_sub (by omega)] at h2
    have m : ∀ b, b ≠ 244 → σ2 b = σ b := fun b hb => by rw [h2, su_ne hb, h1, su_ne hb]
    have g : ∀ j, j ≠ 0 → j ≠ 5 → σ2 244 j = σ 244 j := fun j j1 j2 => by rw [h2, su_at, if_neg j2, h1, su_at, if_neg j1]
    have g5 : σ2 244 5 = nI (sU s - 1) := by rw [h2, su_at, if_pos rfl]
    have g0 : σ2 244 0 = nI 0 := by rw [h2, su_at, if_neg (by decide)]; exact thr_at h1
    refine LP2_nat 6682 (fun i τ z => z = nI i ∧ (∀ b, b ≠ 245 → τ b = σ2 b) ∧ ∀ j, τ 245 j = if j < i then sR s (sU s - 1) j else sF s j) ?_ 0 _ _ (Nat.zero_le _) ⟨rfl, fun _ _ => rfl, fun j => by rw [if_neg (by omega), m 245 (by decide), r1]⟩
    rintro ih i τ _ hi ⟨rfl, hne, hrow⟩ hih
    unfold wp_X9_undo_37
    rw [hne 244 (by decide), g5]
    simp (disch := omega) only [forall_eq, forall_eq', n_inT, n_cl, n_lt, n_le, n_eq, n_eq0, n_lt0, n_ge0, n_gt0, n_le0, n_em, n_me, n_add, n_mul, n_00, n_s01, n_1z, n_0z, Nat.one_ne_zero, eq_self, ne_eq, true_and, and_true, true_implies, false_implies, implies_true, not_true_eq_false, not_false_eq_true, false_and, and_false, or_false, false_or, or_true, true_or]
    refine ⟨fun q => ?_, fun q => ⟨n_in (by omega) (by decide), n_in (by omega) (by decide), ?_⟩⟩
    · refine hP τ _ (fun b hb => by rw [hne b (by omega), m b (by omega)]) ⟨?_, ?_, ?_, ?_, ?_, ?_, ?_, ?_, ?_⟩ ?_ (fun _ => rfl)
      · funext j
        rw [hrow j, show i = 6682 by omega]
        rfl
      · rw [hne 244 (by decide)]; exact g5
      · intro i' hi' j hj
        have hi2 : i' < sU s - 1 := hi'
        rw [hne 248 (by decide), m 248 (by decide)]; exact r3 i' (by omega) j hj
      · rw [hne 244 (by decide), g 6 (by decide) (by decide)]; exact r4
      · rw [hne 247 (by decide), m 247 (by decide)]; exact r5
      · rw [hne 244 (by decide), g 7 (by decide) (by decide)]; exact r6
      · rw [hne 244 (by decide), g 12 (by decide) (by decide)]; exact r7
      · rw [hne 244 (by decide), g 9 (by decide) (by decide)]; exact r8
      · rw [hne 249 (by decide), m 249 (by decide)]; exact r9
      · rw [hne 244 (by decide)]; exact g0
    · refine hih _ _ (by omega) ⟨rfl, fun b hb => by rw [su_ne hb]; exact hne b hb, fun j => ?_⟩
      rw [su_at]
      by_cases e : j = i
      · rw [if_pos e, if_pos (by omega), hne 248 (by decide), m 248 (by decide), r3 (sU s - 1) (by omega) i (by omega), e]
      · rw [if_neg e, hrow j]
        by_cases e2 : j < i
        · rw [if_pos e2, if_pos (by omega)]
        · rw [if_neg e2, if_neg (by omega)]
  · rw [if_pos c] at hP
    unfold wp_X9_undo_13
    intro σ1 h1
    rw [thr_at h1]
    exact ⟨fun t => absurd t (by decide), fun _ => s_thr hR (by decide) hP σ1 h1⟩
theorem s_X8_image {σ : St} {s : AS} {Q : St → Prop} (h : CR σ s) (hs : Sok s) (hQ : ∀ τ, Cf σ τ → CR τ (imgS s) → Q τ) : wp_X8_image σ Q := by
  obtain ⟨A, B, F, h⟩ := h
  obtain ⟨l1, l2⟩ := nowlay h
  obtain ⟨g1, g2, g3, g4, g5, g6, g7, g8, g9, g10, g11, g12, g13, g14⟩ := h
  have hAB : (A = 202 ∧ B = 223) ∨ (A = 223 ∧ B = 202) := g1
  unfold wp_X8_image
  rw [l1]
  refine ⟨l2, s_X1_copyFrom g5 hs.1 (by omega) (fun τ hN hR τ' hτ => ?_)⟩
  have n0 : ∀ b, b ≠ 0 → τ' b = τ b := fun b hb => by rw [hτ, su_ne hb]
  have k0 : ∀ j, j ≠ 7 → τ' 0 j = σ 0 j := fun j hj => by rw [hτ, su_at, if_neg hj, hN 0 (by omega)]
  refine hQ τ' (fun b hb => by rw [n0 b (by omega)]; exact hN b (by omega)) ⟨A, B, F, g1, g2, ?_, ?_, ?_, ?_, ?_, fun i hi => ?_, ?_, fun q => ?_, ?_, ?_, ?_, fun i hi => ?_⟩
  · rw [k0 8 (by decide)]; exact g3
  · rw [k0 9 (by decide)]; exact g4
  · exact g5.congr hs.1.R3 (fun b b1 b2 => by rw [n0 b (by omega)]; exact hN b (by omega))
  · rw [n0 6 (by decide), hN 6 (by omega)]; exact g6
  · rw [n0 6 (by decide), hN 6 (by omega)]; exact g7
  · exact (g8 i hi).congr (hs.2.2.1 i hi).R3 (fun b b1 b2 => by rw [n0 b (by omega)]; exact hN b (by omega))
  · rw [hτ, su_at, if_pos rfl]; rfl
  · exact hR.congr hs.1.R3 (fun b b1 b2 => n0 b (by omega))
  · rw [k0 11 (by decide)]; exact g11
  · rw [k0 10 (by decide)]; exact g12
  · rw [n0 1 (by decide), hN 1 (by omega)]; exact g13
  · rw [n0 2 (by decide), hN 2 (by omega)]; exact g14 i hi
theorem s_X9_image {σ : St} {s : AS} {Q : St → Prop} (h : RR σ s) (hQ : ∀ τ, Rf σ τ → RR τ (imgS s) → Q τ) : wp_X9_image σ Q := by
  obtain ⟨r1, r2, r3, r4, r5, r6, r7, r8, r9⟩ := h
  unfold wp_X9_image
  intro σ1 h1
  have m : ∀ b, b ≠ 244 → σ1 b = σ b := fun b hb => by rw [h1, su_ne hb]
  have g : ∀ j, j ≠ 0 → σ1 244 j = σ 244 j := fun j hj => by rw [h1, su_at, if_neg hj]
  refine LP2_nat 6682 (fun i τ z => z = nI i ∧ (∀ b, b ≠ 247 → τ b = σ1 b) ∧ ∀ j, j < i → τ 247 j = sF s j) ?_ 0 _ _ (Nat.zero_le _) ⟨rfl, fun _ _ => rfl, fun j hj => absurd hj (by omega)⟩
  rintro ih i τ _ hi ⟨rfl, hne, hrow⟩ hih
  unfold wp_X9_image_7
  simp (disch := omega) only [forall_eq, forall_eq', n_inT, n_cl, n_lt, n_le, n_eq, n_eq0, n_lt0, n_ge0, n_gt0, n_le0, n_em, n_me, n_add, n_mul, n_00, n_s01, n_1z, n_0z, Nat.one_ne_zero, eq_self, ne_eq, true_and, and_true, true_implies, false_implies, implies_true, not_true_eq_false, not_false_eq_true, false_and, and_false, or_false, false_or, or_true, true_or]
  refine ⟨fun q => ?_, fun q => ⟨n_in (by omega) (by decide), n_in (by omega) (by decide), ?_⟩⟩
  · have n0 : ∀ b, b ≠ 244 → su τ 244 6 (nI 1) b = τ b := fun b hb => su_ne hb
    have k0 : ∀ j, j ≠ 0 → j ≠ 6 → su τ 244 6 (nI 1) 244 j = σ 244 j := fun j j1 j2 => by rw [su_at, if_neg j2, hne 244 (by decide), g j j1]
    refine hQ _ (fun b hb => by rw [n0 b (by omega), hne b (by omega), m b (by omega)]) ⟨?_, ?_, ?_, ?_, fun _ j hj => ?_, ?_, ?_, ?_, ?_⟩
    · rw [n0 245 (by decide), hne 245 (by decide), m 245 (by decide)]; exact r1
    · rw [k0 5 (by decide) (by decide)]; exact r2
    · rw [n0 248 (by decide), hne 248 (by decide), m 248 (by decide)]; exact r3
    · rw [su_at, if_pos rfl]; rfl
    · rw [n0 247 (by decide)]; exact hrow j (by omega)
    · rw [k0 7 (by decide) (by decide)]; exact r6
    · rw [k0 12 (by decide) (by decide)]; exact r7
    · rw [k0 9 (by decide) (by decide)]; exact r8
    · rw [n0 249 (by decide), hne 249 (by decide), m 249 (by decide)]; exact r9
  · refine hih _ _ (by omega) ⟨rfl, fun b hb => by rw [su_ne hb]; exact hne b hb, fun j hj => ?_⟩
    rw [su_at]
    by_cases e : j = i
    · rw [if_pos e, e, hne 245 (by decide), m 245 (by decide), r1]
    · rw [if_neg e]; exact hrow j (by omega)
theorem s_X8_back {σ : St} {s : AS} {Q : Int32 → St → Prop} (h : CR σ s) (hs : Sok s) (hQ : ∀ τ, Cf σ τ → CR τ (rBack s).2.2 → Q (rBack s).2.1 τ) : wp_X8_back σ Q := by
  have hC := h
  obtain ⟨A, B, F, h⟩ := h
  obtain ⟨l1, l2⟩ := nowlay h
  obtain ⟨g1, g2, g3, g4, g5, g6, g7, g8, g9, g10, g11, g12, g13, g14⟩ := h
  have hAB : (A = 202 ∧ B = 223) ∨ (A = 223 ∧ B = 202) := g1
  have hB := hs.2.2.2.1
  unfold rBack at hQ
  unfold wp_X8_back
  rw [g9, n_eq0 (by omega), l1]
  refine ⟨fun c => ⟨l2, ?_⟩, fun c => ?_⟩
  · rw [if_neg c] at hQ
    have hG := hs.2.2.2.2.1 (by omega)
    refine s_X1_copyFrom (g10 (by omega)) hG (by omega) (fun τ hN hR => ?_)
    unfold wp_X2_forget
    intro τ' hτ
    have n6 : ∀ b, b ≠ 6 → τ' b = τ b := fun b hb => by rw [hτ, su_ne hb]
    refine hQ τ' (fun b hb => by rw [n6 b (by omega)]; exact hN b (by omega)) ⟨A, B, F, g1, g2, ?_, ?_, ?_, ?_, ?_, fun i hi => absurd hi (Nat.not_lt_zero i), ?_, fun q => ?_, ?_, ?_, ?_, fun i hi => ?_⟩
    · rw [n6 0 (by decide), hN 0 (by omega)]; exact g3
    · rw [n6 0 (by decide), hN 0 (by omega)]; exact g4
    · exact (hR.congr hG.R3 (fun b b1 b2 => n6 b (by omega))).eq6 hG.R3 (mix_eq _ _)
    · rw [hτ, su_at, if_neg (by decide), hN 6 (by omega)]; exact g6
    · rw [hτ, su_at, if_pos rfl]
    · rw [n6 0 (by decide), hN 0 (by omega)]; exact g9
    · exact (g10 q).congr hG.R3 (fun b b1 b2 => by rw [n6 b (by omega)]; exact hN b (by omega))
    · rw [n6 0 (by decide), hN 0 (by omega)]; exact g11
    · rw [n6 0 (by decide), hN 0 (by omega)]; exact g12
    · rw [n6 1 (by decide), hN 1 (by omega)]; exact g13
    · rw [n6 2 (by decide), hN 2 (by omega)]; exact g14 i hi
  · rw [if_pos c] at hQ
    exact hQ σ (Cf.rf σ) hC
theorem s_X9_back {σ : St} {s : AS} {Q : Int32 → St → Prop} (h : RR σ s) (hs : Sok s) (hQ : ∀ τ, Rf σ τ → RR τ (rBack s).2.2 → Q (rBack s).2.1 τ) : wp_X9_back σ Q := by
  obtain ⟨r1, r2, r3, r4, r5, r6, r7, r8, r9⟩ := h
  have hR : RR σ s := ⟨r1, r2, r3, r4, r5, r6, r7, r8, r9⟩
  have hB := hs.2.2.2.1
  unfold rBack at hQ
  unfold wp_X9_back
  intro σ1 h1
  have m : ∀ b, b ≠ 244 → σ1 b = σ b := fun b hb => by rw [h1, su_ne hb]
  have g : ∀ j, j ≠ 0 → σ1 244 j = σ 244 j := fun j hj => by rw [h1, su_at, if_neg hj]
  rw [g 6 (by decide), r4, n_eq0 (by omega)]
  refine ⟨fun c => ?_, fun c => ?_⟩
  · rw [if_neg c] at hQ
    refine LP2_nat 6682 (fun i τ z => z = nI i ∧ (∀ b, b ≠ 245 → τ b = σ1 b) ∧ ∀ j, τ 245 j = if j < i then sI s j else sF s j) ?_ 0 _ _ (Nat.zero_le _) ⟨rfl, fun _ _ => rfl, fun j => by rw [if_neg (by omega), m 245 (by decide), r1]⟩
    rintro ih i τ _ hi ⟨rfl, hne, hrow⟩ hih
    unfold wp_X9_back_16
    simp (disch := omega) only [forall_eq, forall_eq', n_inT, n_cl, n_lt, n_le, n_eq, n_eq0, n_lt0, n_ge0, n_gt0, n_le0, n_em, n_me, n_add, n_mul, n_00, n_s01, n_1z, n_0z, Nat.one_ne_zero, eq_self, ne_eq, true_and, and_true, true_implies, false_implies, implies_true, not_true_eq_false, not_false_eq_true, false_and, and_false, or_false, false_or, or_true, true_or]
    refine ⟨fun q => ?_, fun q => ⟨n_in (by omega) (by decide), n_in (by omega) (by decide), ?_⟩⟩
    · have n0 : ∀ b, b ≠ 244 → su τ 244 5 (nI 0) b = τ b := fun b hb => su_ne hb
      have k0 : ∀ j, j ≠ 0 → j ≠ 5 → su τ 244 5 (nI 0) 244 j = σ 244 j := fun j j1 j2 => by rw [su_at, if_neg j2, hne 244 (by decide), g j j1]
      refine hQ _ (fun b hb => by rw [n0 b (by omega), hne b (by omega), m b (by omega)]) ⟨?_, ?_, fun i' hi' => absurd hi' (Nat.not_lt_zero i'), ?_, ?_, ?_, ?_, ?_, ?_⟩
      · funext j
        rw [n0 245 (by decide), hrow j, show i = 6682 by omega]
        rfl
      · rw [su_at, if_pos rfl]
      · rw [k0 6 (by decide) (by decide)]; exact r4
      · rw [n0 247 (by decide), hne 247 (by decide), m 247 (by decide)]; exact r5
      · rw [k0 7 (by decide) (by decide)]; exact r6
      · rw [k0 12 (by decide) (by decide)]; exact r7
      · rw [k0 9 (by decide) (by decide)]; exact r8
      · rw [n0 249 (by decide), hne 249 (by decide), m 249 (by decide)]; exact r9
    · refine hih _ _ (by omega) ⟨rfl, fun b hb => by rw [su_ne hb]; exact hne b hb, fun j => ?_⟩
      rw [su_at]
      by_cases e : j = i
      · rw [if_pos e, if_pos (by omega), hne 247 (by decide), m 247 (by decide), r5 (by omega) i (by omega), e]
      · rw [if_neg e, hrow j]
        by_cases e2 : j < i
        · rw [if_pos e2, if_pos (by omega)]
        · rw [if_neg e2, if_neg (by omega)]
  · rw [if_pos c] at hQ
    exact hQ σ1 (thr_rf h1) (hR.thr h1)
/-! fault, why -/
theorem s_X8_fault {σ : St} {s : AS} {Q : Int32 → Prop} (h : CR σ s) (hQ : Q (sX s)) : wp_X8_fault σ Q := by
  obtain ⟨A, B, F, h⟩ := h
  unfold wp_X8_fault
  rw [h.2.2.2.2.2.2.2.2.2.2.2.1]
  exact hQ
theorem s_X8_why {σ : St} {s : AS} {Q : Int32 → Prop} (h : CR σ s) (hQ : Q (sW s)) : wp_X8_why σ Q := by
  obtain ⟨A, B, F, h⟩ := h
  unfold wp_X8_why
  rw [h.2.2.2.2.2.2.2.2.2.2.1]
  exact hQ
theorem s_X9_fault {σ : St} {s : AS} {Q : Int32 → St → Prop} (h : RR σ s) (hQ : ∀ τ, Rf σ τ → RR τ s → Q (sX s) τ) : wp_X9_fault σ Q := by
  unfold wp_X9_fault
  intro σ1 h1
  have hR := h.thr h1
  rw [hR.2.2.2.2.2.2.1]
  exact hQ σ1 (thr_rf h1) hR
theorem s_X9_why {σ : St} {s : AS} {Q : Int32 → St → Prop} (h : RR σ s) (hQ : ∀ τ, Rf σ τ → RR τ s → Q (sW s) τ) : wp_X9_why σ Q := by
  unfold wp_X9_why
  intro σ1 h1
  have hR := h.thr h1
  rw [hR.2.2.2.2.2.1]
  exact hQ σ1 (thr_rf h1) hR
