/-! what is remembered: the class -/
theorem CRx.nA {σ : St} {s : AS} {A B F : Nat} (h : CRx σ s A B F) : (A = 202 ∧ B = 223) ∨ (A = 223 ∧ B = 202) := h.1
theorem nowlay {σ : St} {s : AS} {A B F : Nat} (h : CRx σ s A B F) : (σ 0 8).toNatClampNeg = A ∧ lay A = (1, 0) := by
  have := h.nA
  rw [h.2.2.1, n_cl (by omega)]
  refine ⟨rfl, ?_⟩
  rcases this with ⟨e, -⟩ | ⟨e, -⟩
  · rw [e]; exact ly_202
  · rw [e]; exact ly_223
/-- the state with the row remembered, the act not yet done -/
def pushS (s : AS) : AS := (sF s, pU (sU s), pR (sU s) (sR s) (sF s), sB s, sI s, sW s, sX s, sT s, sP s)
theorem s_X2_keep {σ : St} {s : AS} {A B F : Nat} {Q : St → Prop} (h : CRx σ s A B F) (hs : Sok s) (hQ : ∀ τ F', Cf σ τ → τ 4 = σ 4 → τ 5 = σ 5 → CRx τ (pushS s) A B F' → Q τ) : wp_X2_keep σ A Q := by
  obtain ⟨h1, h2, h3, h4, h5, h6, h7, h8, h9, h10, h11, h12, h13, h14⟩ := h
  have hAB : (A = 202 ∧ B = 223) ∨ (A = 223 ∧ B = 202) := h1
  have hU := hs.2.1
  unfold wp_X2_keep
  rw [h6, h7, n_add, n_rem (by omega) (by decide) (by decide), n_cl (by omega)]
  refine ⟨n_in (by omega) (by decide), s_X1_copyFrom h5 hs.1 (by omega) (fun τ hN hR => ?_)⟩
  have t6 : τ 6 = σ 6 := hN 6 (by omega)
  rw [t6, h6, h7, n_le (by decide) (by omega), n_add, n_add, n_rem (by omega) (by decide) (by decide)]
  have keepR : ∀ i, i < sU s → (F + i) % 8 ≠ (F + sU s) % 8 → NetRep τ (8 + 21 * ((F + i) % 8)) (sR s i) := fun i hi hne => (h8 i hi).congr (hs.2.2.1 i hi).R3 (fun b b1 b2 => hN b (by omega))
  have hA : NetRep τ A (sF s) := h5.congr hs.1.R3 (fun b b1 b2 => hN b (by omega))
  have hI : sB s = 1 → NetRep τ 181 (sI s) := fun q => (h10 q).congr (hs.2.2.2.2.1 q).R3 (fun b b1 b2 => hN b (by omega))
  have t0 : τ 0 = σ 0 := hN 0 (by omega)
  have t1 : τ 1 = σ 1 := hN 1 (by omega)
  have t2 : τ 2 = σ 2 := hN 2 (by omega)
  refine ⟨fun c => ?_, fun c => ?_⟩
  · intro τ' hτ'
    have n6 : ∀ b, b ≠ 6 → τ' b = τ b := fun b hb => by rw [hτ', su_ne hb]
    have hU8 : sU s = 8 := by omega
    refine hQ τ' ((F + 1) % 8) (fun b hb => by rw [n6 b (by omega)]; exact hN b (by omega)) (by rw [n6 4 (by decide)]; exact hN 4 (by omega)) (by rw [n6 5 (by decide)]; exact hN 5 (by omega)) ⟨h1, by omega, ?_, ?_, ?_, ?_, ?_, fun i hi => ?_, ?_, fun q => ?_, ?_, ?_, ?_, fun i hi => ?_⟩
    · rw [n6 0 (by decide), t0]; exact h3
    · rw [n6 0 (by decide), t0]; exact h4
    · exact hA.congr hs.1.R3 (fun b b1 b2 => n6 b (by omega))
    · rw [hτ', su_at, if_pos rfl]
    · show _ = nI (pU (sU s))
      unfold pU
      rw [if_pos hU8, hτ', su_at, if_neg (by decide), t6, h7, hU8]
    · have hi' : i < pU (sU s) := hi
      unfold pU at hi'
      rw [if_pos hU8] at hi'
      show NetRep τ' _ (pR (sU s) (sR s) (sF s) i)
      unfold pR
      rw [if_pos hU8]
      by_cases e : i = 7
      · rw [if_pos e, e, show ((F + 1) % 8 + 7) % 8 = (F + sU s) % 8 by omega]
        exact hR.congr hs.1.R3 (fun b b1 b2 => n6 b (by omega))
      · rw [if_neg e, show ((F + 1) % 8 + i) % 8 = (F + (i + 1)) % 8 by omega]
        exact (keepR (i + 1) (by omega) (by omega)).congr (hs.2.2.1 _ (by omega)).R3 (fun b b1 b2 => n6 b (by omega))
    · rw [n6 0 (by decide), t0]; exact h9
    · exact (hI q).congr (hs.2.2.2.2.1 q).R3 (fun b b1 b2 => n6 b (by omega))
    · rw [n6 0 (by decide), t0]; exact h11
    · rw [n6 0 (by decide), t0]; exact h12
    · rw [n6 1 (by decide), t1]; exact h13
    · rw [n6 2 (by decide), t2]; exact h14 i hi
  · intro τ' hτ'
    have n6 : ∀ b, b ≠ 6 → τ' b = τ b := fun b hb => by rw [hτ', su_ne hb]
    have hU8 : sU s ≠ 8 := by omega
    refine hQ τ' F (fun b hb => by rw [n6 b (by omega)]; exact hN b (by omega)) (by rw [n6 4 (by decide)]; exact hN 4 (by omega)) (by rw [n6 5 (by decide)]; exact hN 5 (by omega)) ⟨h1, h2, ?_, ?_, ?_, ?_, ?_, fun i hi => ?_, ?_, fun q => ?_, ?_, ?_, ?_, fun i hi => ?_⟩
    · rw [n6 0 (by decide), t0]; exact h3
    · rw [n6 0 (by decide), t0]; exact h4
    · exact hA.congr hs.1.R3 (fun b b1 b2 => n6 b (by omega))
    · rw [hτ', su_at, if_neg (by decide), t6]; exact h6
    · show _ = nI (pU (sU s))
      unfold pU
      rw [if_neg hU8, hτ', su_at, if_pos rfl]
    · have hi' : i < pU (sU s) := hi
      unfold pU at hi'
      rw [if_neg hU8] at hi'
      show NetRep τ' _ (pR (sU s) (sR s) (sF s) i)
      unfold pR
      rw [if_neg hU8]
      by_cases e : i = sU s
      · rw [if_pos e, e]
        exact hR.congr hs.1.R3 (fun b b1 b2 => n6 b (by omega))
      · rw [if_neg e]
        exact (keepR i (by omega) (by omega)).congr (hs.2.2.1 _ (by omega)).R3 (fun b b1 b2 => n6 b (by omega))
    · rw [n6 0 (by decide), t0]; exact h9
    · exact (hI q).congr (hs.2.2.2.2.1 q).R3 (fun b b1 b2 => n6 b (by omega))
    · rw [n6 0 (by decide), t0]; exact h11
    · rw [n6 0 (by decide), t0]; exact h12
    · rw [n6 1 (by decide), t1]; exact h13
    · rw [n6 2 (by decide), t2]; exact h14 i hi
/-- only why changes -/
theorem CRx.why {σ τ : St} {s : AS} {A B F : Nat} (h : CRx σ s A B F) (hs : Sok s) {v : Int32} (e : τ = su σ 0 11 v) : CRx τ (whyS s v) A B F := by
  obtain ⟨h1, h2, h3, h4, h5, h6, h7, h8, h9, h10, h11, h12, h13, h14⟩ := h
  have hAB : (A = 202 ∧ B = 223) ∨ (A = 223 ∧ B = 202) := h1
  have n0 : ∀ b, b ≠ 0 → τ b = σ b := fun b hb => by rw [e, su_ne hb]
  have g : ∀ j, j ≠ 11 → τ 0 j = σ 0 j := fun j hj => by rw [e, su_at, if_neg hj]
  refine ⟨h1, h2, ?_, ?_, ?_, ?_, ?_, fun i hi => ?_, ?_, fun q => ?_, ?_, ?_, ?_, fun i hi => ?_⟩
  · rw [g 8 (by decide)]; exact h3
  · rw [g 9 (by decide)]; exact h4
  · exact h5.congr hs.1.R3 (fun b b1 b2 => n0 b (by omega))
  · rw [n0 6 (by decide)]; exact h6
  · rw [n0 6 (by decide)]; exact h7
  · exact (h8 i hi).congr (hs.2.2.1 i hi).R3 (fun b b1 b2 => n0 b (by omega))
  · rw [g 7 (by decide)]; exact h9
  · exact (h10 q).congr (hs.2.2.2.2.1 q).R3 (fun b b1 b2 => n0 b (by omega))
  · rw [e, su_at, if_pos rfl]; rfl
  · rw [g 10 (by decide)]; exact h12
  · rw [n0 1 (by decide)]; exact h13
  · rw [n0 2 (by decide)]; exact h14 i hi
/-- the row changes alone -/
def rowS (s : AS) (f1 : Nat → Int32) : AS := (f1, sU s, sR s, sB s, sI s, sW s, sX s, sT s, sP s)
theorem CRx.row {σ τ : St} {s : AS} {A B F : Nat} (h : CRx σ s A B F) (hs : Sok s) {f1 : Nat → Int32} (hN : Nf A σ τ) (hR : NetRep τ A f1) : CRx τ (rowS s f1) A B F := by
  obtain ⟨h1, h2, h3, h4, h5, h6, h7, h8, h9, h10, h11, h12, h13, h14⟩ := h
  have hAB : (A = 202 ∧ B = 223) ∨ (A = 223 ∧ B = 202) := h1
  refine ⟨h1, h2, ?_, ?_, hR, ?_, ?_, fun i hi => ?_, ?_, fun q => ?_, ?_, ?_, ?_, fun i hi => ?_⟩
  · rw [hN 0 (by omega)]; exact h3
  · rw [hN 0 (by omega)]; exact h4
  · rw [hN 6 (by omega)]; exact h6
  · rw [hN 6 (by omega)]; exact h7
  · exact (h8 i hi).congr (hs.2.2.1 i hi).R3 (fun b b1 b2 => hN b (by omega))
  · rw [hN 0 (by omega)]; exact h9
  · exact (h10 q).congr (hs.2.2.2.2.1 q).R3 (fun b b1 b2 => hN b (by omega))
  · rw [hN 0 (by omega)]; exact h11
  · rw [hN 0 (by omega)]; exact h12
  · rw [hN 1 (by omega)]; exact h13
  · rw [hN 2 (by omega)]; exact h14 i hi
theorem s_X0_tell {σ : St} {x0 x1 x2 x3 x4 : Int32} {Q : St → Prop} (hQ : ∀ τ, (∀ b, b ≠ 4 → b ≠ 5 → τ b = σ b) → τ 4 1 = x0 → τ 5 0 = x1 → τ 5 1 = x2 → τ 5 2 = x3 → τ 5 3 = x4 → Q τ) : wp_X0_tell σ x0 x1 x2 x3 x4 Q := by
  unfold wp_X0_tell
  intro σ1 h1 σ2 h2 σ3 h3 σ4 h4 σ5 h5
  refine hQ σ5 (fun b b1 b2 => ?_) ?_ ?_ ?_ ?_ ?_
  · rw [h5, su_ne b2, h4, su_ne b2, h3, su_ne b2, h2, su_ne b2, h1, su_ne b1]
  · rw [h5, su_ne (by decide), h4, su_ne (by decide), h3, su_ne (by decide), h2, su_ne (by decide), h1, su_at, if_pos rfl]
  · rw [h5, su_at, if_neg (by decide), h4, su_at, if_neg (by decide), h3, su_at, if_neg (by decide), h2, su_at, if_pos rfl]
  · rw [h5, su_at, if_neg (by decide), h4, su_at, if_neg (by decide), h3, su_at, if_pos rfl]
  · rw [h5, su_at, if_neg (by decide), h4, su_at, if_pos rfl]
  · rw [h5, su_at, if_pos rfl]
/-- an act by a call, in the class -/
theorem s_act {σ : St} {s : AS} {k a b c d : Nat} {QX : String → St → Prop} {Q : Int32 → St → Prop} (h : CR σ s) (hs : Sok s) (hk : k ≤ 10) (ha : aarg k a b c d)
    (hX : acode (sF s) k a b c d ≠ 0 → ∀ τ, Cf σ τ → CR τ (actS s k a b c d) → QX "java/lang/IllegalStateException" τ)
    (hQ : acode (sF s) k a b c d = 0 → ∀ τ, Cf σ τ → CR τ (actS s k a b c d) → Q (nI (aans (sF s) k a b c d)) τ) :
    wp_X0_tell σ (nI k) (nI a) (nI b) (nI c) (nI d) (fun σ_7 => (wp_X8_settle σ_7 QX (fun σ_8 => (lay (σ_8 0 8).toNatClampNeg = (1, 0) ∧ (wp_X1_perform σ_8 ((σ_8 0 8).toNatClampNeg) (fun r_10 σ_11 => (Q r_10 σ_11))))))) := by
  obtain ⟨A, B, F, h⟩ := h
  refine s_X0_tell (fun τ hne t0 t1 t2 t3 t4 => ?_)
  have hc : CRx τ s A B F := h.congr hs (fun b hb => hne b hb.2.2.1 hb.2.2.2.1)
  have hCf : Cf σ τ := fun b hb => hne b (by omega) (by omega)
  have hact : ActIs τ k a b c d := ⟨t0, t1, t2, t3, t4⟩
  obtain ⟨l1, l2⟩ := nowlay hc
  have hcl := acode_le (sF s) hk a b c d
  have hAB := hc.nA
  unfold wp_X8_settle
  rw [l1]
  refine ⟨l2, s_X1_refusalOf hc.2.2.2.2.1 hs.1 hact hk ha ?_⟩
  intro τ1 hτ1
  have hc1 := hc.why hs hτ1
  have e11 : τ1 0 11 = nI (acode (sF s) k a b c d) := by rw [hτ1, su_at, if_pos rfl]
  have n0 : ∀ b, b ≠ 0 → τ1 b = τ b := fun b hb => by rw [hτ1, su_ne hb]
  have hCf1 : Cf σ τ1 := hCf.tr (fun b hb => n0 b (by omega))
  rw [e11, n_eq0 (by omega)]
  refine ⟨fun c0 => ?_, fun c0 => ?_⟩
  · obtain ⟨m1, m2⟩ := nowlay hc1
    rw [m1]
    refine ⟨m2, s_X2_keep hc1 (hs.why _) (fun τ2 F2 hCf2 h4 h5 hc2 => ?_)⟩
    obtain ⟨p1, p2⟩ := nowlay hc2
    rw [p1]
    have hs2 : Sok (pushS (whyS s (nI (acode (sF s) k a b c d)))) := hs.done hs.1
    refine ⟨p2, s_X1_perform (f := sF s) hc2.2.2.2.2.1 hs.1 (k := k) (a := a) (b := b) (c := c) (d := d) ?_ (by omega) hk ha c0 (fun τ3 hN hR => ?_)⟩
    · unfold ActIs
      rw [h4, h5, n0 4 (by decide), n0 5 (by decide)]
      exact hact
    · refine hQ c0 τ3 (hCf1.tr (hCf2.tr (hN.cf (by omega)))) ⟨A, B, F2, ?_⟩
      have hc3 := hc2.row hs2 hN hR
      unfold actS
      rw [if_pos c0]
      rw [c0] at hc3
      exact hc3
  · refine hX c0 τ1 hCf1 ⟨A, B, F, ?_⟩
    unfold actS
    rw [if_neg c0]
    exact hc1
