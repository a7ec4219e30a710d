/-! THE REFERENCE'S HINGES -/
def Hg (o st : Nat → Nat) (ups n a b : Nat) : Prop := a ≠ n ∧ b ≠ n ∧ prs st a b = true ∧ pwS o ups a b = false ∧ pwS o (clr ups n) a b = true
theorem upd_back {f : Nat → Int32} {n : Nat} {u v : Int32} (h : f n = v) : upd (upd f n u) n v = f := by
  funext j
  show (if j = n then v else if j = n then u else f j) = f j
  by_cases c : j = n
  · rw [if_pos c, c, h]
  · rw [if_neg c, if_neg c]
theorem s_X9_isHinge {σ : St} {o st : Nat → Nat} {ups n : Nat} {Q : Int32 → St → Prop} (hf : Good (σ 245)) (hst : gst (σ 245) = st) (hups : ups = bits st 1) (hb : OB o) (hl : LR σ o) (hown : ∀ p, p < 10 → st p = 1 → own1 o p) (hn : n < 10) (hsn : st n = 1)
    (hQ : ∀ τ, Uf σ τ → Q (bI (isHb o st ups n)) τ) : wp_X9_isHinge σ (nI n) Q := by
  have hfn : σ 245 n = nI 1 := by rw [(hf.1.1 n hn).1, hst, hsn]
  have hrow : RowOK (upd (σ 245) n (nI 2)) := srow_ok hf hn (by decide) (fun _ => by rw [hst, hsn]; decide)
  have hbit : bits (gst (upd (σ 245) n (nI 2))) 1 = clr ups n := by
    rw [(srow_acc (f := σ 245) (v := 2) hn (by decide)).1, bits_set (by decide), hst, hups]
    rfl
  unfold wp_X9_isHinge
  refine LP2_nat 10 (fun i τ z => z = nI i ∧ Uf σ τ ∧ ∀ a b, a < i → b < 10 → ¬ Hg o st ups n a b) ?_ 0 _ _ (Nat.zero_le _) ⟨rfl, Uf.rf σ, fun a b h => absurd h (by omega)⟩
  rintro ih i τ _ hi ⟨rfl, hU, hno⟩ hih
  unfold wp_X9_isHinge_2
  rw [n_le (by decide) (by omega)]
  refine ⟨fun q => ?_, fun q => ?_⟩
  · have h0 : isHb o st ups n = false := by
      cases e : isHb o st ups n with
      | false => rfl
      | true =>
        obtain ⟨a, b, ha, hb2, h⟩ := isHb_iff.mp e
        exact absurd h (hno a b (by omega) hb2)
    have := hQ τ hU
    rw [h0] at this
    exact this
  have hil : i < 10 := by omega
  refine LP2_nat 10 (fun j τ z => z = nI j ∧ Uf σ τ ∧ ∀ b, b < j → ¬ Hg o st ups n i b) ?_ 0 _ _ (Nat.zero_le _) ⟨rfl, hU, fun b h => absurd h (by omega)⟩
  rintro ih2 j τ2 _ hj ⟨rfl, hU2, hno2⟩ hih2
  have t245 : τ2 245 = σ 245 := hU2.1 245 (by decide) (by decide)
  unfold wp_X9_isHinge_10
  have e0 : nI 0 + nI n = nI n := by rw [n_add, Nat.zero_add]
  rw [e0, n_cl (by omega), n_le (by decide) (by omega), n_eq (by omega) (by omega), n_eq (by omega) (by omega)]
  have skip : ¬ Hg o st ups n i j → j < 10 → ∀ τ', Uf τ2 τ' → ∀ z, z = nI j + nI 1 → ih2 τ' z := fun hk hjl τ' hU' z hz => by
    rw [hz, n_add]
    refine hih2 _ _ hjl ⟨rfl, hU2.tr hU', fun b hbj => ?_⟩
    rcases Nat.lt_or_ge b j with t | t
    · exact hno2 b t
    · rw [show b = j by omega]; exact hk
  refine ⟨fun q2 z hz => ?_, fun q2 => ?_⟩
  · rw [hz, n_add]
    refine hih _ _ hil ⟨rfl, hU2, fun a b ha hb2 => ?_⟩
    rcases Nat.lt_or_ge a i with t | t
    · exact hno a b t hb2
    · rw [show a = i by omega]; exact hno2 b (by omega)
  have hjl : j < 10 := by omega
  refine ⟨fun c => skip (fun t => t.1 c) hjl τ2 (Uf.rf τ2), fun c => ⟨fun d => skip (fun t => t.2.1 d) hjl τ2 (Uf.rf τ2), fun d => ?_⟩⟩
  refine s_X9_arePair (by rw [t245]; exact hf.1) hil hjl (fun hp => ⟨fun _ => ?_, fun t => absurd t (by decide)⟩) (fun hp => ⟨fun t => absurd rfl t, fun _ => ?_⟩)
  · rw [t245, hst] at hp
    obtain ⟨p1, p2, p3⟩ := prs_iff.mp hp
    refine s_X9_goesTo (ups := ups) (by rw [t245]; exact hf.1) (by rw [t245, hst, hups]) hb (hU2.lr hl) hil hjl (hown i hil p2) (hown j hjl p3) (fun τ3 hW hY => ?_)
    obtain ⟨y1, y2, y3⟩ := hY
    rw [y2]
    cases es : pwS o ups i j with
    | true =>
      refine ⟨fun t => absurd t (by decide), fun _ => skip (fun t => ?_) hjl τ3 hW.uf⟩
      rw [t.2.2.2.1] at es; cases es
    | false =>
      refine ⟨fun _ => ⟨n_in (by omega) (by decide), fun τ4 h4 => ?_⟩, fun t => absurd rfl t⟩
      have a245 : τ3 245 = σ 245 := by rw [hW.1 245 (by decide) (by decide)]; exact t245
      have r245 : τ4 245 = upd (σ 245) n (nI 2) := by rw [h4, su_same, a245]
      have n245 : ∀ b, b ≠ 245 → τ4 b = τ3 b := fun b hb => by rw [h4, su_ne hb]
      have hl4 : LR τ4 o := by
        have := (hU2.tr hW.uf).lr hl
        refine ⟨by rw [n245 244 (by decide)]; exact this.1, fun i hi => ?_⟩
        rw [n245 250 (by decide), n245 251 (by decide), n245 252 (by decide), n245 253 (by decide), n245 254 (by decide), n245 255 (by decide)]
        exact this.2 i hi
      refine s_X9_goesTo (ups := clr ups n) (by rw [r245]; exact hrow) (by rw [r245]; exact hbit) hb hl4 hil hjl (hown i hil p2) (hown j hjl p3) (fun τ5 hW5 hY5 => ⟨n_in (by omega) (by decide), fun τ6 h6 => ?_⟩)
      obtain ⟨w1, w2, w3⟩ := hY5
      have e27 : τ6 244 27 = bI (pwS o (clr ups n) i j) := by rw [h6, su_ne (by decide)]; exact w2
      have hU6 : Uf τ2 τ6 := by
        refine ⟨fun b b1 b2 => ?_, fun k hk => ?_⟩
        · by_cases hb5 : b = 245
          · rw [hb5, h6, su_same, hW5.1 245 (by decide) (by decide), r245, upd_back hfn, t245]
          · rw [h6, su_ne hb5, hW5.1 b b1 b2, n245 b hb5, hW.1 b b1 b2]
        · rw [h6, su_ne (by decide), hW5.2 k (by omega) (by omega), n245 244 (by decide), hW.2 k (by omega) (by omega)]
      rw [e27]
      cases es2 : pwS o (clr ups n) i j with
      | false =>
        refine ⟨fun _ => skip (fun t => ?_) hjl τ6 hU6, fun t => absurd rfl t⟩
        rw [t.2.2.2.2] at es2; cases es2
      | true =>
        refine ⟨fun t => absurd t (by decide), fun _ => ?_⟩
        have h1 : isHb o st ups n = true := isHb_iff.mpr ⟨i, j, hil, hjl, c, d, hp, es, es2⟩
        have := hQ τ6 (hU2.tr hU6)
        rw [h1] at this
        exact this
  · rw [t245, hst] at hp
    exact skip (fun t => hp t.2.2.1) hjl τ2 (Uf.rf τ2)
theorem s_X9_hinges {σ : St} {o st : Nat → Nat} {ups : Nat} {Q : Int32 → St → Prop} (hf : Good (σ 245)) (hst : gst (σ 245) = st) (hups : ups = bits st 1) (hb : OB o) (hl : LR σ o) (hown : ∀ p, p < 10 → st p = 1 → own1 o p)
    (hQ : ∀ τ, Uf σ τ → Q (nI (svG o st ups)) τ) : wp_X9_hinges σ Q := by
  unfold wp_X9_hinges
  refine LP3_nat 10 (fun n τ x y => y = nI n ∧ x = nI (bm (fun n => decide (st n = 1) && isHb o st ups n) n) ∧ Uf σ τ) ?_ 0 _ _ _ (Nat.zero_le _) ⟨rfl, rfl, Uf.rf σ⟩
  rintro ih n τ _ _ hn ⟨rfl, rfl, hU⟩ hih
  have t245 : τ 245 = σ 245 := hU.1 245 (by decide) (by decide)
  unfold wp_X9_hinges_4
  rw [n_le (by decide) (by omega), n_one (by omega), n_or, n_or, Nat.or_zero, n_add]
  refine ⟨fun q => ?_, fun q => ?_⟩
  · have en : n = 10 := by omega
    rw [en]
    exact hQ τ hU
  have hnl : n < 10 := by omega
  have no : ∀ τ', Uf τ τ' → (decide (st n = 1) && isHb o st ups n) = false → ∀ x, x = nI (bm (fun n => decide (st n = 1) && isHb o st ups n) n) → ∀ y, y = nI (n + 1) → ih τ' x y := fun τ' hU' h0 x hx y hy => by
    rw [hx, hy]
    refine hih _ _ _ hnl ⟨rfl, ?_, hU.tr hU'⟩
    conv => rhs; unfold bm
    rw [if_neg (by rw [h0]; decide)]
  refine s_X9_isState (by rw [t245]; exact hf.1) hnl (by decide) (fun d => ⟨fun t => absurd t (by decide), fun _ => ?_⟩) (fun d => ⟨fun _ => no τ (Uf.rf τ) (by rw [t245, hst] at d; simp [d]), fun t => absurd rfl t⟩)
  rw [t245, hst] at d
  refine s_X9_isHinge (o := o) (st := st) (ups := ups) (by rw [t245]; exact hf) (by rw [t245]; exact hst) hups hb (hU.lr hl) hown hnl d (fun τ2 hU2 => ?_)
  cases e : isHb o st ups n with
  | false => exact ⟨fun _ => no τ2 hU2 (by rw [e, Bool.and_false]), fun t => absurd rfl t⟩
  | true =>
    refine ⟨fun t => absurd t (by decide), fun _ x hx y hy => ?_⟩
    rw [hx, hy]
    refine hih _ _ _ hnl ⟨rfl, ?_, hU.tr hU2⟩
    conv => rhs; unfold bm
    rw [if_pos (by rw [e, d]; decide)]
