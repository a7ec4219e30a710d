/-! TEXT: all acts; the reference -/
def Bs (σ ρ : St) (s : AS) : Prop := (∀ b, b ≠ 244 → b ≠ 246 → ρ b = σ b) ∧ Eq6 (ρ 246) (sF s) ∧ (∀ j, j < 9 → ρ 244 j = σ 244 j) ∧ ρ 244 9 = nI 0
theorem r_copy {τ : St} {Q : Int32 → St → Prop} (hQ : ∀ τ', (∀ b, b ≠ 245 → τ' b = τ b) → τ' 245 = mix (τ 246) (τ 245) → Q (nI 0) τ') : ∃ n9 : Nat, LP2 (wp_X9_acts_220 Q) n9 τ (nI 0) := by
  refine LP2_nat 6682 (fun i τ2 z => z = nI i ∧ (∀ b, b ≠ 245 → τ2 b = τ b) ∧ ∀ j, τ2 245 j = if j < i then τ 246 j else τ 245 j) ?_ 0 _ _ (Nat.zero_le _) ⟨rfl, fun _ _ => rfl, fun j => by rw [if_neg (by omega)]⟩
  rintro ih i τ2 _ hi ⟨rfl, hne, hrow⟩ hih
  unfold wp_X9_acts_220
  rw [n_le (by decide) (by omega), n_cl (by omega), n_add]
  refine ⟨fun q => hQ τ2 hne ?_, fun q => ⟨n_in (by omega) (by decide), n_in (by omega) (by decide), fun τ3 h3 z hz => ?_⟩⟩
  · funext j
    rw [hrow j, show i = 6682 by omega]
    rfl
  · rw [hz]
    refine hih _ _ (by omega) ⟨rfl, fun b hb => by rw [h3, su_ne hb]; exact hne b hb, fun j => ?_⟩
    rw [h3, su_at, hne 246 (by decide)]
    by_cases c : j = i
    · rw [if_pos c, if_pos (by omega), c]
    · rw [if_neg c, hrow j]
      by_cases d : j < i
      · rw [if_pos d, if_pos (by omega)]
      · rw [if_neg d, if_neg (by omega)]
theorem r_done {σ ρ τ : St} {s : AS} {f : Nat → Int32} {e n : Nat} {x2 : Int32} {Q : Int32 → St → Prop} (h : RR σ s) (hB : Bs σ ρ s) (hP : PR σ (rActs s) Q) (hA : Aw ρ τ f e) (hn : n ≤ 14) (hr : rn (sP s) (sT s) 14 (sF s) 0 = (none, f, n)) : wp_X9_acts_154 τ (nI n) x2 Q := by
  obtain ⟨r1, r2, r3, r4, r5, r6, r7, r8, r9⟩ := h
  obtain ⟨hZ, a5, a11, a12⟩ := hA
  obtain ⟨p1, p2, p3, p4⟩ := hB
  rw [rActs_d hr] at hP
  unfold wp_X9_acts_154
  rw [a12]
  refine ⟨fun t => absurd rfl t, fun _ => ?_⟩
  unfold wp_X9_acts_168
  intro τ1 h1
  rw [thr_at h1, n_le0 (by omega)]
  have fin : ∀ τ2 v τ3, τ2 = su τ1 244 7 v → τ3 = su τ2 244 5 (nI 0) → v = (if n = 0 then sW s else nI 0) → Q (nI n) τ3 := fun τ2 v τ3 h2 h3 hv => by
    have m : ∀ b, b ≠ 244 → τ3 b = τ b := fun b hb => by rw [h3, su_ne hb, h2, su_ne hb, h1, su_ne hb]
    have g : ∀ j, j ≠ 0 → j ≠ 5 → j ≠ 7 → τ3 244 j = τ 244 j := fun j j1 j2 j3 => by rw [h3, su_at, if_neg j2, h2, su_at, if_neg j3, h1, su_at, if_neg j1]
    refine hP τ3 _ (fun b hb => by rw [m b (by omega), hZ.1 b (by omega), p1 b (by omega) (by omega)]) ⟨?_, ?_, ?_, ?_, ?_, ?_, ?_, ?_, ?_⟩ ?_ (fun _ => rfl)
    · rw [m 245 (by decide)]; exact a5
    · rw [h3, su_at, if_pos rfl]
    · exact fun i hi => absurd hi (Nat.not_lt_zero _)
    · rw [g 6 (by decide) (by decide) (by decide), hZ.2 6 (by decide), p3 6 (by decide)]; exact r4
    · rw [m 247 (by decide), hZ.1 247 (by omega), p1 247 (by decide) (by decide)]; exact r5
    · rw [h3, su_at, if_neg (by decide), h2, su_at, if_pos rfl, hv]
    · rw [g 12 (by decide) (by decide) (by decide)]; exact a12
    · rw [g 9 (by decide) (by decide) (by decide), hZ.2 9 (by decide)]; exact p4
    · exact fun i hi => absurd hi (Nat.not_lt_zero _)
    · rw [h3, su_at, if_neg (by decide), h2, su_at, if_neg (by decide), h1, su_at, if_pos rfl]
  refine ⟨fun t => absurd (by decide) t, fun _ => ⟨fun c τ2 h2 τ3 h3 => fin τ2 _ τ3 h2 h3 ?_, fun c τ2 h2 τ3 h3 => fin τ2 _ τ3 h2 h3 ?_⟩⟩
  · rw [if_pos c, h1, su_at, if_neg (by decide), hZ.2 7 (by decide), p3 7 (by decide)]; exact r6
  · rw [if_neg c]
theorem r_fault {σ ρ τ : St} {s : AS} {f : Nat → Int32} {v c n : Nat} {x1 : Int32} {Q : Int32 → St → Prop} (h : RR σ s) (hB : Bs σ ρ s) (hP : PR σ (rActs s) Q) (hF : Fa ρ τ f v (sT s)) (hc : c ≤ 10) (hr : rn (sP s) (sT s) 14 (sF s) 0 = (some (v, c), f, n)) : wp_X9_acts_154 τ x1 (nI c) Q := by
  have hne := hF.ne
  obtain ⟨r1, r2, r3, r4, r5, r6, r7, r8, r9⟩ := h
  obtain ⟨hZ, a5, -, a12, -, -⟩ := hF
  obtain ⟨p1, p2, p3, p4⟩ := hB
  rw [rActs_f hr] at hP
  unfold wp_X9_acts_154
  refine ⟨fun _ => ?_, fun t => absurd t hne⟩
  unfold wp_X9_acts_168
  intro τ1 h1
  rw [thr_at h1, n_le0 (by omega)]
  have fin : ∀ τ2 w, τ2 = su τ1 244 7 w → w = (if c = 0 then sW s else nI c) → ∃ n9 : Nat, LP2 (wp_X9_acts_220 Q) n9 τ2 (nI 0) := fun τ2 w h2 hw => by
    have m : ∀ b, b ≠ 244 → τ2 b = τ b := fun b hb => by rw [h2, su_ne hb, h1, su_ne hb]
    have g : ∀ j, j ≠ 0 → j ≠ 7 → τ2 244 j = τ 244 j := fun j j1 j3 => by rw [h2, su_at, if_neg j3, h1, su_at, if_neg j1]
    refine r_copy (fun τ3 m3 e3 => ?_)
    have e246 : τ2 246 = ρ 246 := by rw [m 246 (by decide), hZ.1 246 (by omega)]
    refine hP τ3 _ (fun b hb => by rw [m3 b (by omega), m b (by omega), hZ.1 b (by omega), p1 b (by omega) (by omega)]) ⟨?_, ?_, ?_, ?_, ?_, ?_, ?_, ?_, ?_⟩ ?_ (fun t => absurd t (show (1 : Nat) ≠ 0 by decide))
    · rw [e3, e246, m 245 (by decide), a5]
      funext j
      show (if j < 6682 then ρ 246 j else f j) = (if j < 6682 then sF s j else f j)
      by_cases d : j < 6682
      · rw [if_pos d, if_pos d, p2 j d]
      · rw [if_neg d, if_neg d]
    · rw [m3 244 (by decide), g 5 (by decide) (by decide), hZ.2 5 (by decide), p3 5 (by decide)]; exact r2
    · rw [m3 248 (by decide), m 248 (by decide), hZ.1 248 (by omega), p1 248 (by decide) (by decide)]; exact r3
    · rw [m3 244 (by decide), g 6 (by decide) (by decide), hZ.2 6 (by decide), p3 6 (by decide)]; exact r4
    · rw [m3 247 (by decide), m 247 (by decide), hZ.1 247 (by omega), p1 247 (by decide) (by decide)]; exact r5
    · rw [m3 244 (by decide), h2, su_at, if_pos rfl, hw]
    · rw [m3 244 (by decide), g 12 (by decide) (by decide)]; exact a12
    · rw [m3 244 (by decide), g 9 (by decide) (by decide), hZ.2 9 (by decide)]; exact p4
    · exact fun i hi => absurd hi (Nat.not_lt_zero _)
    · rw [m3 244 (by decide), h2, su_at, if_neg (by decide), h1, su_at, if_pos rfl]
  refine ⟨fun _ => ⟨fun d τ2 h2 => fin τ2 _ h2 ?_, fun d τ2 h2 => fin τ2 _ h2 ?_⟩, fun t => absurd t (by decide)⟩
  · rw [if_pos d, h1, su_at, if_neg (by decide), hZ.2 7 (by decide), p3 7 (by decide)]; exact r6
  · rw [if_neg d]
def RunR (s : AS) (ρ : St) (i : Nat) (τ : St) (x2 x3 : Int32) : Prop := x2 = nI 0 ∧ x3 = nI 1 ∧ i ≤ 14 ∧ ∃ f p p1, Good f ∧ p ≤ sT s ∧ sk (sP s) (sT s) p < sT s ∧ ¬ (i ≠ 0 ∧ sP s (sk (sP s) (sT s) p) ≠ 59) ∧ p1 ≤ sT s ∧ sk (sP s) (sT s) p1 = qst (sP s) (sT s) i p ∧ Aw ρ τ f p1 ∧ rn (sP s) (sT s) 14 (sF s) 0 = rn (sP s) (sT s) (14 - i) f p
def EndR (s : AS) (ρ : St) (i : Nat) (τ : St) (x3 : Int32) : Prop := x3 = nI 0 ∧ i ≤ 14 ∧ ∃ f e, Aw ρ τ f e ∧ rn (sP s) (sT s) 14 (sF s) 0 = (none, f, i)
def FltR (s : AS) (ρ : St) (τ : St) (x2 : Int32) : Prop := ∃ f v c n, c ≤ 10 ∧ x2 = nI c ∧ Fa ρ τ f v (sT s) ∧ rn (sP s) (sT s) 14 (sF s) 0 = (some (v, c), f, n)
theorem s_X9_acts {σ : St} {s : AS} {Q : Int32 → St → Prop} (h : RR σ s) (hs : Sok s) (hP : PR σ (rActs s) Q) : wp_X9_acts σ Q := by
  have hL : sT s ≤ 400 := hs.2.2.2.2.2.1
  unfold wp_X9_acts
  intro σ1 h1 σ2 h2 σ3 h3 σ4 h4
  have m4 : ∀ b, b ≠ 244 → σ4 b = σ b := fun b hb => by rw [h4, su_ne hb, h3, su_ne hb, h2, su_ne hb, h1, su_ne hb]
  have g4 : ∀ j, j < 9 → σ4 244 j = σ 244 j := fun j hj => by rw [h4, su_at, if_neg (by omega), h3, su_at, if_neg (by omega), h2, su_at, if_neg (by omega), h1, su_at, if_neg (by omega)]
  have g9 : σ4 244 9 = nI 0 := by rw [h4, su_at, if_neg (by decide), h3, su_at, if_pos rfl]
  have g10 : σ4 244 10 = nI (sT s) := by rw [h4, su_at, if_neg (by decide), h3, su_at, if_neg (by decide), h2, su_at, if_pos rfl, h1, su_at, if_neg (by decide)]; exact h.2.2.2.2.2.2.2.1
  have g11 : σ4 244 11 = nI 0 := by rw [h4, su_at, if_pos rfl]
  have g12 : σ4 244 12 = -1 := by rw [h4, su_at, if_neg (by decide), h3, su_at, if_neg (by decide), h2, su_at, if_neg (by decide), h1, su_at, if_pos rfl]
  refine s_X9_putsAside (fun ρ mr er => ?_)
  have e245 : σ4 245 = sF s := by rw [m4 245 (by decide)]; exact h.1
  have hB : Bs σ ρ s := ⟨fun b b1 b2 => by rw [mr b b2, m4 b b1], by rw [← e245]; exact er, fun j hj => by rw [mr 244 (by decide)]; exact g4 j hj, by rw [mr 244 (by decide)]; exact g9⟩
  have hT : TR ρ (sT s) (sP s) := ⟨by rw [mr 244 (by decide)]; exact g10, hL, fun i hi => ⟨by rw [mr 249 (by decide), m4 249 (by decide)]; exact h.2.2.2.2.2.2.2.2 i hi, hs.2.2.2.2.2.2 i hi⟩⟩
  have hA0 : Aw ρ ρ (sF s) 0 := ⟨Zf.rf ρ, by rw [mr 245 (by decide)]; exact e245, by rw [mr 244 (by decide)]; exact g11, by rw [mr 244 (by decide)]; exact g12⟩
  have loop : ∀ τ x3, (RunR s ρ 0 τ (nI 0) x3 ∨ EndR s ρ 0 τ x3) → ∃ n9 : Nat, LP4 (wp_X9_acts_48 Q) n9 τ (nI 0) (nI 0) x3 := fun τ x3 hI0 => by
    refine LP4_nat 15 (fun i τ x1 x2 x3 => x1 = nI i ∧ (RunR s ρ i τ x2 x3 ∨ EndR s ρ i τ x3 ∨ FltR s ρ τ x2)) ?_ 0 _ _ _ _ (Nat.zero_le _) ⟨rfl, hI0.elim Or.inl (fun t => Or.inr (Or.inl t))⟩
    rintro ih i τ _ x2 x3 hi ⟨rfl, hI⟩ hih
    unfold wp_X9_acts_48
    rcases hI with ⟨rfl, rfl, hi14, f, p, p1, hf, hp, hlt, hse, hp1, hq, hA, hrn⟩ | ⟨rfl, hi14, f, e, hA, hrn⟩ | ⟨f, v, c, n, hc, rfl, hF, hrn⟩
    · refine ⟨fun t => absurd t (by decide), fun _ => ⟨fun t => absurd hA.2.2.2 t, fun _ => ?_⟩⟩
      have f87 : ∀ τ' x, FltR s ρ τ' x → wp_X9_acts_87 τ' (nI i) x ih Q := fun τ' x hx => by
        obtain ⟨f', v, c, n, hc, ex, hF, hr'⟩ := hx
        obtain ⟨p', hp', ep'⟩ := hF.2.2.1
        unfold wp_X9_acts_87
        intro y hy
        rw [hy, n_add]
        refine s_X9_here (hT.zf hF.1) hp' ep' (fun τ2 g2 e2 => ?_)
        have F2 := hF.qp g2 (sk_ok hp').2.1 e2
        have hgo : ∀ t0, ih τ2 (nI (i + 1)) x t0 := fun t0 => hih _ _ _ _ (by omega) ⟨rfl, Or.inr (Or.inr ⟨f', v, c, n, hc, ex, F2, hr'⟩)⟩
        exact ⟨fun _ => ⟨fun _ => hgo _, fun t => absurd rfl t⟩, fun _ => ⟨fun t => absurd t (by decide), fun _ => ⟨fun _ => hgo _, fun t => absurd t F2.ne⟩⟩⟩
      have d87 : ∀ τ' f' e', i < 14 → Good f' → e' ≤ sT s → Aw ρ τ' f' e' → rn (sP s) (sT s) 14 (sF s) 0 = rn (sP s) (sT s) (14 - (i + 1)) f' e' → wp_X9_acts_87 τ' (nI i) (nI 0) ih Q := fun τ' f' e' hi13 hf' he' hA' hr' => by
        unfold wp_X9_acts_87
        intro y hy
        rw [hy, n_add]
        obtain ⟨k1, k2, -⟩ := sk_ok (P := sP s) he'
        refine s_X9_here (hT.zf hA'.1) he' hA'.2.2.1 (fun τ2 g2 e2 => ?_)
        have A2 := hA'.qp g2 e2
        have T2 := hT.zf A2.1
        rw [T2.1, n_le (by omega) (by omega)]
        refine ⟨fun c => ⟨fun _ => hih _ _ _ _ (by omega) ⟨rfl, Or.inr (Or.inl ⟨rfl, by omega, f', _, A2, hr'.trans (rn_end (by omega) c)⟩)⟩, fun t => absurd rfl t⟩, fun c => ?_⟩
        unfold wp_X9_acts_106
        refine ⟨fun t => absurd t (by decide), fun _ => ⟨fun t => absurd A2.2.2.2 t, fun _ => ?_⟩⟩
        obtain ⟨b1, b2⟩ := T2.2.2 (sk (sP s) (sT s) e') (by omega)
        rw [e2, n_cl (by omega), b1, n_eq (by omega) (by decide), n_add]
        refine ⟨n_in (by omega) (by decide), fun d τ3 h3 => ?_, fun d => s_X9_wrong A2.2.2.2 (fun τ3 h3 τ4 h4 => ?_)⟩
        · have A3 := A2.qp (Qp.su _ h3) (by rw [h3, su_at, if_pos rfl])
          exact hih _ _ _ _ (by omega) ⟨rfl, Or.inl ⟨rfl, rfl, by omega, f', e', sk (sP s) (sT s) e' + 1, hf', he', by omega, fun t => t.2 d, by omega, by unfold qst; rw [if_neg (by omega)], A3, hr'⟩⟩
        · have F3 := A2.wr k2 k2 hL h3
          have e3 : τ3 244 11 = nI (sk (sP s) (sT s) e') := by rw [h3, su_at, if_neg (by decide)]; exact e2
          rw [e3, n_add] at h4
          have F4 := F3.qp (e' := sk (sP s) (sT s) e' + 1) (Qp.su _ h4) (by omega) (by rw [h4, su_at, if_pos rfl])
          refine hih _ _ _ _ (by omega) ⟨rfl, Or.inr (Or.inr ⟨f', _, 0, i + 1, Nat.zero_le _, rfl, F4, hr'.trans (rn_no (by omega) (by omega) ?_)⟩)⟩
          unfold rdA
          rw [if_pos ⟨by omega, d⟩]
      rw [n_eq (by omega) (by decide)]
      refine ⟨fun c14 => ?_, fun c14 => ?_⟩
      · unfold wp_X9_acts_74
        refine ⟨fun t => absurd hA.2.2.2 t, fun _ => ?_⟩
        have hrd : rdA (sP s) (sT s) i p = pAct (sP s) (sT s) (sk (sP s) (sT s) p1) := by
          unfold rdA
          rw [if_neg hse, if_neg c14, hq]
        have hok := rdA_ok (P := sP s) (L := sT s) (c := i) (p := p) hlt
        refine s_X9_act hf hT hA hp1 ⟨fun v hv τ2 F2 => ?_, fun k a b c d e hv => ⟨fun c0 τ2 z2 w5 w11 w12 => ?_, fun c0 τ2 A2 => ?_⟩⟩
        · exact f87 τ2 _ ⟨f, v, 0, i, Nat.zero_le _, rfl, F2, hrn.trans (rn_no hi14 hlt (hrd.trans hv))⟩
        · have hv' := hrd.trans hv
          rw [hv'] at hok
          obtain ⟨hk, ha⟩ := hok.2 k a b c d rfl
          have hle := acode_le f hk a b c d
          have hpe : e ≤ sT s := hok.1
          refine f87 τ2 _ ⟨f, qst (sP s) (sT s) i p, _, i, hle, rfl, ⟨z2, w5, ⟨e, hpe, w11⟩, by rw [← hq]; exact w12, by rw [← hq]; exact (sk_ok hp1).2.1, hL⟩, hrn.trans (rn_re hi14 hlt hv' c0)⟩
        · have hv' := hrd.trans hv
          rw [hv'] at hok
          obtain ⟨hk, ha⟩ := hok.2 k a b c d rfl
          have hpe : e ≤ sT s := hok.1
          exact d87 τ2 _ e (by omega) (arow_good hf hk ha c0) hpe A2 (hrn.trans (rn_ok (by omega) hlt hv' c0))
      · refine s_X9_here (hT.zf hA.1) hp1 hA.2.2.1 (fun τ2 g2 e2 => ?_)
        have A2 := hA.qp g2 e2
        obtain ⟨-, k2, -⟩ := sk_ok (P := sP s) hp1
        refine s_X9_wrong A2.2.2.2 (fun τ3 h3 => ?_)
        have F3 := A2.wr k2 k2 hL h3
        unfold wp_X9_acts_74
        refine ⟨fun _ => f87 τ3 _ ⟨f, sk (sP s) (sT s) p1, 0, i, Nat.zero_le _, rfl, F3, hrn.trans (rn_no hi14 hlt ?_)⟩, fun t => absurd t F3.ne⟩
        unfold rdA
        rw [if_neg hse, if_pos c14, hq]
    · exact ⟨fun _ => r_done h hB hP hA hi14 hrn, fun t => absurd rfl t⟩
    · have hfin := r_fault (x1 := nI i) h hB hP hF hc hrn
      exact ⟨fun _ => hfin, fun _ => ⟨fun _ => hfin, fun t => absurd t hF.ne⟩⟩
  obtain ⟨k1, k2, -⟩ := sk_ok (P := sP s) (Nat.zero_le (sT s))
  refine s_X9_here hT (Nat.zero_le _) hA0.2.2.1 (fun τ2 g2 e2 => ?_)
  have A2 := hA0.qp g2 e2
  have T2 := hT.zf A2.1
  rw [T2.1, n_le (by omega) (by omega)]
  refine ⟨fun c => loop τ2 _ (Or.inr ⟨rfl, Nat.zero_le _, sF s, _, A2, rn_end (i := 0) (Nat.zero_le _) c⟩), fun c => loop τ2 _ (Or.inl ⟨rfl, rfl, Nat.zero_le _, sF s, 0, sk (sP s) (sT s) 0, hs.1, Nat.zero_le _, by omega, fun t => t.1 rfl, k2, ?_, A2, rfl⟩)⟩
  unfold qst
  rw [if_pos rfl, sk_idem (Nat.zero_le _)]
