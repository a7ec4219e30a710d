/-! acts by calls: the reference -/
theorem s_X9_jn {σ : St} {px py x y : Nat} {f : Nat → Int32} {Q : Int32 → St → Prop} (hf : Good f) (hσ : σ 245 = f) (hx : x < 1000) (hy : y < 1000)
    (hr : jcode f x y ≠ 0 → ∀ τ, Mf σ τ → τ 245 = f → Q (nI (jcode f x y)) τ) (h0 : jcode f x y = 0 → ∀ τ, Mf σ τ → τ 245 = jrow f (nxt f) px py x y → τ 244 28 = nI (nxt f) → Q (nI 0) τ) : wp_X9_join0 σ (nI px) (nI py) (nI x) (nI y) Q := by
  unfold jcode at hr h0
  by_cases c : nxt f = 10
  · rw [if_pos c] at hr
    exact s_X9_join0_no hf hσ (nxt_10 c) (hr (by decide))
  · have hl := nxt_le f
    rw [if_neg c] at hr h0
    obtain ⟨n1, n2⟩ := nxt_lt (show nxt f < 10 by omega)
    refine s_X9_join0 hf hσ hx hy (show nxt f < 10 by omega) n1 n2 (fun q => ?_) (fun q1 q2 => ?_) (fun q1 q2 => ?_)
    · rw [if_pos (jdeepB_iff.mpr q)] at hr; exact hr (by decide)
    · rw [if_neg (fun t => q1 (jdeepB_iff.mp t)), if_pos (jdeadB_iff.mpr q2)] at hr; exact hr (by decide)
    · rw [if_neg (fun t => q1 (jdeepB_iff.mp t)), if_neg (fun t => q2 (jdeadB_iff.mp t))] at h0; exact h0 rfl
theorem gst_lrow {f : Nat → Int32} (hf : Good f) {p : Nat} (hp : p < 10) (hp1 : gst f p ≠ 0) (hm : mayGo (gst f) p) : gst (lrow f p) = setO (gst f) p 0 := by
  have hb := lg_b hf hp hp1 hm
  obtain ⟨e1, -⟩ := urow_acc (v := 0) hp (by decide) hb
  unfold lrow
  split
  · rw [(zrow_acc _).1, e1]
  · exact e1
theorem gst_crow {f : Nat → Int32} (hf : Good f) {p : Nat} (hp : p < 10) : gst (crow f p) = setO (gst f) p 2 := by
  obtain ⟨e1, -⟩ := srow_acc (f := f) (v := 2) hp (by decide)
  have hh : ∀ r k, r < 3 → k < 100 → crh f p r k ≤ 1 := fun r k hr hk => (crh_ok hf.1 p hr hk).1
  unfold crow
  rw [(hrow_acc (upd f p (nI 2)) (crh f p) hh).1, e1]
/-- go0: the code and the row -/
theorem s_X9_gk {σ : St} {p h : Nat} {f : Nat → Int32} {Q : Int32 → St → Prop} (hf : Good f) (hσ : σ 245 = f) (hp : p < 10) (hh : h < 3)
    (hr : acode f (4 + h) p 0 0 0 ≠ 0 → ∀ τ, Mf σ τ → τ 245 = f → Q (nI (acode f (4 + h) p 0 0 0)) τ) (h0 : acode f (4 + h) p 0 0 0 = 0 → ∀ τ, Mf σ τ → τ 245 = arow f (4 + h) p 0 0 0 → cntS (gst (arow f (4 + h) p 0 0 0)) 1 10 = aans f (4 + h) p 0 0 0 → Q (nI 0) τ) : wp_X9_go0 σ (nI p) (nI h) Q := by
  have h3 : h = 0 ∨ h = 1 ∨ h = 2 := by omega
  unfold wp_X9_go0
  rcases h3 with rfl | rfl | rfl
  · refine ⟨fun _ => ?_, fun t => absurd rfl t⟩
    have hr' : (if gst f p ≠ 1 then 4 else if mgB (gst f) p then 0 else 6) ≠ 0 → ∀ τ, Mf σ τ → τ 245 = f → Q (nI (if gst f p ≠ 1 then 4 else if mgB (gst f) p then 0 else 6)) τ := hr
    have h0' : (if gst f p ≠ 1 then 4 else if mgB (gst f) p then 0 else 6) = 0 → ∀ τ, Mf σ τ → τ 245 = lrow f p → cntS (gst (lrow f p)) 1 10 = cntS (setO (gst f) p 0) 1 10 → Q (nI 0) τ := h0
    refine s_X9_leave0 hf hσ hp (fun c => ?_) (fun c c2 => ?_) (fun c c2 τ hM h245 => ?_)
    · rw [if_pos c] at hr'; exact hr' (by decide) σ (Mf.rf σ) hσ
    · rw [if_neg (by omega), c2] at hr'; exact hr' (by decide) σ (Mf.rf σ) hσ
    · rw [if_neg (by omega), c2] at h0'
      exact h0' rfl τ hM h245 (by rw [gst_lrow hf hp (by omega) (mgB_iff.mp c2)])
  · refine ⟨fun t => absurd t (by decide), fun _ => ⟨fun _ => ?_, fun t => absurd rfl t⟩⟩
    have hr' : (if gst f p ≠ 1 then 4 else 0) ≠ 0 → ∀ τ, Mf σ τ → τ 245 = f → Q (nI (if gst f p ≠ 1 then 4 else 0)) τ := hr
    have h0' : (if gst f p ≠ 1 then 4 else 0) = 0 → ∀ τ, Mf σ τ → τ 245 = crow f p → cntS (gst (crow f p)) 1 10 = cntS (setO (gst f) p 2) 1 10 → Q (nI 0) τ := h0
    refine s_X9_crash0 hf hσ hp (fun c => ?_) (fun c τ hM h245 => ?_)
    · rw [if_pos c] at hr'; exact hr' (by decide) σ (Mf.rf σ) hσ
    · rw [if_neg (by omega)] at h0'
      exact h0' rfl τ hM h245 (by rw [gst_crow hf hp])
  · refine ⟨fun t => absurd t (by decide), fun _ => ⟨fun t => absurd t (by decide), fun _ => ?_⟩⟩
    have hr' : (if gst f p ≠ 2 then 5 else if mgB (gst f) p then 0 else 6) ≠ 0 → ∀ τ, Mf σ τ → τ 245 = f → Q (nI (if gst f p ≠ 2 then 5 else if mgB (gst f) p then 0 else 6)) τ := hr
    have h0' : (if gst f p ≠ 2 then 5 else if mgB (gst f) p then 0 else 6) = 0 → ∀ τ, Mf σ τ → τ 245 = lrow f p → cntS (gst (lrow f p)) 1 10 = cntS (setO (gst f) p 0) 1 10 → Q (nI 0) τ := h0
    refine s_X9_notice0 hf hσ hp (fun c => ?_) (fun c c2 => ?_) (fun c c2 τ hM h245 => ?_)
    · rw [if_pos c] at hr'; exact hr' (by decide) σ (Mf.rf σ) hσ
    · rw [if_neg (by omega), c2] at hr'; exact hr' (by decide) σ (Mf.rf σ) hσ
    · rw [if_neg (by omega), c2] at h0'
      exact h0' rfl τ hM h245 (by rw [gst_lrow hf hp (by omega) (mgB_iff.mp c2)])
/-- how an act by a call ends, in the reference: refused -/
theorem s_fin1 {σ σ3 τ : St} {s : AS} {e k a b c d : Nat} {Q : Int32 → St → Prop} {Q2 : Int32 → St → Prop} (hR : RR σ3 s) (hRf : Rf σ σ3) (hk : k ≤ 10) (c0 : acode (sF s) k a b c d ≠ 0) (hM : Mf σ3 τ) (h245 : τ 245 = sF s) (he : e ≠ 0) (hP : PR σ (actR s e k a b c d) Q) (hq : ∀ τ', Q (nI 0) τ' → Q2 (nI 0) τ') : wp_X9_isDone τ (nI (acode (sF s) k a b c d)) (nI e) Q2 := by
  have hl := acode_le (sF s) hk a b c d
  refine s_X9_isDone1 (hR.same hM h245) (by omega) (by omega) (fun τ' hRf' hR' ht => hq τ' ?_)
  unfold actR at hP
  rw [if_neg c0] at hP
  refine hP τ' (nI 0) (hRf.tr (hM.rff.tr hRf')) ?_ ht (fun q => absurd q he)
  show RR τ' (actS s k a b c d)
  unfold actS
  rw [if_neg c0]
  exact hR'
/-- done -/
theorem s_fin0 {σ σ3 τ : St} {s : AS} {e k a b c d : Nat} {x2 : Int32} {Q : Int32 → St → Prop} {Q2 : Int32 → St → Prop} (hR : RR σ3 s) (hs : Sok s) (h6 : Eq6 (σ3 246) (sF s)) (hRf : Rf σ σ3) (c0 : acode (sF s) k a b c d = 0) (hM : Mf σ3 τ) (h245 : τ 245 = arow (sF s) k a b c d) (hP : PR σ (actR s e k a b c d) Q)
    (hq : ∀ τ', RR τ' (actS s k a b c d) → τ' 245 = arow (sF s) k a b c d → τ' 244 28 = τ 244 28 → (∀ τ2, Mf τ' τ2 → τ2 245 = τ' 245 → τ2 244 0 = τ' 244 0 → Q (nI (aans (sF s) k a b c d)) τ2) → Q2 (nI 1) τ') : wp_X9_isDone τ (nI 0) x2 Q2 := by
  refine s_X9_isDone0 (s := s) (hR.mf hM h245) hs (by rw [hM.1 246 (by omega)]; exact h6) (fun τ' hRf' hR' ht h28 => ?_)
  have hA : RR τ' (actS s k a b c d) := by
    unfold actS
    rw [if_pos c0]
    exact hR'
  have hf' : τ' 245 = arow (sF s) k a b c d := hR'.1
  refine hq τ' hA hf' h28 (fun τ2 hM2 e2 ht2 => ?_)
  unfold actR at hP
  rw [if_pos c0] at hP
  refine hP τ2 _ (hRf.tr (hM.rff.tr (hRf'.tr hM2.rff))) (hA.same hM2 (by rw [e2]; exact hA.1)) (by rw [ht2]; exact ht) (fun _ => rfl)
/-- thrown is written, the call goes no further -/
theorem s_thr {σ : St} {s : AS} {e : Nat} {x : Int32} {Q : Int32 → St → Prop} (hR : RR σ s) (he : e ≠ 0) (hP : PR σ (e, x, s) Q) : ∀ τ, τ = su σ 244 0 (nI e) → Q (nI 0) τ := fun τ hτ =>
  hP τ (nI 0) (fun b hb => by rw [hτ, su_ne (by omega)]) (hR.thr hτ) (by rw [hτ, su_at, if_pos rfl]) (fun q => absurd q he)
theorem thr_at {σ τ : St} {v : Int32} (h : τ = su σ 244 0 v) : τ 244 0 = v := by rw [h, su_at, if_pos rfl]
theorem thr_rf {σ τ : St} {v : Int32} (h : τ = su σ 244 0 v) : Rf σ τ := fun b hb => by rw [h, su_ne (by omega)]
theorem s_X9_join {σ : St} {s : AS} {x1 x2 x3 x4 : Int32} {Q : Int32 → St → Prop} (h : RR σ s) (hs : Sok s) (hP : PR σ (rJoin s x1 x2 x3 x4) Q) : wp_X9_join σ x1 x2 x3 x4 Q := by
  unfold rJoin at hP
  have no : ¬ ((inR x1 100 ∧ inR x2 100) ∧ (inR x3 32 ∧ inR x4 32)) → wp_X9_join_22 σ x1 x2 x3 x4 Q := fun c => by
    rw [if_neg c] at hP
    unfold wp_X9_join_22 wp_X9_join_23
    intro σ1 h1
    rw [thr_at h1]
    exact ⟨fun t => absurd t (by decide), fun _ => s_thr h (by decide) hP σ1 h1⟩
  unfold wp_X9_join
  refine s_X9_isPlace (fun a => ⟨fun t => absurd t (by decide), fun _ => s_X9_isCell (fun b => ⟨fun t => absurd t (by decide), fun _ => ?_⟩) (fun b => ⟨fun _ => no (fun q => b q.2), fun t => absurd rfl t⟩)⟩) (fun a => ⟨fun _ => no (fun q => a q.1), fun t => absurd rfl t⟩)
  rw [if_pos ⟨a, b⟩] at hP
  obtain ⟨i1, i2⟩ := inR_n (by decide) a.1
  obtain ⟨j1, j2⟩ := inR_n (by decide) a.2
  obtain ⟨k1, k2⟩ := inR_n (by decide) b.1
  obtain ⟨l1, l2⟩ := inR_n (by decide) b.2
  unfold wp_X9_join_23
  intro σ1 h1
  rw [thr_at h1]
  refine ⟨fun _ => s_X9_putsAside (fun σ3 m3 h6 => ?_), fun t => absurd (by decide) t⟩
  have hR3 : RR σ3 s := (h.thr h1).aside m3
  have hRf : Rf σ σ3 := (thr_rf h1).tr (fun b hb => m3 b (by omega))
  have h6' : Eq6 (σ3 246) (sF s) := by rw [← (h.thr h1).1]; exact h6
  generalize hc1 : cl x1 = c1 at *
  generalize hc2 : cl x2 = c2 at *
  generalize hc3 : cl x3 = c3 at *
  generalize hc4 : cl x4 = c4 at *
  rw [i1, j1, k1, l1]
  refine s_X9_jn hs.1 hR3.1 (by omega) (by omega) (fun c0 τ hM e => ?_) (fun c0 τ hM e e28 => ?_)
  · exact s_fin1 (k := 2) (e := 2) hR3 hRf (by decide) c0 hM e (by decide) hP (fun τ' q => ⟨fun _ => q, fun t => absurd rfl t⟩)
  · refine s_fin0 (k := 2) (e := 2) hR3 hs h6' hRf c0 hM e hP (fun τ' hA hf' h28 q => ⟨fun t => absurd t (by decide), fun _ => ?_⟩)
    rw [h28, e28]
    exact q τ' (Mf.rf τ') rfl rfl
theorem s_X9_near {σ : St} {s : AS} {x1 x2 : Int32} {Q : Int32 → St → Prop} (h : RR σ s) (hs : Sok s) (hP : PR σ (rNear s x1 x2) Q) : wp_X9_near σ x1 x2 Q := by
  unfold rNear at hP
  unfold wp_X9_near
  refine s_X9_isPlace (fun a => ⟨fun t => absurd t (by decide), fun _ => ?_⟩) (fun a => ⟨fun _ => ?_, fun t => absurd rfl t⟩)
  · rw [if_pos a] at hP
    obtain ⟨i1, i2⟩ := inR_n (by decide) a.1
    obtain ⟨j1, j2⟩ := inR_n (by decide) a.2
    unfold wp_X9_near_14
    intro σ1 h1
    rw [thr_at h1]
    refine ⟨fun _ => s_X9_putsAside (fun σ3 m3 h6 => ?_), fun t => absurd (by decide) t⟩
    have hR3 : RR σ3 s := (h.thr h1).aside m3
    have hRf : Rf σ σ3 := (thr_rf h1).tr (fun b hb => m3 b (by omega))
    have h6' : Eq6 (σ3 246) (sF s) := by rw [← (h.thr h1).1]; exact h6
    generalize hc1 : cl x1 = c1 at *
    generalize hc2 : cl x2 = c2 at *
    rw [i1, j1]
    have hnl := nrx_lt hs.1.1 c1 c2
    refine s_X9_near0 hR3.1 hs.1.1 i2 j2 (s_X9_jn hs.1 hR3.1 (by omega) (by omega) (fun c0 τ hM e => ?_) (fun c0 τ hM e e28 => ?_))
    · exact s_fin1 (k := 3) (e := 2) (c := 0) (d := 0) hR3 hRf (by decide) c0 hM e (by decide) hP (fun τ' q => ⟨fun _ => q, fun t => absurd rfl t⟩)
    · refine s_fin0 (k := 3) (e := 2) (c := 0) (d := 0) hR3 hs h6' hRf c0 hM e hP (fun τ' hA hf' h28 q => ⟨fun t => absurd t (by decide), fun _ => ?_⟩)
      rw [h28, e28]
      exact q τ' (Mf.rf τ') rfl rfl
  · rw [if_neg a] at hP
    unfold wp_X9_near_14
    intro σ1 h1
    rw [thr_at h1]
    exact ⟨fun t => absurd t (by decide), fun _ => s_thr h (by decide) hP σ1 h1⟩
theorem s_X9_go {σ : St} {s : AS} {x1 x2 : Int32} {Q : Int32 → St → Prop} (h : RR σ s) (hs : Sok s) (hP : PR σ (rGo s x1 x2) Q) : wp_X9_go σ x1 x2 Q := by
  unfold rGo at hP
  unfold wp_X9_go
  refine s_X9_isNode (fun a => ⟨fun _ => s_isR (n := 3) (by decide) (by decide) (fun b => ⟨fun _ => ?_, fun t => absurd t (by decide)⟩) (fun b => ⟨fun t => absurd rfl t, fun _ => ?_⟩), fun t => absurd t (by decide)⟩) (fun a => ⟨fun t => absurd rfl t, fun _ => ?_⟩)
  · rw [if_pos a, if_pos b] at hP
    obtain ⟨i1, i2⟩ := inR_n (by decide) a
    obtain ⟨j1, j2⟩ := inR_n (by decide) b
    unfold wp_X9_go_26
    intro σ1 h1
    rw [thr_at h1]
    refine ⟨fun _ => s_X9_putsAside (fun σ3 m3 h6 => ?_), fun t => absurd (by decide) t⟩
    have hR3 : RR σ3 s := (h.thr h1).aside m3
    have hRf : Rf σ σ3 := (thr_rf h1).tr (fun b hb => m3 b (by omega))
    have h6' : Eq6 (σ3 246) (sF s) := by rw [← (h.thr h1).1]; exact h6
    generalize hc1 : cl x1 = c1 at *
    generalize hc2 : cl x2 = c2 at *
    rw [i1, j1]
    have ha : aarg (4 + c2) c1 0 0 0 := by
      have : c2 = 0 ∨ c2 = 1 ∨ c2 = 2 := by omega
      rcases this with e | e | e <;> rw [e] <;> exact i2
    refine s_X9_gk hs.1 hR3.1 i2 j2 (fun c0 τ hM e => ?_) (fun c0 τ hM e ec => ?_)
    · exact s_fin1 (k := 4 + c2) (e := 3) hR3 hRf (by omega) c0 hM e (by decide) hP (fun τ' q => ⟨fun _ => q, fun t => absurd rfl t⟩)
    · refine s_fin0 (k := 4 + c2) (e := 3) hR3 hs h6' hRf c0 hM e hP (fun τ' hA hf' h28 q => ⟨fun t => absurd t (by decide), fun _ => ?_⟩)
      refine s_X9_countOf (by rw [hf']; exact (arow_good hs.1 (by omega) ha c0).1) (by decide) ?_
      rw [hf', ec]
      exact q τ' (Mf.rf τ') rfl rfl
  · rw [if_pos a, if_neg b] at hP
    unfold wp_X9_go_26
    intro σ1 h1
    rw [thr_at h1]
    exact ⟨fun t => absurd t (by decide), fun _ => s_thr h (by decide) hP σ1 h1⟩
  · rw [if_neg a] at hP
    unfold wp_X9_go_26
    intro σ1 h1
    rw [thr_at h1]
    exact ⟨fun t => absurd t (by decide), fun _ => s_thr h (by decide) hP σ1 h1⟩
theorem s_X9_tidy {σ : St} {s : AS} {Q : Int32 → St → Prop} (h : RR σ s) (hs : Sok s) (hP : PR σ (rTidy s) Q) : wp_X9_tidy σ Q := by
  unfold wp_X9_tidy
  unfold rTidy at hP
  refine s_X9_putsAside (fun σ3 m3 h6 => ?_)
  have hR3 : RR σ3 s := h.aside m3
  have hRf : Rf σ σ3 := fun b hb => m3 b (by omega)
  have h6' : Eq6 (σ3 246) (sF s) := by rw [← h.1]; exact h6
  refine s_X9_allZones hs.1 hR3.1 (fun σ4 hL => ?_)
  have hM4 := hL.sc.mf
  have hR4 : RR σ4 s := hR3.same hM4 (by rw [hL.m]; exact hR3.1)
  have h64 : Eq6 (σ4 246) (sF s) := by rw [hM4.1 246 (by omega)]; exact h6'
  have hRf4 : Rf σ σ4 := hRf.tr hM4.rff
  have hc : acode (sF s) 7 0 0 0 0 = if cntS (gst (sF s)) 2 10 ≠ 0 then 7 else 0 := rfl
  refine s_X9_tidy0 hs.1 hR4.1 (fun c => ?_) (fun c τ hM e => ?_)
  · have c0 : acode (sF s) 7 0 0 0 0 = 7 := by rw [hc, if_pos c]
    have := s_fin1 (τ := σ4) (k := 7) (e := 1) (a := 0) (b := 0) (c := 0) (d := 0) (Q2 := fun r_6 σ_7 => ((r_6 = 0 → (Q (nI 0) σ_7)) ∧ (¬ r_6 = 0 → (wp_X9_allZones σ_7 (fun r_9 σ_10 => (Q (nI (zsum (sF s) (gR (sF s))) - r_9) σ_10)))))) hR4 hRf4 (by decide) (by rw [c0]; decide) (Mf.rf _) hR4.1 (by decide) hP (fun τ' q => ⟨fun _ => q, fun t => absurd rfl t⟩)
    rw [c0] at this
    exact this
  · have c0 : acode (sF s) 7 0 0 0 0 = 0 := by rw [hc, if_neg (by omega)]
    refine s_fin0 (k := 7) (e := 1) (a := 0) (b := 0) (c := 0) (d := 0) hR4 hs h64 hRf4 c0 hM e hP (fun τ' hA hf' h28 q => ⟨fun t => absurd t (by decide), fun _ => ?_⟩)
    have hf2 : τ' 245 = trow (sF s) := hf'
    refine s_X9_allZones (trow_good hs.1) hf2 (fun τ2 hL2 => ?_)
    obtain ⟨w1, w2⟩ := fwr_eq hs.1
    rw [show gR (trow (sF s)) = gR (sF s) from gR_updA _ _ _, n_sub w2, w1]
    exact q τ2 hL2.sc.mf hL2.m (hL2.2 0 (by omega))
theorem s_X9_put {σ : St} {s : AS} {x1 x2 : Int32} {Q : Int32 → St → Prop} (h : RR σ s) (hs : Sok s) (hP : PR σ (rPut s x1 x2) Q) : wp_X9_put σ x1 x2 Q := by
  unfold rPut at hP
  unfold wp_X9_put
  refine s_X9_isKey (fun a => ⟨fun _ => s_isR (n := 1000) (by decide) (by decide) (fun b => ⟨fun _ => ?_, fun t => absurd t (by decide)⟩) (fun b => ⟨fun t => absurd rfl t, fun _ => ?_⟩), fun t => absurd t (by decide)⟩) (fun a => ⟨fun t => absurd rfl t, fun _ => ?_⟩)
  · rw [if_pos a, if_pos b] at hP
    obtain ⟨i1, i2⟩ := inR_n (by decide) a
    obtain ⟨j1, j2⟩ := inR_n (by decide) b
    unfold wp_X9_put_28
    intro σ1 h1
    rw [thr_at h1]
    refine ⟨fun _ => s_X9_putsAside (fun σ3 m3 h6 => ?_), fun t => absurd (by decide) t⟩
    have hR3 : RR σ3 s := (h.thr h1).aside m3
    have hRf : Rf σ σ3 := (thr_rf h1).tr (fun b hb => m3 b (by omega))
    have h6' : Eq6 (σ3 246) (sF s) := by rw [← (h.thr h1).1]; exact h6
    generalize hc1 : cl x1 = c1 at *
    generalize hc2 : cl x2 = c2 at *
    rw [i1, j1]
    have hc : acode (sF s) 8 c1 c2 0 0 = if wth (sF s) c1 = 0 then 8 else 0 := rfl
    refine s_X9_put0 hs.1 hR3.1 i2 j2 (fun c τ hM e => ?_) (fun c τ hM e => ?_)
    · have c0 : acode (sF s) 8 c1 c2 0 0 = 8 := by rw [hc, if_pos c]
      have := s_fin1 (τ := τ) (k := 8) (e := 3) (a := c1) (b := c2) (c := 0) (d := 0) (Q2 := fun r_6 σ_7 => ((r_6 = 0 → (Q (nI 0) σ_7)) ∧ (¬ r_6 = 0 → (wp_X9_heldIn σ_7 (nI c1) (fun r_9 => (Q r_9 σ_7)))))) hR3 hRf (by decide) (by rw [c0]; decide) hM e (by decide) hP (fun τ' q => ⟨fun _ => q, fun t => absurd rfl t⟩)
      rw [c0] at this
      exact this
    · have c0 : acode (sF s) 8 c1 c2 0 0 = 0 := by rw [hc, if_neg c]
      refine s_fin0 (k := 8) (e := 3) (a := c1) (b := c2) (c := 0) (d := 0) hR3 hs h6' hRf c0 hM e hP (fun τ' hA hf' h28 q => ⟨fun t => absurd t (by decide), fun _ => ?_⟩)
      have hf2 : τ' 245 = prow (sF s) c1 c2 := hf'
      refine s_X9_heldIn (by rw [hf2]; exact (prow_good hs.1 i2 j2).1) i2 ?_
      have e1 : hm (τ' 245) c1 = wth (sF s) c1 := by
        obtain ⟨-, -, -, -, -, -, -, -, -, e10, -⟩ := prow_acc hs.1.1 i2 j2
        rw [hf2, hm_hmf, ← pth_hmf hs.1.R3]
        exact hmf_ext (fun r hr => by rw [e10 r c1 hr i2])
      rw [e1]
      exact q τ' (Mf.rf τ') rfl rfl
  · rw [if_pos a, if_neg b] at hP
    unfold wp_X9_put_28
    intro σ1 h1
    rw [thr_at h1]
    exact ⟨fun t => absurd t (by decide), fun _ => s_thr h (by decide) hP σ1 h1⟩
  · rw [if_neg a] at hP
    unfold wp_X9_put_28
    intro σ1 h1
    rw [thr_at h1]
    exact ⟨fun t => absurd t (by decide), fun _ => s_thr h (by decide) hP σ1 h1⟩
theorem s_X9_cut {σ : St} {s : AS} {x1 : Int32} {Q : Int32 → St → Prop} (h : RR σ s) (hs : Sok s) (hP : PR σ (rCut s x1) Q) : wp_X9_cut σ x1 Q := by
  unfold rCut at hP
  unfold wp_X9_cut
  refine s_X9_isKey (fun a => ⟨fun t => absurd t (by decide), fun _ => ?_⟩) (fun a => ⟨fun _ => ?_, fun t => absurd rfl t⟩)
  · rw [if_pos a] at hP
    obtain ⟨i1, i2⟩ := inR_n (by decide) a
    unfold wp_X9_cut_13
    intro σ1 h1
    rw [thr_at h1]
    refine ⟨fun _ => s_X9_putsAside (fun σ3 m3 h6 => ?_), fun t => absurd (by decide) t⟩
    have hR3 : RR σ3 s := (h.thr h1).aside m3
    have hRf : Rf σ σ3 := (thr_rf h1).tr (fun b hb => m3 b (by omega))
    have h6' : Eq6 (σ3 246) (sF s) := by rw [← (h.thr h1).1]; exact h6
    generalize hc1 : cl x1 = c1 at *
    rw [i1, n_add, n_cl (by omega)]
    refine ⟨n_in (by omega) (by decide), fun x hx => ?_⟩
    have hc : acode (sF s) 9 c1 0 0 0 = if gsd (sF s) c1 = 0 then 9 else 0 := rfl
    refine s_X9_cut0 hs.1 hR3.1 i2 (fun c => ?_) (fun c τ hM e => ?_)
    · have c0 : acode (sF s) 9 c1 0 0 0 = 9 := by rw [hc, if_pos c]
      have := s_fin1 (τ := σ3) (k := 9) (e := 2) (a := c1) (b := 0) (c := 0) (d := 0) (Q2 := fun r_8 σ_9 => ((r_8 = 0 → (Q (nI 0) σ_9)) ∧ (¬ r_8 = 0 → (Q x σ_9)))) hR3 hRf (by decide) (by rw [c0]; decide) (Mf.rf _) hR3.1 (by decide) hP (fun τ' q => ⟨fun _ => q, fun t => absurd rfl t⟩)
      rw [c0] at this
      exact this
    · have c0 : acode (sF s) 9 c1 0 0 0 = 0 := by rw [hc, if_neg (by omega)]
      refine s_fin0 (k := 9) (e := 2) (a := c1) (b := 0) (c := 0) (d := 0) hR3 hs h6' hRf c0 hM e hP (fun τ' hA hf' h28 q => ⟨fun t => absurd t (by decide), fun _ => ?_⟩)
      have hv := (hs.1.1.2.2.2.2.2.2.1 c1 i2 c).1
      rw [hx, hR3.1, hv]
      exact q τ' (Mf.rf τ') rfl rfl
  · rw [if_neg a] at hP
    unfold wp_X9_cut_13
    intro σ1 h1
    rw [thr_at h1]
    exact ⟨fun t => absurd t (by decide), fun _ => s_thr h (by decide) hP σ1 h1⟩
theorem s_X9_mend {σ : St} {s : AS} {Q : Int32 → St → Prop} (h : RR σ s) (hs : Sok s) (hP : PR σ (rMend s) Q) : wp_X9_mend σ Q := by
  unfold wp_X9_mend
  unfold rMend at hP
  refine s_X9_putsAside (fun σ3 m3 h6 => ?_)
  have hR3 : RR σ3 s := h.aside m3
  have hRf : Rf σ σ3 := fun b hb => m3 b (by omega)
  have h6' : Eq6 (σ3 246) (sF s) := by rw [← h.1]; exact h6
  refine s_X9_mend0 hs.1 hR3.1 (fun τ hM e => ?_)
  exact s_fin0 (k := 10) (e := 1) (a := 0) (b := 0) (c := 0) (d := 0) hR3 hs h6' hRf rfl hM e hP (fun τ' hA hf' h28 q => ⟨fun t => absurd t (by decide), fun _ => q τ' (Mf.rf τ') rfl rfl⟩)
