/-! QUESTIONS: both sides -/
theorem PR.ok {σ σ1 τ : St} {s : AS} {v : Int32} {Q : Int32 → St → Prop} (hP : PR σ (0, v, s) Q) (h : RR σ s) (h1 : σ1 = su σ 244 0 (nI 0)) (hS : Sc σ1 τ) : Q v τ := by
  have hR1 := h.thr h1
  exact hP τ v ((thr_rf h1).tr hS.mf.rff) (hR1.same hS.mf (by rw [hS.m]; exact hR1.1)) (by rw [hS.2 0 (by decide)]; exact thr_at h1) (fun _ => rfl)
theorem PC.ok {σ : St} {s : AS} {v : Int32} {ex : Nat → String} {QX : String → St → Prop} {Q : Int32 → St → Prop} (hP : PC σ (0, v, s) ex QX Q) (h : CR σ s) : Q v σ := hP.1 rfl σ (Cf.rf σ) h
theorem PC.sc {σ τ : St} {s : AS} {v : Int32} {ex : Nat → String} {QX : String → St → Prop} {Q : Int32 → St → Prop} (hP : PC σ (0, v, s) ex QX Q) (h : CR σ s) (hs : Sok s) (e : ∀ b, b < 176 ∨ 180 < b → τ b = σ b) : Q v τ := by
  obtain ⟨A, B, F, h⟩ := h
  exact hP.1 rfl τ (fun b hb => e b (by omega)) ⟨A, B, F, h.congr hs (fun b hb => e b hb.2.2.2.2.1)⟩
theorem CR.net {σ : St} {s : AS} (h : CR σ s) : ∃ A, (σ 0 8).toNatClampNeg = A ∧ lay A = (1, 0) ∧ NetRep σ A (sF s) ∧ 180 < A := by
  obtain ⟨A, B, F, h⟩ := h
  have := h.nA
  exact ⟨A, (nowlay h).1, (nowlay h).2, h.2.2.2.2.1, by omega⟩
theorem s_X8_checkReality {σ : St} {s : AS} {x : Int32} {QX : String → St → Prop} {Q : Prop} (h : CR σ s) (h1 : inR x (gR (sF s)) → Q) (h0 : ¬ inR x (gR (sF s)) → QX sIOB σ) : wp_X8_checkReality σ x QX Q := by
  obtain ⟨A, e, l, hN, -⟩ := h.net
  unfold wp_X8_checkReality
  rw [e, hN.re]
  exact ⟨fun a => h0 (fun q => q.1 a), fun a => ⟨l, fun b => h1 ⟨a, b⟩, fun b => h0 (fun q => b q.2)⟩⟩
theorem s_X9_isReality {σ : St} {s : AS} {x : Int32} {Q : Int32 → Prop} (h : RR σ s) (hs : Sok s) (h1 : inR x (gR (sF s)) → Q (nI 1)) (h0 : ¬ inR x (gR (sF s)) → Q (nI 0)) : wp_X9_isReality σ x Q := by
  have hR := hs.1.1.2.2.2.2.1
  unfold wp_X9_isReality
  rw [h.1, hR.1, n_sub (by omega)]
  exact s_isR (n := gR (sF s)) (by omega) (by omega) (fun a => ⟨Or.inr (by decide), h1 a⟩) (fun a => ⟨Or.inl (by decide), h0 a⟩)
theorem s_X8_checkCell {σ : St} {x y : Int32} {QX : String → St → Prop} {Q : Prop} (h1 : inR x 32 ∧ inR y 32 → Q) (h0 : ¬ (inR x 32 ∧ inR y 32) → QX sIAE σ) : wp_X8_checkCell σ x y QX Q := by
  unfold wp_X8_checkCell
  exact s_X8_isCell (fun a => ⟨fun _ => h1 a, fun t => absurd t (by decide)⟩) (fun a => ⟨fun t => absurd rfl t, fun _ => h0 a⟩)
theorem inR_R {s : AS} (hs : Sok s) {x : Int32} (h : inR x (gR (sF s))) : x = nI (cl x) ∧ cl x < gR (sF s) ∧ cl x < 3 := by
  have hR := hs.1.R3
  obtain ⟨a, b⟩ := inR_n (by omega) h
  exact ⟨a, b, by omega⟩
/-! node -/
def qNode (f : Nat → Int32) (n w : Nat) : Int32 := if w = 0 then nI (gst f n) else if gst f n = 0 then -1 else if w = 1 then nI (gpx f n) else nI (gpy f n)
def rNode (s : AS) (x1 x2 : Int32) : RS := if inR x1 10 then (if inR x2 3 then (0, qNode (sF s) (cl x1) (cl x2), s) else (2, 0, s)) else (1, 0, s)
theorem s_X8_node {σ : St} {s : AS} {x1 x2 : Int32} {QX : String → St → Prop} {Q : Int32 → St → Prop} (h : CR σ s) (hs : Sok s) (hP : PC σ (rNode s x1 x2) (ex3 sIOB sNSE sNSE) QX Q) : wp_X8_node σ x1 x2 QX (fun r => Q r σ) := by
  obtain ⟨A, e, l, hN, -⟩ := h.net
  unfold rNode at hP
  unfold wp_X8_node
  refine s_X8_checkNode (fun a => s_X8_checkWhat (fun b => ?_) (fun b => ?_)) (fun a => ?_)
  · rw [if_pos a, if_pos b] at hP
    have hq := hP.ok h
    obtain ⟨i1, i2⟩ := inR_n (by decide) a
    obtain ⟨j1, j2⟩ := inR_n (by decide) b
    generalize hc1 : cl x1 = c1 at *
    generalize hc2 : cl x2 = c2 at *
    have g2 := (hs.1.1.1 c1 i2).2
    unfold qNode at hq
    rw [i1, j1, e, n_cl (by omega), hN.st c1 i2, n_eq0 (by omega), n_eq0 (by omega), n_eq (by omega) (by decide)]
    refine ⟨fun c => ⟨l, n_in i2 (by decide), fun d => ⟨fun d2 => ⟨l, n_in i2 (by decide), ?_⟩, fun d2 => ⟨l, n_in i2 (by decide), ?_⟩⟩, fun d => ?_⟩, fun c => ⟨l, n_in i2 (by decide), ?_⟩⟩
    · rw [hN.py c1 i2 d]; rw [if_neg c, if_neg d, if_neg d2] at hq; exact hq
    · rw [hN.px c1 i2 d]; rw [if_neg c, if_neg d, if_pos d2] at hq; exact hq
    · rw [if_neg c, if_pos d] at hq; exact hq
    · rw [if_pos c] at hq; exact hq
  · rw [if_pos a, if_neg b] at hP
    exact hP.no (by decide) h rfl
  · rw [if_neg a] at hP
    exact hP.no (by decide) h rfl
theorem s_X9_node {σ : St} {s : AS} {x1 x2 : Int32} {Q : Int32 → St → Prop} (h : RR σ s) (hs : Sok s) (hP : PR σ (rNode s x1 x2) Q) : wp_X9_node σ x1 x2 Q := by
  unfold rNode at hP
  unfold wp_X9_node
  refine s_X9_isNode (fun a => ⟨fun _ => s_isR (n := 3) (by decide) (by decide) (fun b => ⟨fun _ => ?_, fun t => absurd t (by decide)⟩) (fun b => ⟨fun t => absurd rfl t, fun _ => ?_⟩), fun t => absurd t (by decide)⟩) (fun a => ⟨fun t => absurd rfl t, fun _ => ?_⟩)
  · rw [if_pos a, if_pos b] at hP
    unfold wp_X9_node_26
    intro σ1 h1
    rw [thr_at h1]
    refine ⟨fun _ => ?_, fun t => absurd (by decide) t⟩
    have hR1 := h.thr h1
    have hq := hP.ok h h1 (Sc.rf σ1)
    obtain ⟨i1, i2⟩ := inR_n (by decide) a
    obtain ⟨j1, j2⟩ := inR_n (by decide) b
    generalize hc1 : cl x1 = c1 at *
    generalize hc2 : cl x2 = c2 at *
    have g2 := hs.1.1.1 c1 i2
    have gp := hs.1.1.2.1 c1 i2
    unfold qNode at hq
    rw [i1, j1, n_add, n_add, n_add, n_cl (by omega), n_cl (by omega), n_cl (by omega), n_eq0 (by omega), n_eq (by omega) (by decide), hR1.1, Nat.zero_add]
    refine ⟨fun c => s_X9_isState (by rw [hR1.1]; exact hs.1.1) i2 (by decide) (fun d => ⟨fun t => absurd t (by decide), fun _ => ?_⟩) (fun d => ⟨fun _ => ⟨fun d2 => ⟨n_in (by omega) (by decide), ?_⟩, fun d2 => ⟨n_in (by omega) (by decide), ?_⟩⟩, fun t => absurd rfl t⟩), fun c => ⟨n_in (by omega) (by decide), ?_⟩⟩
    · rw [hR1.1] at d
      rw [if_neg c, if_pos d] at hq; exact hq
    · rw [hR1.1] at d
      rw [(gp d).2.1]; rw [if_neg c, if_neg d, if_neg d2] at hq; exact hq
    · rw [hR1.1] at d
      rw [(gp d).1.1]; rw [if_neg c, if_neg d, if_pos d2] at hq; exact hq
    · rw [g2.1]; rw [if_pos c] at hq; exact hq
  · rw [if_pos a, if_neg b] at hP
    unfold wp_X9_node_26
    intro σ1 h1
    rw [thr_at h1]
    exact ⟨fun t => absurd t (by decide), fun _ => s_thr h (by decide) hP σ1 h1⟩
  · rw [if_neg a] at hP
    unfold wp_X9_node_26
    intro σ1 h1
    rw [thr_at h1]
    exact ⟨fun t => absurd t (by decide), fun _ => s_thr h (by decide) hP σ1 h1⟩
/-! zone, heir -/
def rZone (s : AS) (x1 x2 x3 : Int32) : RS := if inR x1 10 ∧ inR x2 (gR (sF s)) then (0, zof (gow (sF s) (cl x2)) (cl x1) x3, s) else (1, 0, s)
theorem s_X8_zone {σ : St} {s : AS} {x1 x2 x3 : Int32} {QX : String → St → Prop} {Q : Int32 → St → Prop} (h : CR σ s) (hs : Sok s) (hP : PC σ (rZone s x1 x2 x3) (ex3 sIOB sIOB sIOB) QX Q) : wp_X8_zone σ x1 x2 x3 QX (fun r => Q r σ) := by
  obtain ⟨A, e, l, hN, -⟩ := h.net
  unfold rZone at hP
  unfold wp_X8_zone
  refine s_X8_checkNode (fun a => s_X8_checkReality h (fun b => ?_) (fun b => ?_)) (fun a => ?_)
  · rw [if_pos ⟨a, b⟩] at hP
    have hq := hP.ok h
    obtain ⟨i1, i2⟩ := inR_n (by decide) a
    obtain ⟨j1, j2, j3⟩ := inR_R hs b
    rw [e]
    generalize hc1 : cl x1 = c1 at *
    generalize hc2 : cl x2 = c2 at *
    rw [i1, j1, n_cl (by omega)]
    exact ⟨l, n_in j3 (by decide), s_X4_zoneOf (hN.sp c2 j2) (hs.1.2 c2 j2).1.1 i2 hq⟩
  · rw [if_neg (fun q => b q.2)] at hP
    exact hP.no (by decide) h rfl
  · rw [if_neg (fun q => a q.1)] at hP
    exact hP.no (by decide) h rfl
theorem s_X9_zone {σ : St} {s : AS} {x1 x2 x3 : Int32} {Q : Int32 → St → Prop} (h : RR σ s) (hs : Sok s) (hP : PR σ (rZone s x1 x2 x3) Q) : wp_X9_zone σ x1 x2 x3 Q := by
  unfold rZone at hP
  unfold wp_X9_zone wp_X9_zone_20
  refine s_X9_isNode (fun a => ⟨fun t => absurd t (by decide), fun _ => s_X9_isReality h hs (fun b => ⟨fun t => absurd t (by decide), fun _ => ?_⟩) (fun b => ⟨fun _ => ?_, fun t => absurd rfl t⟩)⟩) (fun a => ⟨fun _ => ?_, fun t => absurd rfl t⟩)
  · rw [if_pos ⟨a, b⟩] at hP
    unfold wp_X9_zone_21
    intro σ1 h1
    rw [thr_at h1]
    refine ⟨fun _ => ?_, fun t => absurd (by decide) t⟩
    have hR1 := h.thr h1
    have hq := hP.ok h h1 (Sc.rf σ1)
    obtain ⟨i1, i2⟩ := inR_n (by decide) a
    obtain ⟨j1, j2, j3⟩ := inR_R hs b
    generalize hc1 : cl x1 = c1 at *
    generalize hc2 : cl x2 = c2 at *
    rw [i1, j1]
    refine s_X9_zoneOf (by rw [hR1.1]; exact hs.1.1) (by rw [hR1.1]; exact (hs.1.2 c2 j2).1.1) (by rw [hR1.1]; exact j2) i2 ?_
    rw [hR1.1]; exact hq
  · rw [if_neg (fun q => b q.2)] at hP
    unfold wp_X9_zone_21
    intro σ1 h1
    rw [thr_at h1]
    exact ⟨fun t => absurd t (by decide), fun _ => s_thr h (by decide) hP σ1 h1⟩
  · rw [if_neg (fun q => a q.1)] at hP
    unfold wp_X9_zone_21
    intro σ1 h1
    rw [thr_at h1]
    exact ⟨fun t => absurd t (by decide), fun _ => s_thr h (by decide) hP σ1 h1⟩
def qHeir (f : Nat → Int32) (r p : Nat) (k : Int32) : Int32 := if zof (gow f r) p k = -1 then -1 else nO (heir (gow f r) (cl (zof (gow f r) p k)) (rest (gst f) p))
def rHeir (s : AS) (x1 x2 x3 : Int32) : RS := if inR x1 10 ∧ inR x2 (gR (sF s)) then (0, qHeir (sF s) (cl x2) (cl x1) x3, s) else (1, 0, s)
theorem zof_ok {o : Nat → Nat} {p : Nat} {k : Int32} (h : zof o p k ≠ -1) : ∃ z, zof o p k = nI z ∧ z < 2048 ∧ o z = p + 1 := by
  unfold zof at h ⊢
  by_cases c : 0 ≤ k ∧ k.toNatClampNeg < cnt o p
  · rw [if_pos c] at h ⊢
    have := zlp_mem.mp (getD_mem (d := 0) (show k.toNatClampNeg < (zlp o p 2048).length by rw [cnt_eq]; exact c.2))
    exact ⟨_, rfl, this.1, this.2⟩
  · rw [if_neg c] at h; exact absurd rfl h
theorem Good.pt2 {f : Nat → Int32} (hf : Good f) {r z p : Nat} (hr : r < gR f) (hz : z < 2048) (ho : gow f r z = p + 1) : PT (gow f r) := hf.pt ⟨p, by have := (hf.2 r hr).1.1.1 z hz; omega, (hf.2 r hr).1.2.2.2 z p hz ho⟩ hr
theorem s_X8_heir {σ : St} {s : AS} {x1 x2 x3 : Int32} {QX : String → St → Prop} {Q : Int32 → St → Prop} (h : CR σ s) (hs : Sok s) (hP : PC σ (rHeir s x1 x2 x3) (ex3 sIOB sIOB sIOB) QX Q) : wp_X8_heir σ x1 x2 x3 QX (fun r => Q r σ) := by
  obtain ⟨A, e, l, hN, -⟩ := h.net
  unfold rHeir at hP
  unfold wp_X8_heir
  refine s_X8_checkNode (fun a => s_X8_checkReality h (fun b => ?_) (fun b => ?_)) (fun a => ?_)
  · rw [if_pos ⟨a, b⟩] at hP
    have hq := hP.ok h
    obtain ⟨i1, i2⟩ := inR_n (by decide) a
    obtain ⟨j1, j2, j3⟩ := inR_R hs b
    rw [e]
    generalize hc1 : cl x1 = c1 at *
    generalize hc2 : cl x2 = c2 at *
    rw [i1, j1, n_cl (by omega)]
    refine ⟨l, n_in j3 (by decide), s_X4_zoneOf (hN.sp c2 j2) (hs.1.2 c2 j2).1.1 i2 ?_⟩
    unfold qHeir at hq
    refine ⟨fun c => ⟨l, s_X1_nodesThatAre hN.st (fun n hn => (hs.1.1.1 n hn).2) (by decide) ?_⟩, fun c => ?_⟩
    · obtain ⟨z, e1, e2, e3⟩ := zof_ok c
      have hP2 := hs.1.pt2 j2 e2 e3
      rw [if_neg c, e1, show cl (nI z) = z from n_cl (by omega)] at hq
      rw [e1, n_clr (by omega)]
      exact s_X4_heirOf (hN.sp c2 j2) hP2.1 hP2.2.1 hP2.2.2 e2 (by omega) (rest_lt _ _) (by rw [e3, Nat.add_sub_cancel]; exact rest_p _ _) hq
    · rw [if_pos c] at hq; exact hq
  · rw [if_neg (fun q => b q.2)] at hP
    exact hP.no (by decide) h rfl
  · rw [if_neg (fun q => a q.1)] at hP
    exact hP.no (by decide) h rfl
theorem s_X9_heir {σ : St} {s : AS} {x1 x2 x3 : Int32} {Q : Int32 → St → Prop} (h : RR σ s) (hs : Sok s) (hP : PR σ (rHeir s x1 x2 x3) Q) : wp_X9_heir σ x1 x2 x3 Q := by
  unfold rHeir at hP
  unfold wp_X9_heir wp_X9_heir_20
  refine s_X9_isNode (fun a => ⟨fun t => absurd t (by decide), fun _ => s_X9_isReality h hs (fun b => ⟨fun t => absurd t (by decide), fun _ => ?_⟩) (fun b => ⟨fun _ => ?_, fun t => absurd rfl t⟩)⟩) (fun a => ⟨fun _ => ?_, fun t => absurd rfl t⟩)
  · rw [if_pos ⟨a, b⟩] at hP
    unfold wp_X9_heir_21
    intro σ1 h1
    rw [thr_at h1]
    refine ⟨fun _ => ?_, fun t => absurd (by decide) t⟩
    have hR1 := h.thr h1
    obtain ⟨i1, i2⟩ := inR_n (by decide) a
    obtain ⟨j1, j2, j3⟩ := inR_R hs b
    generalize hc1 : cl x1 = c1 at *
    generalize hc2 : cl x2 = c2 at *
    rw [i1, j1]
    have hob := (hs.1.2 c2 j2).1.1
    refine s_X9_zoneOf (by rw [hR1.1]; exact hs.1.1) (by rw [hR1.1]; exact hob) (by rw [hR1.1]; exact j2) i2 ?_
    rw [hR1.1]
    unfold qHeir at hP
    refine ⟨fun c => ?_, fun c => ?_⟩
    · obtain ⟨z, e1, e2, e3⟩ := zof_ok c
      rw [if_neg c, e1, show cl (nI z) = z from n_cl (by omega)] at hP
      rw [e1]
      refine s_X9_heirOf (by rw [hR1.1]; exact hs.1.1) (by rw [hR1.1]; exact hob) (by rw [hR1.1]; exact j2) e2 (by rw [hR1.1, e3]; omega) i2 (fun τ hL => ?_)
      rw [hR1.1]
      exact hP.ok h h1 hL.sc
    · rw [if_pos c] at hP
      exact hP.ok h h1 (Sc.rf σ1)
  · rw [if_neg (fun q => b q.2)] at hP
    unfold wp_X9_heir_21
    intro σ1 h1
    rw [thr_at h1]
    exact ⟨fun t => absurd t (by decide), fun _ => s_thr h (by decide) hP σ1 h1⟩
  · rw [if_neg (fun q => a q.1)] at hP
    unfold wp_X9_heir_21
    intro σ1 h1
    rw [thr_at h1]
    exact ⟨fun t => absurd t (by decide), fun _ => s_thr h (by decide) hP σ1 h1⟩
/-! box -/
def inB (x : Int32) : Prop := ¬ x < nI 1 ∧ x < nI 2048
theorem inB_n {x : Int32} (h : ¬ x < nI 1 ∧ x < nI 2048) : x = nI (cl x) ∧ 1 ≤ cl x ∧ cl x < 2048 := by
  have h0 : ¬ x < 0 := fun q => h.1 (Int32.lt_of_lt_of_le q (by decide))
  obtain ⟨e, hk⟩ := inR_n (n := 2048) (by decide) ⟨h0, h.2⟩
  refine ⟨e, ?_, hk⟩
  have := h.1
  rw [e, n_lt (by omega) (by decide)] at this
  omega
def qBox (z w : Nat) : Int32 := if w = 0 then nI (zd z) else if w = 1 then nI (zx z) else if w = 2 then nI (zy z) else if w = 3 then nI (zw z) else nI (zh z)
def rBox (s : AS) (x1 x2 : Int32) : RS := if ¬ x1 < nI 1 ∧ x1 < nI 2048 then (if inR x2 5 then (0, qBox (cl x1) (cl x2), s) else (2, 0, s)) else (1, 0, s)
theorem s_X8_box {σ : St} {s : AS} {x1 x2 : Int32} {QX : String → St → Prop} {Q : Int32 → St → Prop} (h : CR σ s) (hP : PC σ (rBox s x1 x2) (ex3 sIAE sNSE sNSE) QX Q) : wp_X8_box σ x1 x2 QX (fun r => Q r σ) := by
  unfold rBox at hP
  unfold wp_X8_box
  have no : ¬ (¬ x1 < nI 1 ∧ x1 < nI 2048) → QX sIAE σ := fun c => by
    rw [if_neg c] at hP
    exact hP.no (by decide) h rfl
  refine ⟨fun a => no (fun q => q.1 a), fun a => ⟨fun b => s_X8_checkWhat (fun c => ?_) (fun c => ?_), fun b => no (fun q => b q.2)⟩⟩
  · rw [if_pos ⟨a, b⟩, if_pos c] at hP
    have hq := hP.ok h
    obtain ⟨i1, i2, i3⟩ := inB_n ⟨a, b⟩
    obtain ⟨j1, j2⟩ := inR_n (by decide) c
    generalize hc1 : cl x1 = c1 at *
    generalize hc2 : cl x2 = c2 at *
    unfold qBox at hq
    rw [i1, j1]
    refine s_X4_depthOf i2 i3 ?_
    rw [n_eq (by omega) (by decide), n_eq (by omega) (by decide), n_eq (by omega) (by decide), n_eq (by omega) (by decide)]
    refine ⟨fun d => ?_, fun d => ⟨fun d1 => s_X4_leastX i2 i3 ?_, fun d1 => ⟨fun d2 => s_X4_leastY i2 i3 ?_, fun d2 => ⟨fun d3 => s_X4_wide i2 i3 ?_, fun d3 => s_X4_high i2 i3 ?_⟩⟩⟩⟩
    · rw [if_pos d] at hq; exact hq
    · rw [if_neg d, if_pos d1] at hq; exact hq
    · rw [if_neg d, if_neg d1, if_pos d2] at hq; exact hq
    · rw [if_neg d, if_neg d1, if_neg d2, if_pos d3] at hq; exact hq
    · rw [if_neg d, if_neg d1, if_neg d2, if_neg d3] at hq; exact hq
  · rw [if_pos ⟨a, b⟩, if_neg c] at hP
    exact hP.no (by decide) h rfl
theorem lt1_iff {x : Int32} : nI 1 ≤ x ↔ ¬ x < nI 1 := Int32.not_lt.symm
theorem s_X9_box {σ : St} {s : AS} {x1 x2 : Int32} {Q : Int32 → St → Prop} (h : RR σ s) (hP : PR σ (rBox s x1 x2) Q) : wp_X9_box σ x1 x2 Q := by
  unfold rBox at hP
  unfold wp_X9_box
  have le2047 : x1 ≤ nI 2047 ↔ x1 < nI 2048 := le_pred (n := 2048) (by decide) (by decide)
  refine s_X9_isIn (fun a b => ⟨fun _ => s_isR (n := 5) (by decide) (by decide) (fun c => ⟨fun _ => ?_, fun t => absurd t (by decide)⟩) (fun c => ⟨fun t => absurd rfl t, fun _ => ?_⟩), fun t => absurd t (by decide)⟩) (fun q => ⟨fun t => absurd rfl t, fun _ => ?_⟩)
  · have a' := lt1_iff.mp a
    have b' := le2047.mp b
    rw [if_pos ⟨a', b'⟩, if_pos c] at hP
    unfold wp_X9_box_30
    intro σ1 h1
    rw [thr_at h1]
    refine ⟨fun _ => ?_, fun t => absurd (by decide) t⟩
    have hR1 := h.thr h1
    obtain ⟨i1, i2, i3⟩ := inB_n ⟨a', b'⟩
    obtain ⟨j1, j2⟩ := inR_n (by decide) c
    generalize hc1 : cl x1 = c1 at *
    generalize hc2 : cl x2 = c2 at *
    rw [i1, j1]
    refine s_X9_boxes i2 i3 ?_
    have hq := hP.ok h h1 (Bx.bxs σ1 c1).sc
    unfold qBox at hq
    rw [n_eq (by omega) (by decide), n_eq (by omega) (by decide), n_eq (by omega) (by decide), n_eq (by omega) (by decide), bx_13, bx_14, bx_15, bx_16]
    refine ⟨fun d => s_X9_depthOf i2 i3 ?_, fun d => ⟨fun d1 => ?_, fun d1 => ⟨fun d2 => ?_, fun d2 => ⟨fun d3 => ?_, fun d3 => ?_⟩⟩⟩⟩
    · rw [if_pos d] at hq; exact hq
    · rw [if_neg d, if_pos d1] at hq; exact hq
    · rw [if_neg d, if_neg d1, if_pos d2] at hq; exact hq
    · rw [if_neg d, if_neg d1, if_neg d2, if_pos d3] at hq; exact hq
    · rw [if_neg d, if_neg d1, if_neg d2, if_neg d3] at hq; exact hq
  · rw [if_pos ⟨lt1_iff.mp a, le2047.mp b⟩, if_neg c] at hP
    unfold wp_X9_box_30
    intro σ1 h1
    rw [thr_at h1]
    exact ⟨fun t => absurd t (by decide), fun _ => s_thr h (by decide) hP σ1 h1⟩
  · rw [if_neg (fun t => q ⟨lt1_iff.mpr t.1, le2047.mpr t.2⟩)] at hP
    unfold wp_X9_box_30
    intro σ1 h1
    rw [thr_at h1]
    exact ⟨fun t => absurd t (by decide), fun _ => s_thr h (by decide) hP σ1 h1⟩
/-! cell -/
def qCell (f : Nat → Int32) (r x y w : Nat) : Int32 := if w = 0 then (if zat (gow f r) (cn x y) = 0 then -1 else nI (zat (gow f r) (cn x y))) else nI (gow f r (zat (gow f r) (cn x y))) - nI 1
def rCell (s : AS) (x1 x2 x3 x4 : Int32) : RS := if inR x1 (gR (sF s)) then (if inR x2 32 ∧ inR x3 32 then (if inR x4 2 then (0, qCell (sF s) (cl x1) (cl x2) (cl x3) (cl x4), s) else (3, 0, s)) else (2, 0, s)) else (1, 0, s)
theorem s_X8_cell {σ : St} {s : AS} {x1 x2 x3 x4 : Int32} {QX : String → St → Prop} {Q : Int32 → St → Prop} (h : CR σ s) (hs : Sok s) (hP : PC σ (rCell s x1 x2 x3 x4) (ex3 sIOB sIAE sNSE) QX Q) : wp_X8_cell σ x1 x2 x3 x4 QX (fun r => Q r σ) := by
  obtain ⟨A, e, l, hN, -⟩ := h.net
  unfold rCell at hP
  unfold wp_X8_cell
  refine s_X8_checkReality h (fun a => s_X8_checkCell (fun b => s_X8_checkWhat (fun c => ?_) (fun c => ?_)) (fun b => ?_)) (fun a => ?_)
  · rw [if_pos a, if_pos b, if_pos c] at hP
    have hq := hP.ok h
    obtain ⟨i1, i2, i3⟩ := inR_R hs a
    obtain ⟨j1, j2⟩ := inR_n (by decide) b.1
    obtain ⟨k1, k2⟩ := inR_n (by decide) b.2
    obtain ⟨m1, m2⟩ := inR_n (by decide) c
    rw [e]
    generalize hc1 : cl x1 = c1 at *
    generalize hc2 : cl x2 = c2 at *
    generalize hc3 : cl x3 = c3 at *
    generalize hc4 : cl x4 = c4 at *
    have hob := (hs.1.2 c1 i2).1.1
    have hzl := zat_lt (o := gow (sF s) c1) (cn_lt j2 k2).2
    unfold qCell at hq
    rw [i1, j1, k1, m1, n_cl (by omega), n_eq (by omega) (by decide)]
    refine ⟨l, n_in i3 (by decide), fun d => s_X4_zoneAt (X := c2) (Y := c3) (hN.sp c1 i2).1 hob (by rw [n_and31, Nat.mod_eq_of_lt j2]) j2 (by rw [n_and31, Nat.mod_eq_of_lt k2]) k2 ?_, fun d => s_X4_nodeAt (X := c2) (Y := c3) (hN.sp c1 i2).1 hob (by rw [n_and31, Nat.mod_eq_of_lt j2]) j2 (by rw [n_and31, Nat.mod_eq_of_lt k2]) k2 ?_⟩
    · rw [if_pos (by omega)] at hq
      rw [n_eq0 (by omega)]
      exact ⟨fun t => by rw [if_neg t] at hq; exact hq, fun t => by rw [if_pos t] at hq; exact hq⟩
    · rw [if_neg (by omega)] at hq; exact hq
  · rw [if_pos a, if_pos b, if_neg c] at hP
    exact hP.no (by decide) h rfl
  · rw [if_pos a, if_neg b] at hP
    exact hP.no (by decide) h rfl
  · rw [if_neg a] at hP
    exact hP.no (by decide) h rfl
theorem s_X9_cell {σ : St} {s : AS} {x1 x2 x3 x4 : Int32} {Q : Int32 → St → Prop} (h : RR σ s) (hs : Sok s) (hP : PR σ (rCell s x1 x2 x3 x4) Q) : wp_X9_cell σ x1 x2 x3 x4 Q := by
  unfold rCell at hP
  unfold wp_X9_cell
  refine s_X9_isReality h hs (fun a => ⟨fun _ => s_X9_isCell (fun b => ⟨fun _ => s_isR (n := 2) (by decide) (by decide) (fun c => ⟨fun _ => ?_, fun t => absurd t (by decide)⟩) (fun c => ⟨fun t => absurd rfl t, fun _ => ?_⟩), fun t => absurd t (by decide)⟩) (fun b => ⟨fun t => absurd rfl t, fun _ => ?_⟩), fun t => absurd t (by decide)⟩) (fun a => ⟨fun t => absurd rfl t, fun _ => ?_⟩)
  · rw [if_pos a, if_pos b, if_pos c] at hP
    unfold wp_X9_cell_40
    intro σ1 h1
    rw [thr_at h1]
    refine ⟨fun _ => ?_, fun t => absurd (by decide) t⟩
    have hR1 := h.thr h1
    obtain ⟨i1, i2, i3⟩ := inR_R hs a
    obtain ⟨j1, j2⟩ := inR_n (by decide) b.1
    obtain ⟨k1, k2⟩ := inR_n (by decide) b.2
    obtain ⟨m1, m2⟩ := inR_n (by decide) c
    generalize hc1 : cl x1 = c1 at *
    generalize hc2 : cl x2 = c2 at *
    generalize hc3 : cl x3 = c3 at *
    generalize hc4 : cl x4 = c4 at *
    rw [i1, j1, k1, m1, n_eq0 (by omega)]
    have hG : G0 (σ1 245) c1 := by rw [hR1.1]; exact hs.1.g0 i2
    have hr : c1 < gR (σ1 245) := by rw [hR1.1]; exact i2
    unfold qCell at hP
    refine ⟨fun d => s_X9_nodeAt hG hr j2 k2 (fun τ hB => ?_), fun d => s_X9_zoneAt hG hr j2 k2 (fun hn => ?_) (fun hn τ hB => ?_)⟩
    · rw [if_neg d] at hP
      rw [hR1.1]
      exact hP.ok h h1 hB.sc
    · rw [hR1.1] at hn
      rw [if_pos d, zat_none (fun z => hs.1.no hn i2 z), if_pos rfl] at hP
      exact hP.ok h h1 (Sc.rf σ1)
    · rw [hR1.1] at hn
      obtain ⟨i, hi, ez, hne⟩ := zat_some (hs.1.pt hn i2).2.1 (cn_lt j2 k2).1 (cn_lt j2 k2).2
      rw [← ez] at hne
      have hz1 := PT.pos (hs.1.2 c1 i2).1.1 hne
      rw [if_pos d, if_neg (by omega)] at hP
      rw [hR1.1]
      exact hP.ok h h1 hB.sc
  · rw [if_pos a, if_pos b, if_neg c] at hP
    unfold wp_X9_cell_40
    intro σ1 h1
    rw [thr_at h1]
    exact ⟨fun t => absurd t (by decide), fun _ => s_thr h (by decide) hP σ1 h1⟩
  · rw [if_pos a, if_neg b] at hP
    unfold wp_X9_cell_40
    intro σ1 h1
    rw [thr_at h1]
    exact ⟨fun t => absurd t (by decide), fun _ => s_thr h (by decide) hP σ1 h1⟩
  · rw [if_neg a] at hP
    unfold wp_X9_cell_40
    intro σ1 h1
    rw [thr_at h1]
    exact ⟨fun t => absurd t (by decide), fun _ => s_thr h (by decide) hP σ1 h1⟩
/-! key, point, order -/
def qKey (f : Nat → Int32) (k w : Nat) : Int32 := if w = 0 then (if gsd f k = 1 then nI (gva f k) else -1) else nI (hm f k)
def rKey (s : AS) (x1 x2 : Int32) : RS := if inR x1 100 then (if inR x2 2 then (0, qKey (sF s) (cl x1) (cl x2), s) else (2, 0, s)) else (1, 0, s)
theorem s_X8_key {σ : St} {s : AS} {x1 x2 : Int32} {QX : String → St → Prop} {Q : Int32 → St → Prop} (h : CR σ s) (hP : PC σ (rKey s x1 x2) (ex3 sIOB sNSE sNSE) QX Q) : wp_X8_key σ x1 x2 QX (fun r => Q r σ) := by
  obtain ⟨A, e, l, hN, -⟩ := h.net
  unfold rKey at hP
  unfold wp_X8_key
  refine s_X8_checkKey (fun a => s_X8_checkWhat (fun b => ?_) (fun b => ?_)) (fun a => ?_)
  · rw [if_pos a, if_pos b] at hP
    have hq := hP.ok h
    obtain ⟨i1, i2⟩ := inR_n (by decide) a
    obtain ⟨j1, j2⟩ := inR_n (by decide) b
    rw [e]
    generalize hc1 : cl x1 = c1 at *
    generalize hc2 : cl x2 = c2 at *
    unfold qKey at hq
    rw [i1, j1, n_cl (by omega), n_eq0 (by omega), hN.hd c1 i2, hN.va c1 i2]
    exact ⟨fun c => ⟨l, n_in i2 (by decide), by rw [if_neg c] at hq; exact hq⟩, fun c => ⟨l, n_in i2 (by decide), by rw [if_pos c] at hq; exact hq⟩⟩
  · rw [if_pos a, if_neg b] at hP
    exact hP.no (by decide) h rfl
  · rw [if_neg a] at hP
    exact hP.no (by decide) h rfl
theorem s_X9_key {σ : St} {s : AS} {x1 x2 : Int32} {Q : Int32 → St → Prop} (h : RR σ s) (hs : Sok s) (hP : PR σ (rKey s x1 x2) Q) : wp_X9_key σ x1 x2 Q := by
  unfold rKey at hP
  unfold wp_X9_key
  refine s_X9_isKey (fun a => ⟨fun _ => s_isR (n := 2) (by decide) (by decide) (fun b => ⟨fun _ => ?_, fun t => absurd t (by decide)⟩) (fun b => ⟨fun t => absurd rfl t, fun _ => ?_⟩), fun t => absurd t (by decide)⟩) (fun a => ⟨fun t => absurd rfl t, fun _ => ?_⟩)
  · rw [if_pos a, if_pos b] at hP
    unfold wp_X9_key_26
    intro σ1 h1
    rw [thr_at h1]
    refine ⟨fun _ => ?_, fun t => absurd (by decide) t⟩
    have hR1 := h.thr h1
    have hq := hP.ok h h1 (Sc.rf σ1)
    obtain ⟨i1, i2⟩ := inR_n (by decide) a
    obtain ⟨j1, j2⟩ := inR_n (by decide) b
    generalize hc1 : cl x1 = c1 at *
    generalize hc2 : cl x2 = c2 at *
    have g6 := hs.1.1.2.2.2.2.2.1 c1 i2
    have g7 := hs.1.1.2.2.2.2.2.2.1 c1 i2
    unfold qKey at hq
    rw [i1, j1, n_add, n_add, n_cl (by omega), n_cl (by omega), n_eq (by omega) (by decide)]
    refine ⟨fun c => ⟨n_in (by omega) (by decide), ?_⟩, fun c => s_X9_heldIn (by rw [hR1.1]; exact hs.1.1) i2 ?_⟩
    · rw [hR1.1, g6.1, n_eq (by omega) (by decide)]
      rw [if_pos (by omega)] at hq
      refine ⟨fun d => by rw [if_neg d] at hq; exact hq, fun d => ⟨n_in (by omega) (by decide), ?_⟩⟩
      rw [(g7 d).1]
      rw [if_pos d] at hq; exact hq
    · rw [hR1.1]
      rw [if_neg (by omega)] at hq; exact hq
  · rw [if_pos a, if_neg b] at hP
    unfold wp_X9_key_26
    intro σ1 h1
    rw [thr_at h1]
    exact ⟨fun t => absurd t (by decide), fun _ => s_thr h (by decide) hP σ1 h1⟩
  · rw [if_neg a] at hP
    unfold wp_X9_key_26
    intro σ1 h1
    rw [thr_at h1]
    exact ⟨fun t => absurd t (by decide), fun _ => s_thr h (by decide) hP σ1 h1⟩
def qPoint (f : Nat → Int32) (k r w : Nat) : Int32 := if w = 0 then nI (pnt k r % 32) else if w = 1 then nI (pnt k r / 32) else nI (kp f k r) - nI 1
def rPoint (s : AS) (x1 x2 x3 : Int32) : RS := if inR x1 100 ∧ inR x2 (gR (sF s)) then (if inR x3 3 then (0, qPoint (sF s) (cl x1) (cl x2) (cl x3), s) else (2, 0, s)) else (1, 0, s)
theorem s_X8_point {σ : St} {s : AS} {x1 x2 x3 : Int32} {QX : String → St → Prop} {Q : Int32 → St → Prop} (h : CR σ s) (hs : Sok s) (hP : PC σ (rPoint s x1 x2 x3) (ex3 sIOB sNSE sNSE) QX Q) : wp_X8_point σ x1 x2 x3 QX (fun r => Q r σ) := by
  obtain ⟨A, e, l, hN, -⟩ := h.net
  unfold rPoint at hP
  unfold wp_X8_point
  refine s_X8_checkKey (fun a => s_X8_checkReality h (fun b => s_X8_checkWhat (fun c => ?_) (fun c => ?_)) (fun b => ?_)) (fun a => ?_)
  · rw [if_pos ⟨a, b⟩, if_pos c] at hP
    have hq := hP.ok h
    obtain ⟨i1, i2⟩ := inR_n (by decide) a
    obtain ⟨j1, j2, j3⟩ := inR_R hs b
    obtain ⟨k1, k2⟩ := inR_n (by decide) c
    rw [e]
    generalize hc1 : cl x1 = c1 at *
    generalize hc2 : cl x2 = c2 at *
    generalize hc3 : cl x3 = c3 at *
    have hob := (hs.1.2 c2 j2).1.1
    have hy := pnt_y c1 c2
    unfold qPoint at hq
    rw [i1, j1, k1, n_cl (by omega)]
    refine s_X1_pointX (s_X1_pointY ?_)
    rw [n_eq (by omega) (by decide), n_eq0 (by omega)]
    refine ⟨fun d => ⟨fun d2 => ?_, fun d2 => ?_⟩, fun d => ⟨l, n_in j3 (by decide), s_X4_nodeAt (X := pnt c1 c2 % 32) (Y := pnt c1 c2 / 32) (hN.sp c2 j2).1 hob (by rw [n_and31]; congr 1; omega) (Nat.mod_lt _ (by decide)) (by rw [n_and31]; congr 1; omega) hy ?_⟩⟩
    · rw [if_neg d2, if_pos (by omega)] at hq; exact hq
    · rw [if_pos d2] at hq; exact hq
    · rw [if_neg (by omega), if_neg (by omega)] at hq; exact hq
  · rw [if_pos ⟨a, b⟩, if_neg c] at hP
    exact hP.no (by decide) h rfl
  · rw [if_neg (fun q => b q.2)] at hP
    exact hP.no (by decide) h rfl
  · rw [if_neg (fun q => a q.1)] at hP
    exact hP.no (by decide) h rfl
theorem s_X9_point {σ : St} {s : AS} {x1 x2 x3 : Int32} {Q : Int32 → St → Prop} (h : RR σ s) (hs : Sok s) (hP : PR σ (rPoint s x1 x2 x3) Q) : wp_X9_point σ x1 x2 x3 Q := by
  unfold rPoint at hP
  unfold wp_X9_point wp_X9_point_16
  refine s_X9_isKey (fun a => ⟨fun t => absurd t (by decide), fun _ => s_X9_isReality h hs (fun b => ⟨fun _ => s_isR (n := 3) (by decide) (by decide) (fun c => ⟨fun _ => ?_, fun t => absurd t (by decide)⟩) (fun c => ⟨fun t => absurd rfl t, fun _ => ?_⟩), fun t => absurd t (by decide)⟩) (fun b => ⟨fun t => absurd rfl t, fun _ => ?_⟩)⟩) (fun a => ⟨fun _ => ?_, fun t => absurd rfl t⟩)
  · rw [if_pos ⟨a, b⟩, if_pos c] at hP
    unfold wp_X9_point_34
    intro σ1 h1
    rw [thr_at h1]
    refine ⟨fun _ => ?_, fun t => absurd (by decide) t⟩
    have hR1 := h.thr h1
    obtain ⟨i1, i2⟩ := inR_n (by decide) a
    obtain ⟨j1, j2, j3⟩ := inR_R hs b
    obtain ⟨k1, k2⟩ := inR_n (by decide) c
    generalize hc1 : cl x1 = c1 at *
    generalize hc2 : cl x2 = c2 at *
    generalize hc3 : cl x3 = c3 at *
    unfold qPoint at hP
    rw [i1, j1, k1, n_eq (by omega) (by decide), n_eq (by omega) (by decide)]
    refine ⟨fun d => s_X9_pointX i2 j3 ?_, fun d => ⟨fun d2 => s_X9_pointY i2 j3 ?_, fun d2 => s_X9_keeperOf (by rw [hR1.1]; exact hs.1.g0 j2) (by rw [hR1.1]; exact j2) i2 (fun τ hB => ?_)⟩⟩
    · rw [if_pos d] at hP; exact hP.ok h h1 (Sc.rf σ1)
    · rw [if_neg d, if_pos d2] at hP; exact hP.ok h h1 (Sc.rf σ1)
    · rw [if_neg d, if_neg d2] at hP
      rw [hR1.1]; exact hP.ok h h1 hB.sc
  · rw [if_pos ⟨a, b⟩, if_neg c] at hP
    unfold wp_X9_point_34
    intro σ1 h1
    rw [thr_at h1]
    exact ⟨fun t => absurd t (by decide), fun _ => s_thr h (by decide) hP σ1 h1⟩
  · rw [if_neg (fun q => b q.2)] at hP
    unfold wp_X9_point_34
    intro σ1 h1
    rw [thr_at h1]
    exact ⟨fun t => absurd t (by decide), fun _ => s_thr h (by decide) hP σ1 h1⟩
  · rw [if_neg (fun q => a q.1)] at hP
    unfold wp_X9_point_34
    intro σ1 h1
    rw [thr_at h1]
    exact ⟨fun t => absurd t (by decide), fun _ => s_thr h (by decide) hP σ1 h1⟩
def rOrder (s : AS) (x1 x2 : Int32) : RS := if inR x1 100 ∧ inR x2 100 then (0, nI (lord (sF s) (cl x1) (cl x2)), s) else (1, 0, s)
theorem s_X8_order {σ : St} {s : AS} {x1 x2 : Int32} {QX : String → St → Prop} {Q : Int32 → St → Prop} (h : CR σ s) (hs : Sok s) (hP : PC σ (rOrder s x1 x2) (ex3 sIAE sIAE sIAE) QX Q) : wp_X8_order σ x1 x2 QX (fun r => Q r σ) := by
  obtain ⟨A, e, l, hN, -⟩ := h.net
  unfold rOrder at hP
  unfold wp_X8_order
  refine s_X8_isPlace (fun a => ⟨fun _ => ?_, fun t => absurd t (by decide)⟩) (fun a => ⟨fun t => absurd rfl t, fun _ => ?_⟩)
  · rw [if_pos a] at hP
    obtain ⟨i1, i2⟩ := inR_n (by decide) a.1
    obtain ⟨j1, j2⟩ := inR_n (by decide) a.2
    have hq := hP.ok h
    generalize hc1 : cl x1 = c1 at *
    generalize hc2 : cl x2 = c2 at *
    rw [i1, j1, e]
    exact ⟨l, s_X1_orderOf hN hs.1.1 i2 j2 hq⟩
  · rw [if_neg a] at hP
    exact hP.no (by decide) h rfl
theorem s_X9_order {σ : St} {s : AS} {x1 x2 : Int32} {Q : Int32 → St → Prop} (h : RR σ s) (hs : Sok s) (hP : PR σ (rOrder s x1 x2) Q) : wp_X9_order σ x1 x2 Q := by
  unfold rOrder at hP
  unfold wp_X9_order
  refine s_X9_isPlace (fun a => ⟨fun t => absurd t (by decide), fun _ => ?_⟩) (fun a => ⟨fun _ => ?_, fun t => absurd rfl t⟩)
  · rw [if_pos a] at hP
    unfold wp_X9_order_14
    intro σ1 h1
    rw [thr_at h1]
    refine ⟨fun _ => ?_, fun t => absurd (by decide) t⟩
    have hR1 := h.thr h1
    obtain ⟨i1, i2⟩ := inR_n (by decide) a.1
    obtain ⟨j1, j2⟩ := inR_n (by decide) a.2
    have hq := hP.ok h h1 (Sc.rf σ1)
    generalize hc1 : cl x1 = c1 at *
    generalize hc2 : cl x2 = c2 at *
    rw [i1, j1]
    exact s_X9_orderOf hR1.1 hs.1.1 i2 j2 hq
  · rw [if_neg a] at hP
    unfold wp_X9_order_14
    intro σ1 h1
    rw [thr_at h1]
    exact ⟨fun t => absurd t (by decide), fun _ => s_thr h (by decide) hP σ1 h1⟩
