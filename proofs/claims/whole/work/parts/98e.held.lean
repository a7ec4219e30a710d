/-! HELD, REALITY, WAYS -/
def qHeld (f : Nat → Int32) (p r k : Nat) : Int32 :=
  if k = 0 then nI (cnt (gow f r) p) else if k = 1 then nI (vol (gow f r) p) else if k = 2 then nI (nbn (gow f r) p) else if k = 3 then nI (kld f r p 100) else if nO (hubF (gow f r) (gst f) 10) = nI p then nI 1 else nI 0
def rHeld (s : AS) (x1 x2 x3 : Int32) : RS := if inR x1 10 ∧ inR x2 (gR (sF s)) then (if inR x3 5 then (0, qHeld (sF s) (cl x1) (cl x2) (cl x3), s) else (2, 0, s)) else (1, 0, s)
theorem s_X8_held {σ : St} {s : AS} {x1 x2 x3 : Int32} {QX : String → St → Prop} {Q : Int32 → St → Prop} (h : CR σ s) (hs : Sok s) (hP : PC σ (rHeld s x1 x2 x3) (ex3 sIOB sNSE sNSE) QX Q) : wp_X8_held σ x1 x2 x3 QX Q := by
  obtain ⟨A, e, l, hN, hA⟩ := h.net
  unfold rHeld at hP
  unfold wp_X8_held
  refine s_X8_checkNode (fun a => s_X8_checkReality h (fun b => s_X8_checkWhat (fun c => ?_) (fun c => ?_)) (fun b => ?_)) (fun a => ?_)
  · rw [if_pos ⟨a, b⟩, if_pos c] at hP
    obtain ⟨i1, i2⟩ := inR_n (by decide) a
    obtain ⟨j1, j2, j3⟩ := inR_R hs b
    obtain ⟨k1, k2⟩ := inR_n (by decide) c
    generalize hc1 : cl x1 = p at *
    generalize hc2 : cl x2 = r at *
    generalize hc3 : cl x3 = k at *
    have hq : ∀ τ, (∀ b, b < 176 ∨ 180 < b → τ b = σ b) → Q (qHeld (sF s) p r k) τ := fun τ ht => hP.sc h hs ht
    have hsp := hN.sp r j2
    have hob := (hs.1.2 r j2).1.1
    rw [i1, j1, k1, e, n_cl (by omega), n_cl (by omega), n_eq (by omega) (by decide), n_eq (by omega) (by decide), n_eq (by omega) (by decide), n_eq (by omega) (by decide)]
    unfold qHeld at hq
    refine ⟨l, n_in j3 (by decide), fun d => ⟨n_in i2 (by decide), ?_⟩, fun d => ⟨fun d1 => ⟨n_in i2 (by decide), ?_⟩, fun d1 => ⟨fun d2 => ?_, fun d2 => ⟨fun d3 => ⟨l, ?_⟩, fun d3 => ?_⟩⟩⟩⟩
    · rw [if_pos d] at hq
      rw [hsp.2.2 p i2]
      exact hq σ (fun _ _ => rfl)
    · rw [if_neg d, if_pos d1] at hq
      rw [hsp.2.1 p i2]
      exact hq σ (fun _ _ => rfl)
    · rw [if_neg d, if_neg d1, if_pos d2] at hq
      refine s_X7_lookBeside hsp hob (hs.1.hP j2) j3 (Or.inr (by omega)) (fun τ1 a1 a2 a3 => ?_)
      exact s_X7_besideIn j3 i2 (a2 p i2) (hq τ1 (fun b hb => a1 b (by omega)))
    · rw [if_neg d, if_neg d1, if_neg d2, if_pos d3] at hq
      exact s_X1_loadOf hN hs.1 i2 j2 (hq σ (fun _ _ => rfl))
    · rw [if_neg d, if_neg d1, if_neg d2, if_neg d3] at hq
      refine s_X8_hubOf h hs j2 (fun τ ht => ?_)
      refine ⟨fun t => ?_, fun t => ?_⟩
      · rw [if_neg t] at hq; exact hq τ ht
      · rw [if_pos t] at hq; exact hq τ ht
  · rw [if_pos ⟨a, b⟩, if_neg c] at hP
    exact hP.no (by decide) h rfl
  · rw [if_neg (fun t => b t.2)] at hP
    exact hP.no (by decide) h rfl
  · rw [if_neg (fun t => a t.1)] at hP
    exact hP.no (by decide) h rfl
theorem s_X9_held {σ : St} {s : AS} {x1 x2 x3 : Int32} {Q : Int32 → St → Prop} (h : RR σ s) (hs : Sok s) (hP : PR σ (rHeld s x1 x2 x3) Q) : wp_X9_held σ x1 x2 x3 Q := by
  unfold rHeld at hP
  unfold wp_X9_held
  have no : ¬ (inR x1 10 ∧ inR x2 (gR (sF s))) → wp_X9_held_16 σ x1 x2 x3 Q := fun a => by
    rw [if_neg a] at hP
    unfold wp_X9_held_16 wp_X9_held_34
    intro σ1 h1
    rw [thr_at h1]
    exact ⟨fun t => absurd t (by decide), fun _ => s_thr h (by decide) hP σ1 h1⟩
  refine s_X9_isNode (fun a => ⟨fun t => absurd t (by decide), fun _ => s_X9_isReality h hs (fun b => ⟨fun _ => s_isR (n := 5) (by decide) (by decide) (fun c => ⟨fun _ => ?_, fun t => absurd t (by decide)⟩) (fun c => ⟨fun t => absurd rfl t, fun _ => ?_⟩), fun t => absurd t (by decide)⟩) (fun b => ⟨fun t => absurd rfl t, fun _ => no (fun t => b t.2)⟩)⟩) (fun a => ⟨fun _ => no (fun t => a t.1), fun t => absurd rfl t⟩)
  · rw [if_pos ⟨a, b⟩, if_pos c] at hP
    unfold wp_X9_held_34
    intro σ1 h1
    rw [thr_at h1]
    refine ⟨fun _ => ?_, fun t => absurd (by decide) t⟩
    have hR1 := h.thr h1
    obtain ⟨i1, i2⟩ := inR_n (by decide) a
    obtain ⟨j1, j2, j3⟩ := inR_R hs b
    obtain ⟨k1, k2⟩ := inR_n (by decide) c
    generalize hc1 : cl x1 = p at *
    generalize hc2 : cl x2 = r at *
    generalize hc3 : cl x3 = k at *
    have h245 : σ1 245 = sF s := hR1.1
    have hob := (hs.1.2 r j2).1.1
    rw [i1, j1, k1, n_eq (by omega) (by decide), n_eq (by omega) (by decide), n_eq (by omega) (by decide), n_eq (by omega) (by decide)]
    refine s_X9_laysList (by rw [h245]; exact hs.1.1) (by rw [h245]; exact hob) (by rw [h245]; exact j2) (fun τ hL hl => ?_)
    rw [h245] at hl
    have t245 : τ 245 = sF s := by rw [hL.m]; exact h245
    have hq : ∀ τ', Sc τ τ' → Q (qHeld (sF s) p r k) τ' := fun τ' hS => hP.ok h h1 (hL.sc.tr hS)
    unfold qHeld at hq
    refine ⟨fun d => ?_, fun d => ⟨fun d1 => ?_, fun d1 => ⟨fun d2 => ?_, fun d2 => ⟨fun d3 => ?_, fun d3 => ?_⟩⟩⟩⟩
    · rw [if_pos d] at hq
      exact s_X9_zonesOf hob hl i2 (hq τ (Sc.rf τ))
    · rw [if_neg d, if_pos d1] at hq
      exact s_X9_volumeOf hob hl i2 (hq τ (Sc.rf τ))
    · rw [if_neg d, if_neg d1, if_pos d2] at hq
      exact s_X9_besideNode hob hl i2 (hq τ (Sc.rf τ))
    · rw [if_neg d, if_neg d1, if_neg d2, if_pos d3] at hq
      exact s_X9_loadOf t245 hs.1 i2 j2 (fun τ' hB => hq τ' hB.sc)
    · rw [if_neg d, if_neg d1, if_neg d2, if_neg d3] at hq
      refine s_X9_hubOf (o := gow (sF s) r) (by rw [t245]; exact hs.1.1) hob hl ?_
      rw [t245]
      refine ⟨fun t => ?_, fun t => ?_⟩
      · rw [if_neg t] at hq; exact hq τ (Sc.rf τ)
      · rw [if_pos t] at hq; exact hq τ (Sc.rf τ)
  · rw [if_pos ⟨a, b⟩, if_neg c] at hP
    unfold wp_X9_held_34
    intro σ1 h1
    rw [thr_at h1]
    exact ⟨fun t => absurd t (by decide), fun _ => s_thr h (by decide) hP σ1 h1⟩
def upsF (f : Nat → Int32) : Nat := bits (gst f) 1
def qReal (f : Nat → Int32) (r k : Nat) : Int32 :=
  if k = 0 then nI (nz (gow f r)) else if k = 1 then evn (gow f r) (gst f) else if k = 2 then nO (hubF (gow f r) (gst f) 10) else if k = 3 then nI (svM (gow f r) (gst f) (upsF f)) - nI 1 else if k = 4 then nI (stry (gow f r)) else nI (khd f r 100)
def rReal (s : AS) (x1 x2 : Int32) : RS := if inR x1 (gR (sF s)) then (if inR x2 6 then (0, qReal (sF s) (cl x1) (cl x2), s) else (2, 0, s)) else (1, 0, s)
theorem s_X8_reality {σ : St} {s : AS} {x1 x2 : Int32} {QX : String → St → Prop} {Q : Int32 → St → Prop} (h : CR σ s) (hs : Sok s) (hP : PC σ (rReal s x1 x2) (ex3 sIOB sNSE sNSE) QX Q) : wp_X8_reality σ x1 x2 QX Q := by
  obtain ⟨A, e, l, hN, hA⟩ := h.net
  unfold rReal at hP
  unfold wp_X8_reality
  refine s_X8_checkReality h (fun b => s_X8_checkWhat (fun c => ?_) (fun c => ?_)) (fun b => ?_)
  · rw [if_pos b, if_pos c] at hP
    obtain ⟨j1, j2, j3⟩ := inR_R hs b
    obtain ⟨k1, k2⟩ := inR_n (by decide) c
    generalize hc2 : cl x1 = r at *
    generalize hc3 : cl x2 = k at *
    have hq : ∀ τ, (∀ b, b < 176 ∨ 180 < b → τ b = σ b) → Q (qReal (sF s) r k) τ := fun τ ht => hP.sc h hs ht
    have hsp := hN.sp r j2
    have hob := (hs.1.2 r j2).1.1
    have hch := (hs.1.2 r j2).1.2.2.1
    rw [j1, k1, e, n_cl (by omega), n_eq (by omega) (by decide), n_eq (by omega) (by decide), n_eq (by omega) (by decide), n_eq (by omega) (by decide), n_eq (by omega) (by decide)]
    unfold qReal at hq
    refine ⟨fun d => ⟨l, n_in j3 (by decide), ?_⟩, fun d => ⟨fun d1 => ⟨l, n_in j3 (by decide), l, ?_⟩, fun d1 => ⟨fun d2 => ?_, fun d2 => ⟨fun d3 => ⟨l, n_in j3 (by decide), l, ?_⟩, fun d3 => ⟨fun d4 => ⟨l, n_in j3 (by decide), ?_⟩, fun d4 => ⟨l, ?_⟩⟩⟩⟩⟩⟩
    · rw [if_pos d] at hq
      exact s_X4_zonesOfAll hsp hob (hq σ (fun _ _ => rfl))
    · rw [if_neg d, if_pos d1] at hq
      exact s_X1_nodesThatAre (f := sF s) hN.st (fun n hn => (hs.1.1.1 n hn).2) (by decide) (s_X4_evenOf hsp (hq σ (fun _ _ => rfl)))
    · rw [if_neg d, if_neg d1, if_pos d2] at hq
      exact s_X8_hubOf h hs j2 hq
    · rw [if_neg d, if_neg d1, if_neg d2, if_pos d3] at hq
      refine s_X1_nodesThatAre (f := sF s) hN.st (fun n hn => (hs.1.1.1 n hn).2) (by decide) ?_
      refine s_X5_walkAll (fh := false) (st := gst (sF s)) hsp hob hch (hs.1.hP j2) j3 (by omega) rfl (fun p hp h1 => hs.1.own j2 hp h1) (fun τ G ht hSv _ => ?_)
      rw [hSv.2.2.1]
      exact hq τ ht
    · rw [if_neg d, if_neg d1, if_neg d2, if_neg d3, if_pos d4] at hq
      exact s_X4_zonesOfTheScattered hsp (hq σ (fun _ _ => rfl))
    · rw [if_neg d, if_neg d1, if_neg d2, if_neg d3, if_neg d4] at hq
      exact s_X1_copiesHeldIn hN j3 (hq σ (fun _ _ => rfl))
  · rw [if_pos b, if_neg c] at hP
    exact hP.no (by decide) h rfl
  · rw [if_neg b] at hP
    exact hP.no (by decide) h rfl
theorem s_X9_reality {σ : St} {s : AS} {x1 x2 : Int32} {Q : Int32 → St → Prop} (h : RR σ s) (hs : Sok s) (hP : PR σ (rReal s x1 x2) Q) : wp_X9_reality σ x1 x2 Q := by
  unfold rReal at hP
  unfold wp_X9_reality
  refine s_X9_isReality h hs (fun b => ⟨fun _ => s_isR (n := 6) (by decide) (by decide) (fun c => ⟨fun _ => ?_, fun t => absurd t (by decide)⟩) (fun c => ⟨fun t => absurd rfl t, fun _ => ?_⟩), fun t => absurd t (by decide)⟩) (fun b => ⟨fun t => absurd rfl t, fun _ => ?_⟩)
  · rw [if_pos b, if_pos c] at hP
    unfold wp_X9_reality_27
    intro σ1 h1
    rw [thr_at h1]
    refine ⟨fun _ => ?_, fun t => absurd (by decide) t⟩
    have hR1 := h.thr h1
    obtain ⟨j1, j2, j3⟩ := inR_R hs b
    obtain ⟨k1, k2⟩ := inR_n (by decide) c
    generalize hc2 : cl x1 = r at *
    generalize hc3 : cl x2 = k at *
    have h245 : σ1 245 = sF s := hR1.1
    have hob := (hs.1.2 r j2).1.1
    have hch := (hs.1.2 r j2).1.2.2.1
    rw [j1, k1, n_eq (by omega) (by decide), n_eq (by omega) (by decide), n_eq (by omega) (by decide), n_eq (by omega) (by decide), n_eq (by omega) (by decide)]
    refine s_X9_laysList (by rw [h245]; exact hs.1.1) (by rw [h245]; exact hob) (by rw [h245]; exact j2) (fun τ hL hl => ?_)
    rw [h245] at hl
    have t245 : τ 245 = sF s := by rw [hL.m]; exact h245
    have hq : ∀ τ', Sc τ τ' → Q (qReal (sF s) r k) τ' := fun τ' hS => hP.ok h h1 (hL.sc.tr hS)
    unfold qReal at hq
    refine ⟨fun d => ?_, fun d => ⟨fun d1 => ?_, fun d1 => ⟨fun d2 => ?_, fun d2 => ⟨fun d3 => ?_, fun d3 => ⟨fun d4 => ?_, fun d4 => ?_⟩⟩⟩⟩⟩
    · rw [if_pos d] at hq
      rw [hl.1, nz_len]
      exact hq τ (Sc.rf τ)
    · rw [if_neg d, if_pos d1] at hq
      refine s_X9_even (o := gow (sF s) r) (by rw [t245]; exact hs.1.1) hob hch hl ?_
      rw [t245]
      exact hq τ (Sc.rf τ)
    · rw [if_neg d, if_neg d1, if_pos d2] at hq
      refine s_X9_hubOf (o := gow (sF s) r) (by rw [t245]; exact hs.1.1) hob hl ?_
      rw [t245]
      exact hq τ (Sc.rf τ)
    · rw [if_neg d, if_neg d1, if_neg d2, if_pos d3] at hq
      refine s_X9_allWays (o := gow (sF s) r) (st := gst (sF s)) (ups := upsF (sF s)) (by rw [t245]; exact hs.1.1) (by rw [t245]) rfl hob hl (fun p hp h1 => hs.1.own j2 hp h1) (fun τ' hU w1 w2 w3 => ?_)
      rw [w1]
      exact hq τ' hU.sc
    · rw [if_neg d, if_neg d1, if_neg d2, if_neg d3, if_pos d4] at hq
      exact s_X9_strays hob hl (hq τ (Sc.rf τ))
    · rw [if_neg d, if_neg d1, if_neg d2, if_neg d3, if_neg d4] at hq
      exact s_X9_heldCopies t245 hs.1.1 j3 (hq τ (Sc.rf τ))
  · rw [if_pos b, if_neg c] at hP
    unfold wp_X9_reality_27
    intro σ1 h1
    rw [thr_at h1]
    exact ⟨fun t => absurd t (by decide), fun _ => s_thr h (by decide) hP σ1 h1⟩
  · rw [if_neg b] at hP
    unfold wp_X9_reality_27
    intro σ1 h1
    rw [thr_at h1]
    exact ⟨fun t => absurd t (by decide), fun _ => s_thr h (by decide) hP σ1 h1⟩
def qWays (f : Nat → Int32) (r k : Nat) : Int32 :=
  if k = 3 then nO (fzF (gow f r) (upsF f) 2048) else if k = 2 then nI (svG (gow f r) (gst f) (upsF f)) else if k = 0 then nI (svH (gow f r) (gst f) (upsF f)) else nI (svW (gow f r) (gst f) (upsF f))
def rWays (s : AS) (x1 x2 : Int32) : RS := if inR x1 (gR (sF s)) then (if inR x2 4 then (0, qWays (sF s) (cl x1) (cl x2), s) else (2, 0, s)) else (1, 0, s)
theorem s_X8_ways {σ : St} {s : AS} {x1 x2 : Int32} {QX : String → St → Prop} {Q : Int32 → St → Prop} (h : CR σ s) (hs : Sok s) (hP : PC σ (rWays s x1 x2) (ex3 sIOB sNSE sNSE) QX Q) : wp_X8_ways σ x1 x2 QX Q := by
  obtain ⟨A, e, l, hN, hA⟩ := h.net
  unfold rWays at hP
  unfold wp_X8_ways
  refine s_X8_checkReality h (fun b => s_X8_checkWhat (fun c => ?_) (fun c => ?_)) (fun b => ?_)
  · rw [if_pos b, if_pos c] at hP
    obtain ⟨j1, j2, j3⟩ := inR_R hs b
    obtain ⟨k1, k2⟩ := inR_n (by decide) c
    generalize hc2 : cl x1 = r at *
    generalize hc3 : cl x2 = k at *
    have hq : ∀ τ, (∀ b, b < 176 ∨ 180 < b → τ b = σ b) → Q (qWays (sF s) r k) τ := fun τ ht => hP.sc h hs ht
    have hsp := hN.sp r j2
    have hob := (hs.1.2 r j2).1.1
    have hch := (hs.1.2 r j2).1.2.2.1
    rw [j1, k1, e, n_cl (by omega), n_eq (by omega) (by decide), n_eq (by omega) (by decide)]
    unfold qWays at hq
    refine ⟨l, n_in j3 (by decide), l, s_X1_nodesThatAre (f := sF s) hN.st (fun n hn => (hs.1.1.1 n hn).2) (by decide) ⟨fun d => ⟨fun d1 => ?_, fun d1 => ?_⟩, fun d => ?_⟩⟩
    · rw [if_neg d, if_neg d1] at hq
      unfold wp_X8_ways_60
      refine s_X5_walkAll (fh := false) (st := gst (sF s)) hsp hob hch (hs.1.hP j2) j3 (by omega) rfl (fun p hp h1 => hs.1.own j2 hp h1) (fun τ G ht hSv _ => ?_)
      rw [hSv.1, hSv.2.1, n_eq (by omega) (by decide), n_eq0 (by omega)]
      refine ⟨fun _ => ⟨fun d2 => ?_, fun d2 => ?_⟩, fun t => absurd t d1⟩
      · rw [if_neg d2] at hq; exact hq τ ht
      · rw [if_pos d2] at hq; exact hq τ ht
    · rw [if_neg d, if_pos d1] at hq
      unfold wp_X8_ways_60
      refine s_X5_walkAll (fh := true) (st := gst (sF s)) hsp hob hch (hs.1.hP j2) j3 (by omega) rfl (fun p hp h1 => hs.1.own j2 hp h1) (fun τ G ht hSv hG => ?_)
      rw [hSv.2.2.2.1, n_eq (by omega) (by decide), hG rfl]
      exact ⟨fun t => absurd d1 t, fun _ => hq τ ht⟩
    · rw [if_pos d] at hq
      exact s_X4_firstZoneOfAny hsp hob (bits_lt _ _) (hq σ (fun _ _ => rfl))
  · rw [if_pos b, if_neg c] at hP
    exact hP.no (by decide) h rfl
  · rw [if_neg b] at hP
    exact hP.no (by decide) h rfl
theorem s_X9_ways {σ : St} {s : AS} {x1 x2 : Int32} {Q : Int32 → St → Prop} (h : RR σ s) (hs : Sok s) (hP : PR σ (rWays s x1 x2) Q) : wp_X9_ways σ x1 x2 Q := by
  unfold rWays at hP
  unfold wp_X9_ways
  refine s_X9_isReality h hs (fun b => ⟨fun _ => s_isR (n := 4) (by decide) (by decide) (fun c => ⟨fun _ => ?_, fun t => absurd t (by decide)⟩) (fun c => ⟨fun t => absurd rfl t, fun _ => ?_⟩), fun t => absurd t (by decide)⟩) (fun b => ⟨fun t => absurd rfl t, fun _ => ?_⟩)
  · rw [if_pos b, if_pos c] at hP
    unfold wp_X9_ways_27
    intro σ1 h1
    rw [thr_at h1]
    refine ⟨fun _ => ?_, fun t => absurd (by decide) t⟩
    have hR1 := h.thr h1
    obtain ⟨j1, j2, j3⟩ := inR_R hs b
    obtain ⟨k1, k2⟩ := inR_n (by decide) c
    generalize hc2 : cl x1 = r at *
    generalize hc3 : cl x2 = k at *
    have h245 : σ1 245 = sF s := hR1.1
    have hob := (hs.1.2 r j2).1.1
    rw [j1, k1, n_eq (by omega) (by decide), n_eq (by omega) (by decide), n_eq0 (by omega)]
    refine s_X9_laysList (by rw [h245]; exact hs.1.1) (by rw [h245]; exact hob) (by rw [h245]; exact j2) (fun τ hL hl => ?_)
    rw [h245] at hl
    have t245 : τ 245 = sF s := by rw [hL.m]; exact h245
    have hq : ∀ τ', Sc τ τ' → Q (qWays (sF s) r k) τ' := fun τ' hS => hP.ok h h1 (hL.sc.tr hS)
    unfold qWays at hq
    refine ⟨fun d1 => ⟨fun d => ?_, fun d => ?_⟩, fun d1 => ?_⟩
    · rw [if_neg d, if_neg d1] at hq
      refine s_X9_allWays (o := gow (sF s) r) (st := gst (sF s)) (ups := upsF (sF s)) (by rw [t245]; exact hs.1.1) (by rw [t245]) rfl hob hl (fun p hp h1 => hs.1.own j2 hp h1) (fun τ' hU w1 w2 w3 => ?_)
      rw [w2, w3]
      refine ⟨fun d2 => ?_, fun d2 => ?_⟩
      · rw [if_neg d2] at hq; exact hq τ' hU.sc
      · rw [if_pos d2] at hq; exact hq τ' hU.sc
    · rw [if_pos d] at hq
      exact s_X9_spot (o := gow (sF s) r) (ups := upsF (sF s)) (by rw [t245]; exact hs.1.1) (by rw [t245]; rfl) hob hl (hq τ (Sc.rf τ))
    · rw [if_neg (by omega), if_pos d1] at hq
      exact s_X9_hinges (o := gow (sF s) r) (st := gst (sF s)) (ups := upsF (sF s)) (by rw [t245]; exact hs.1) (by rw [t245]) rfl hob hl (fun p hp h1 => hs.1.own j2 hp h1) (fun τ' hU => hq τ' hU.sc)
  · rw [if_pos b, if_neg c] at hP
    unfold wp_X9_ways_27
    intro σ1 h1
    rw [thr_at h1]
    exact ⟨fun t => absurd t (by decide), fun _ => s_thr h (by decide) hP σ1 h1⟩
  · rw [if_neg b] at hP
    unfold wp_X9_ways_27
    intro σ1 h1
    rw [thr_at h1]
    exact ⟨fun t => absurd t (by decide), fun _ => s_thr h (by decide) hP σ1 h1⟩
