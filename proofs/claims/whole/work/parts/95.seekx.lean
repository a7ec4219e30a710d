/-! seek: both sides -/
def qSeek (f : Nat → Int32) (L : List Nat) (b : Bool) (w : Nat) : Int32 := if w = 0 then (if b then -1 else nI (L.length - 1)) else if w = 1 then nI (dly f L (L.length - 1)) else if w = 2 then nI (L.getD (L.length - 1) 0) else nI (strch (dly f L (L.length - 1)) (apt f (L.getD 0 0) (L.getD (L.length - 1) 0)) (decide (w = 3)))
def rSeek (s : AS) (x1 x2 x3 : Int32) : RS := if inR x1 10 ∧ inR x2 100 then (if inR x3 5 then (if gst (sF s) (cl x1) = 1 then (0, qSeek (sF s) (skL (sF s) (cl x2) (cl x1)) (skS (sF s) (cl x2) (cl x1)) (cl x3), s) else (3, 0, s)) else (2, 0, s)) else (1, 0, s)
theorem skL_up {f : Nat → Int32} {k p : Nat} (hp : p < 10) (hu : gst f p = 1) : upL f (skL f k p) := by
  intro i hi
  exact wyL_all (P := fun q => q < 10 ∧ gst f q = 1) (fun p q h => up_bit (nxA_ok h).2.2) 10 p ⟨hp, hu⟩ i hi
theorem s_X7_lastNode {τ : St} {L : List Nat} {b : Bool} {Q : Int32 → Prop} (hW : WayOK τ L b) (h1 : 1 ≤ L.length) (h2 : L.length ≤ 11) (hQ : Q (nI (L.getD (L.length - 1) 0))) : wp_X7_lastNode τ Q := by
  unfold wp_X7_lastNode
  rw [hW.1, n_cl (by omega), hW.2.2 _ (by omega)]
  exact ⟨n_in (by omega) (by decide), hQ⟩
theorem s_X8_seek102 {σ : St} {s : AS} {p k w : Nat} {QX : String → St → Prop} {Q : Int32 → St → Prop} (h : CR σ s) (hs : Sok s) (hp : p < 10) (hk : k < 100) (hw : w < 5) (hu : gst (sF s) p = 1) (hlook : LookOK σ (hm (sF s) k) (kfa (sF s) k) (kbe (sF s)))
    (hQ : ∀ τ, (∀ b, b < 176 ∨ 180 < b → τ b = σ b) → Q (qSeek (sF s) (skL (sF s) k p) (skS (sF s) k p) w) τ) : wp_X8_seek_102 σ (nI p) (nI k) (nI w) Q QX := by
  obtain ⟨A, e, l, hN, hA⟩ := h.net
  have hml := hm_lt (sF s) k
  unfold wp_X8_seek_102
  rw [e, n_cl (by omega), hN.hd k hk]
  refine ⟨l, n_in hk (by decide), l, s_X1_nodesThatAre hN.st (fun n hn => (hs.1.1.1 n hn).2) (by decide) ?_⟩
  refine s_X7_follow hlook hml (bits_lt _ _) hp (fun τ g1 hW => ?_)
  have hlen := wyL_len (frA (hm (sF s) k) (kfa (sF s) k)) (nxA (hm (sF s) k) (kfa (sF s) k) (kbe (sF s)) (bits (gst (sF s)) 1)) 10 p
  have hup := skL_up (k := k) hp hu
  have h0 : (skL (sF s) k p).getD 0 0 = p := wyL_0 _ _ _ _
  have hq := hQ τ (fun b hb => g1 b (by omega) (by omega))
  have hC : CR τ s := h.sc hs (fun b hb => g1 b (by omega) (by omega))
  have t0 : τ 0 = σ 0 := g1 0 (by decide) (by decide)
  have hNt : NetRep τ A (sF s) := hN.congr hs.1.R3 (fun b b1 b2 => g1 b (by omega) (by omega))
  change WayOK τ (skL (sF s) k p) (skS (sF s) k p) at hW
  change 1 ≤ (skL (sF s) k p).length ∧ (skL (sF s) k p).length ≤ 10 + 1 at hlen
  generalize skL (sF s) k p = L at *
  generalize skS (sF s) k p = b at *
  unfold qSeek at hq
  rw [n_eq (by omega) (by decide), n_eq (by omega) (by decide), n_eq (by omega) (by decide), n_eq (by omega) (by decide), t0, e]
  have hdl := dly_le hs.1.1 hup (L.length - 1) (by omega)
  obtain ⟨a1, a2⟩ := hup 0 (by omega)
  obtain ⟨b1, b2⟩ := hup (L.length - 1) (by omega)
  have hal := apt_le hs.1.1 a1 b1 (by omega) (by omega)
  refine ⟨fun c => hW.hops ?_, fun c => ⟨fun c1 => s_X8_delayOfWay hC hs hW hlen.1 hlen.2 hup ?_, fun c1 => ⟨fun c2 => s_X7_lastNode hW hlen.1 hlen.2 ?_, fun c2 => s_X8_delayOfWay hC hs hW hlen.1 hlen.2 hup ⟨l, s_X7_lastNode hW hlen.1 hlen.2 ?_⟩⟩⟩⟩
  · rw [if_pos c] at hq; exact hq
  · rw [if_neg c, if_pos c1] at hq; exact hq
  · rw [if_neg c, if_neg c1, if_pos c2] at hq; exact hq
  · rw [if_neg c, if_neg c1, if_neg c2] at hq
    have hp2 : nI p = nI (L.getD 0 0) := by rw [h0]
    rw [hp2]
    refine s_X1_apart hNt hs.1.1 a1 b1 (by omega) (by omega) ?_
    unfold wp_X8_seek_206
    refine ⟨fun d => s_X8_stretch (up := false) (by omega) (by omega) rfl ?_, fun d => s_X8_stretch (up := true) (by omega) (by omega) rfl ?_⟩
    · rw [show decide (w = 3) = false by simp [d]] at hq; exact hq
    · rw [show decide (w = 3) = true by simp [d]] at hq; exact hq
theorem s_X8_seek {σ : St} {s : AS} {x1 x2 x3 : Int32} {QX : String → St → Prop} {Q : Int32 → St → Prop} (h : CR σ s) (hs : Sok s) (hP : PC σ (rSeek s x1 x2 x3) (ex3 sIOB sNSE sISE) QX Q) : wp_X8_seek σ x1 x2 x3 QX Q := by
  obtain ⟨A, e, l, hN, hA⟩ := h.net
  have hR := hs.1.R3
  unfold rSeek at hP
  unfold wp_X8_seek
  refine s_X8_checkNode (fun a => s_X8_checkKey (fun b => s_X8_checkWhat (fun c => ?_) (fun c => ?_)) (fun b => ?_)) (fun a => ?_)
  · rw [if_pos ⟨a, b⟩, if_pos c] at hP
    obtain ⟨i1, i2⟩ := inR_n (by decide) a
    obtain ⟨j1, j2⟩ := inR_n (by decide) b
    obtain ⟨k1, k2⟩ := inR_n (by decide) c
    generalize hc1 : cl x1 = p at *
    generalize hc2 : cl x2 = k at *
    generalize hc3 : cl x3 = w at *
    rw [i1, j1, k1]
    refine s_X8_checkUp h hs i2 (fun d => ?_) (fun d => ?_)
    · rw [if_pos d] at hP
      refine LP2_nat (gR (sF s)) (fun r τ z => z = nI r ∧ (∀ b, b ≠ 177 → b ≠ 178 → τ b = σ b) ∧ ∀ r', r' < r → (hm (sF s) k).testBit r' = true → ∀ n, n < 10 → τ 178 (10 * r' + n) = nI (kfa (sF s) k r' n) ∧ τ 177 (10 * r' + n) = nI (kbe (sF s) r' n)) ?_ 0 _ _ (Nat.zero_le _) ⟨rfl, fun _ _ _ => rfl, fun r' hr' => absurd hr' (by omega)⟩
      rintro ih r τ _ hr ⟨rfl, hne, hset⟩ hih
      have hC : CR τ s := h.sc hs (fun b hb => hne b (by omega) (by omega))
      have t0 : τ 0 = σ 0 := hne 0 (by decide) (by decide)
      have hNt : NetRep τ A (sF s) := hN.congr hs.1.R3 (fun b b1 b2 => hne b (by omega) (by omega))
      unfold wp_X8_seek_21
      rw [t0, e, hNt.re, n_le (by omega) (by omega)]
      refine ⟨l, fun q => ?_, fun q => ⟨l, ?_⟩⟩
      · have er : r = gR (sF s) := by omega
        subst er
        refine s_X8_seek102 hC hs i2 j2 k2 d (fun r' hr' hb n hn => ?_) (fun τ' hτ => hP.sc h hs (fun b hb => by rw [hτ b hb, hne b (by omega) (by omega)]))
        have hlt : r' < gR (sF s) := by
          rcases Nat.lt_or_ge r' (gR (sF s)) with t | t
          · exact t
          · rw [hm_top hs.1.1 j2 r' t] at hb; cases hb
        obtain ⟨u1, u2⟩ := hset r' hlt hb n hn
        exact ⟨u1, far_le _ _ _ _, u2, nbn_lt _ _⟩
      · have hrl : r < gR (sF s) := by omega
        have hob := (hs.1.2 r hrl).1.1
        refine s_X1_isHeld (hNt.hd k j2) (hm_lt _ _) j2 (by omega) (fun u => ⟨fun t => absurd t (by decide), fun _ => ⟨l, n_in (by omega) (by decide), ?_⟩⟩) (fun u => ⟨fun _ => ?_, fun t => absurd rfl t⟩)
        · rw [n_cl (by omega)]
          refine s_X7_lookBeside (hNt.sp r hrl) hob (hs.1.hP hrl) (by omega) (Or.inr (by omega)) (fun τ1 a1 a2 a3 => ?_)
          have t01 : τ1 0 = σ 0 := by rw [a1 0 (by decide)]; exact t0
          rw [t01, e]
          have hxx : pnt k r % 32 < 32 := Nat.mod_lt _ (by decide)
          refine ⟨l, n_in (by omega) (by decide), s_X1_pointX (s_X1_pointY (s_X7_lookFar (o := gow (sF s) r) ((hNt.sp r hrl).congr (a1 _ (by omega)) (a1 _ (by omega)) (a1 _ (by omega))) hob (by omega) hxx (pnt_y k r) (Or.inr (by omega)) (fun τ2 b1 b2 b3 => ?_)))⟩
          rw [n_add]
          intro z hz
          rw [hz]
          refine hih _ _ hrl ⟨rfl, fun b c1 c2 => by rw [b1 b c2, a1 b c1]; exact hne b c1 c2, fun r' hr' hb n hn => ?_⟩
          by_cases er : r' = r
          · rw [er]
            exact ⟨b2 n hn, by rw [b1 177 (by decide)]; exact a2 n hn⟩
          · obtain ⟨u1, u2⟩ := hset r' (by omega) hb n hn
            exact ⟨by rw [b3 _ (by omega), a1 178 (by decide)]; exact u1, by rw [b1 177 (by decide), a3 _ (by omega)]; exact u2⟩
        · rw [n_add]
          intro z hz
          rw [hz]
          refine hih _ _ hrl ⟨rfl, hne, fun r' hr' hb n hn => ?_⟩
          by_cases er : r' = r
          · rw [er, u] at hb; cases hb
          · exact hset r' (by omega) hb n hn
    · rw [if_neg d] at hP
      exact hP.no (by decide) h rfl
  · rw [if_pos ⟨a, b⟩, if_neg c] at hP
    exact hP.no (by decide) h rfl
  · rw [if_neg (fun q => b q.2)] at hP
    exact hP.no (by decide) h rfl
  · rw [if_neg (fun q => a q.1)] at hP
    exact hP.no (by decide) h rfl
theorem s_X9_seek {σ : St} {s : AS} {x1 x2 x3 : Int32} {Q : Int32 → St → Prop} (h : RR σ s) (hs : Sok s) (hP : PR σ (rSeek s x1 x2 x3) Q) : wp_X9_seek σ x1 x2 x3 Q := by
  unfold rSeek at hP
  unfold wp_X9_seek wp_X9_seek_15
  refine s_X9_isNode (fun a => ⟨fun t => absurd t (by decide), fun _ => s_X9_isKey (fun b => ⟨fun _ => s_isR (n := 5) (by decide) (by decide) (fun c => ⟨fun _ => ?_, fun t => absurd t (by decide)⟩) (fun c => ⟨fun t => absurd rfl t, fun _ => ?_⟩), fun t => absurd t (by decide)⟩) (fun b => ⟨fun t => absurd rfl t, fun _ => ?_⟩)⟩) (fun a => ⟨fun _ => ?_, fun t => absurd rfl t⟩)
  · rw [if_pos ⟨a, b⟩, if_pos c] at hP
    obtain ⟨i1, i2⟩ := inR_n (by decide) a
    obtain ⟨j1, j2⟩ := inR_n (by decide) b
    obtain ⟨k1, k2⟩ := inR_n (by decide) c
    generalize hc1 : cl x1 = p at *
    generalize hc2 : cl x2 = k at *
    generalize hc3 : cl x3 = w at *
    rw [i1, j1, k1]
    refine s_X9_isState (by rw [h.1]; exact hs.1.1) i2 (by decide) (fun d => ⟨fun _ => ?_, fun t => absurd t (by decide)⟩) (fun d => ⟨fun t => absurd rfl t, fun _ => ?_⟩)
    · rw [h.1] at d
      rw [if_pos d] at hP
      unfold wp_X9_seek_46
      intro σ1 h1
      rw [thr_at h1]
      refine ⟨fun _ => ?_, fun t => absurd (by decide) t⟩
      have hR1 := h.thr h1
      refine s_X9_seeks hR1.1 hs.1 j2 i2 d (fun τ hX hY => ?_)
      have hq := hP.ok h h1 hX.sc
      have t245 : τ 245 = sF s := by rw [hX.1 245 (by decide) (by decide) (by omega)]; exact hR1.1
      have hlen := wyL_len (frA (hm (sF s) k) (kfa (sF s) k)) (nxA (hm (sF s) k) (kfa (sF s) k) (kbe (sF s)) (bits (gst (sF s)) 1)) 10 p
      have hup := skL_up (k := k) i2 d
      change 1 ≤ (skL (sF s) k p).length ∧ (skL (sF s) k p).length ≤ 10 + 1 at hlen
      generalize skL (sF s) k p = L at *
      generalize skS (sF s) k p = b at *
      unfold qSeek at hq
      have e3 : ∀ up : Bool, bI up = (if up then nI 1 else nI 0) := fun _ => rfl
      rw [n_eq (by omega) (by decide), n_eq (by omega) (by decide), n_eq (by omega) (by decide), n_eq (by omega) (by decide)]
      refine ⟨fun c => ?_, fun c => ⟨fun c1 => s_X9_delay t245 hs hY hlen.1 hlen.2 hup ?_, fun c1 => ⟨fun c2 => ?_, fun c2 => ⟨fun c3 => s_X9_stretch (up := true) t245 hs hY hlen.1 hlen.2 hup ?_, fun c3 => s_X9_stretch (up := false) t245 hs hY hlen.1 hlen.2 hup ?_⟩⟩⟩⟩
      · rw [if_pos c] at hq
        rw [hY.1, hY.2.1, n_sub hlen.1]
        cases b with
        | true => exact ⟨fun t => absurd t (by decide), fun _ => hq⟩
        | false => exact ⟨fun _ => hq, fun t => absurd rfl t⟩
      · rw [if_neg c, if_pos c1] at hq; exact hq
      · rw [if_neg c, if_neg c1, if_pos c2] at hq
        rw [hY.1, n_sub hlen.1, n_cl (by omega), hY.2.2 _ (by omega)]
        exact ⟨n_in (by omega) (by decide), hq⟩
      · rw [if_neg c, if_neg c1, if_neg c2, show decide (w = 3) = true by simp [c3]] at hq; exact hq
      · rw [if_neg c, if_neg c1, if_neg c2, show decide (w = 3) = false by simp [c3]] at hq; exact hq
    · rw [h.1] at d
      rw [if_neg d] at hP
      unfold wp_X9_seek_46
      intro σ1 h1
      rw [thr_at h1]
      exact ⟨fun t => absurd t (by decide), fun _ => s_thr h (by decide) hP σ1 h1⟩
  · rw [if_pos ⟨a, b⟩, if_neg c] at hP
    unfold wp_X9_seek_46
    intro σ1 h1
    rw [thr_at h1]
    exact ⟨fun t => absurd t (by decide), fun _ => s_thr h (by decide) hP σ1 h1⟩
  · rw [if_neg (fun q => b q.2)] at hP
    unfold wp_X9_seek_46
    intro σ1 h1
    rw [thr_at h1]
    exact ⟨fun t => absurd t (by decide), fun _ => s_thr h (by decide) hP σ1 h1⟩
  · rw [if_neg (fun q => a q.1)] at hP
    unfold wp_X9_seek_46
    intro σ1 h1
    rw [thr_at h1]
    exact ⟨fun t => absurd t (by decide), fun _ => s_thr h (by decide) hP σ1 h1⟩
