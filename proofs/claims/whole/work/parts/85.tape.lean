/-! THE TAPE -/
/-- a byte of a number, the highest first -/
def byt (x : Int32) (q : Nat) : Nat := x.toBitVec.toNat / 2 ^ (24 - 8 * q) % 256
theorem byt_lt (x : Int32) (q : Nat) : byt x q < 256 := Nat.mod_lt _ (by decide)
theorem nI_nat (z : Int32) : nI z.toBitVec.toNat = z := by
  apply n_ext
  rw [n_bv]
  apply BitVec.eq_of_toNat_eq
  rw [BitVec.toNat_ofNat, Nat.mod_eq_of_lt z.toBitVec.isLt]
theorem byt_u : ∀ q, q < 4 → (Int32.toUInt32 (nI (24 - 8 * q)) &&& Int32.toUInt32 31) = UInt32.ofNat (24 - 8 * q) := by decide +kernel
theorem byt_u2 : ∀ q, q < 4 → (UInt32.ofNat (24 - 8 * q)).toNat % 32 = 24 - 8 * q := by decide +kernel
theorem byt_r {x : Int32} {q : Nat} (hq : q < 4) : ((Int32.toUInt32 x >>> (Int32.toUInt32 (nI (24 - 8 * q)) &&& Int32.toUInt32 31)).toInt32) &&& nI 255 = nI (byt x q) := by
  rw [byt_u q hq]
  have h : (Int32.toUInt32 x >>> UInt32.ofNat (24 - 8 * q)).toInt32 = nI (x.toBitVec.toNat / 2 ^ (24 - 8 * q)) := by
    rw [← nI_nat ((Int32.toUInt32 x >>> UInt32.ofNat (24 - 8 * q)).toInt32)]
    congr 1
    show (Int32.toUInt32 x >>> UInt32.ofNat (24 - 8 * q)).toNat = _
    rw [UInt32.toNat_shiftRight, byt_u2 q hq, Nat.shiftRight_eq_div_pow]
    rfl
  rw [h, n_and]
  congr 1
  exact Nat.and_two_pow_sub_one_eq_mod _ 8
theorem byt_all : ∀ b, b < 256 → vp_nar .byte ((Int8.ofNat b).toInt32) = sbt b := by decide +kernel
theorem byt_i8 (y : Int32) : y.toInt8 = Int8.ofNat (y.toBitVec.toNat % 256) := by
  apply Int8.toBitVec_inj.mp
  apply BitVec.eq_of_toNat_eq
  show (y.toBitVec.signExtend 8).toNat = (BitVec.ofNat 8 (y.toBitVec.toNat % 256)).toNat
  rw [BitVec.signExtend_eq_setWidth_of_le _ (by decide), BitVec.toNat_setWidth, BitVec.toNat_ofNat, Nat.mod_mod]
theorem byt_low {x : Int32} {q : Nat} (hq : q < 4) : (x >>> (nI (24 - 8 * q) &&& 31)).toBitVec.toNat % 256 = byt x q := by
  have e : (x >>> (nI (24 - 8 * q) &&& 31)).toBitVec = x.toBitVec.sshiftRight (24 - 8 * q) := by
    show x.toBitVec.sshiftRight' ((nI (24 - 8 * q) &&& 31).toBitVec.smod 32) = _
    rw [BitVec.sshiftRight_eq', n_sl _ (by omega)]
  rw [e]
  unfold byt
  apply Nat.eq_of_testBit_eq
  intro i
  rw [show (256 : Nat) = 2 ^ 8 by decide, Nat.testBit_mod_two_pow, Nat.testBit_mod_two_pow]
  by_cases hi : i < 8
  · have h1 : (x.toBitVec.sshiftRight (24 - 8 * q)).toNat.testBit i = (x.toBitVec.sshiftRight (24 - 8 * q)).getLsbD i := rfl
    rw [h1, BitVec.getLsbD_sshiftRight, if_pos (by omega), Nat.testBit_div_two_pow]
    have h2 : x.toBitVec.getLsbD (24 - 8 * q + i) = x.toBitVec.toNat.testBit (24 - 8 * q + i) := rfl
    rw [h2, Nat.add_comm i (24 - 8 * q), show decide (32 ≤ i) = false by simp; omega]
    simp
  · simp [hi]
theorem byt_c {x : Int32} {q : Nat} (hq : q < 4) : vp_nar .byte ((Int32.toInt8 (x >>> (nI (24 - 8 * q) &&& 31))).toInt32) = sbt (byt x q) := by
  rw [byt_i8, byt_low hq]
  exact byt_all _ (byt_lt x q)
def wd5 (x1 x2 x3 x4 x5 : Int32) (k : Nat) : Int32 := if k = 0 then x1 else if k = 1 then x2 else if k = 2 then x3 else if k = 3 then x4 else x5
def tapS (s : AS) (T : Nat) (P : Nat → Nat) : AS := (sF s, sU s, sR s, sB s, sI s, sW s, sX s, T, P)
theorem CRx.tape {σ τ : St} {s : AS} {A B F T : Nat} {P : Nat → Nat} (h : CRx σ s A B F) (hs : Sok s) (e : ∀ b, b ≠ 1 → b ≠ 2 → τ b = σ b) (h1 : τ 1 1 = nI T) (h2 : ∀ i, i < T → τ 2 i = sbt (P i)) : CRx τ (tapS s T P) A B F := by
  obtain ⟨g1, g2, g3, g4, g5, g6, g7, g8, g9, g10, g11, g12, g13, g14⟩ := h
  have hAB : (A = 202 ∧ B = 223) ∨ (A = 223 ∧ B = 202) := g1
  refine ⟨g1, g2, ?_, ?_, ?_, ?_, ?_, fun i hi => ?_, ?_, fun q => ?_, ?_, ?_, h1, h2⟩
  · rw [e 0 (by omega) (by omega)]; exact g3
  · rw [e 0 (by omega) (by omega)]; exact g4
  · exact g5.congr hs.1.R3 (fun b b1 b2 => e b (by omega) (by omega))
  · rw [e 6 (by omega) (by omega)]; exact g6
  · rw [e 6 (by omega) (by omega)]; exact g7
  · exact (g8 i hi).congr (hs.2.2.1 i hi).R3 (fun b b1 b2 => e b (by omega) (by omega))
  · rw [e 0 (by omega) (by omega)]; exact g9
  · exact (g10 q).congr (hs.2.2.2.2.1 q).R3 (fun b b1 b2 => e b (by omega) (by omega))
  · rw [e 0 (by omega) (by omega)]; exact g11
  · rw [e 0 (by omega) (by omega)]; exact g12
theorem RR.tape {σ τ : St} {s : AS} {T : Nat} {P : Nat → Nat} (h : RR σ s) (e : ∀ b, b ≠ 244 → b ≠ 249 → τ b = σ b) (g : ∀ j, j ≠ 0 → j ≠ 9 → τ 244 j = σ 244 j) (h1 : τ 244 9 = nI T) (h2 : ∀ i, i < T → τ 249 i = nI (P i)) : RR τ (tapS s T P) := by
  obtain ⟨r1, r2, r3, r4, r5, r6, r7, r8, r9⟩ := h
  refine ⟨?_, ?_, ?_, ?_, ?_, ?_, ?_, h1, h2⟩
  · rw [e 245 (by decide) (by decide)]; exact r1
  · rw [g 5 (by decide) (by decide)]; exact r2
  · rw [e 248 (by decide) (by decide)]; exact r3
  · rw [g 6 (by decide) (by decide)]; exact r4
  · rw [e 247 (by decide) (by decide)]; exact r5
  · rw [g 7 (by decide) (by decide)]; exact r6
  · rw [g 12 (by decide) (by decide)]; exact r7
/-! feed -/
theorem sh8 : ∀ i, i < 3 → nI (24 - 8 * i) + (-8) = nI (24 - 8 * (i + 1)) := by decide +kernel
theorem sh8e : nI (24 - 8 * 3) + (-8) = -8 := by decide
theorem s_X6_append {σ : St} {x : Int32} {L : Nat} {Q : St → Prop} (hL : L + 4 ≤ 400) (h1 : σ 1 1 = nI L) (hQ : ∀ τ, (∀ b, b ≠ 1 → b ≠ 2 → τ b = σ b) → τ 1 1 = nI (L + 4) → (∀ j, j < L → τ 2 j = σ 2 j) → (∀ j, j < 4 → τ 2 (L + j) = sbt (byt x j)) → Q τ) : wp_X6_append σ x Q := by
  refine LP2_nat 4 (fun i τ z => (i < 4 ∧ z = nI (24 - 8 * i) ∨ i = 4 ∧ z = -8) ∧ (∀ b, b ≠ 1 → b ≠ 2 → τ b = σ b) ∧ τ 1 1 = nI (L + i) ∧ (∀ j, j < L → τ 2 j = σ 2 j) ∧ (∀ j, j < i → τ 2 (L + j) = sbt (byt x j))) ?_ 0 _ _ (by decide) ⟨Or.inl ⟨by decide, rfl⟩, fun _ _ _ => rfl, h1, fun _ _ => rfl, fun j hj => absurd hj (by omega)⟩
  rintro ih i τ z hi ⟨hz, hne, hlen, hold, hnew⟩ hih
  unfold wp_X6_append_3
  rcases hz with ⟨hi4, rfl⟩ | ⟨rfl, rfl⟩
  · rw [n_lt0 (by omega)]
    refine ⟨fun t => t.elim, fun _ => ?_⟩
    rw [hlen, n_le (by decide) (by omega), n_cl (by omega), byt_c hi4]
    refine ⟨fun t => absurd t (by omega), fun _ => ⟨n_in (by omega) (by decide), fun τ1 t1 τ2 t2 z' hz' => ?_⟩⟩
    have a1 : τ1 1 1 = nI (L + i) := by rw [t1, su_ne (by decide)]; exact hlen
    rw [a1, n_add] at t2
    refine hih _ _ hi4 ⟨?_, fun b b1 b2 => ?_, ?_, fun j hj => ?_, fun j hj => ?_⟩
    · rcases Nat.lt_or_ge i 3 with q | q
      · exact Or.inl ⟨by omega, by rw [hz', sh8 i q]⟩
      · have e : i = 3 := by omega
        subst e
        exact Or.inr ⟨rfl, by rw [hz', sh8e]⟩
    · rw [t2, su_ne b1, t1, su_ne b2]; exact hne b b1 b2
    · rw [t2, su_at, if_pos rfl, Nat.add_assoc]
    · rw [t2, su_ne (by decide), t1, su_at, if_neg (by omega)]; exact hold j hj
    · rw [t2, su_ne (by decide), t1, su_at]
      by_cases c : j = i
      · rw [if_pos (by omega), c]
      · rw [if_neg (by omega)]; exact hnew j (by omega)
  · exact ⟨fun _ => hQ τ hne hlen hold hnew, fun t => absurd (by decide) t⟩
def fdP (s : AS) (x1 x2 x3 x4 x5 : Int32) (i : Nat) : Nat := if i < sT s then sP s i else byt (wd5 x1 x2 x3 x4 x5 ((i - sT s) / 4)) ((i - sT s) % 4)
def rFeed (s : AS) (x1 x2 x3 x4 x5 : Int32) : RS := if sT s + 20 ≤ 400 then (0, nI (sT s + 20), tapS s (sT s + 20) (fdP s x1 x2 x3 x4 x5)) else (0, -1, s)
theorem s_fstep {σ0 σ : St} {s : AS} {x x1 x2 x3 x4 x5 : Int32} {k : Nat} {Q : St → Prop} (hk : k < 5) (hT : sT s + 20 ≤ 400) (hx : x = wd5 x1 x2 x3 x4 x5 k) (h1 : σ 1 1 = nI (sT s + 4 * k)) (hne : ∀ b, b ≠ 1 → b ≠ 2 → σ b = σ0 b) (hb : ∀ i, i < sT s + 4 * k → σ 2 i = sbt (fdP s x1 x2 x3 x4 x5 i))
    (hQ : ∀ τ, (∀ b, b ≠ 1 → b ≠ 2 → τ b = σ0 b) → τ 1 1 = nI (sT s + 4 * (k + 1)) → (∀ i, i < sT s + 4 * (k + 1) → τ 2 i = sbt (fdP s x1 x2 x3 x4 x5 i)) → Q τ) : wp_X6_append σ x Q := by
  refine s_X6_append (L := sT s + 4 * k) (by omega) h1 (fun τ a1 a2 a3 a4 => hQ τ (fun b b1 b2 => (a1 b b1 b2).trans (hne b b1 b2)) (by rw [a2]; congr 1) (fun i hi => ?_))
  rcases Nat.lt_or_ge i (sT s + 4 * k) with c | c
  · rw [a3 i c]; exact hb i c
  · have e := a4 (i - (sT s + 4 * k)) (by omega)
    rw [show sT s + 4 * k + (i - (sT s + 4 * k)) = i by omega] at e
    rw [e, hx]
    unfold fdP
    rw [if_neg (by omega), show (i - sT s) / 4 = k by omega, show (i - sT s) % 4 = i - (sT s + 4 * k) by omega]
theorem s_X8_feed {σ : St} {s : AS} {x1 x2 x3 x4 x5 : Int32} {Q : Int32 → St → Prop} (h : CR σ s) (hs : Sok s) (hQ : ∀ τ, Cf σ τ → CR τ (rFeed s x1 x2 x3 x4 x5).2.2 → Q (rFeed s x1 x2 x3 x4 x5).2.1 τ) : wp_X8_feed σ x1 x2 x3 x4 x5 Q := by
  obtain ⟨A, B, F, h⟩ := h
  have hT := hs.2.2.2.2.2.1
  have h13 : σ 1 1 = nI (sT s) := h.2.2.2.2.2.2.2.2.2.2.2.2.1
  have h14 : ∀ i, i < sT s → σ 2 i = sbt (sP s i) := h.2.2.2.2.2.2.2.2.2.2.2.2.2
  unfold rFeed at hQ
  unfold wp_X8_feed
  rw [h13, n_add, n_le (by omega) (by decide)]
  refine ⟨fun c => ?_, fun c => ?_⟩
  · rw [if_pos c] at hQ
    refine s_fstep (σ0 := σ) (s := s) (x1 := x1) (x2 := x2) (x3 := x3) (x4 := x4) (x5 := x5) (k := 0) (by decide) c rfl (by rw [h13]; congr 1) (fun _ _ _ => rfl) (fun i hi => ?_) (fun τ1 a1 b1 c1 => ?_)
    · rw [h14 i (by omega)]; unfold fdP; rw [if_pos (by omega)]
    refine s_fstep (σ0 := σ) (s := s) (x1 := x1) (x2 := x2) (x3 := x3) (x4 := x4) (x5 := x5) (k := 1) (by decide) c rfl b1 a1 c1 (fun τ2 a2 b2 c2 => ?_)
    refine s_fstep (σ0 := σ) (s := s) (x1 := x1) (x2 := x2) (x3 := x3) (x4 := x4) (x5 := x5) (k := 2) (by decide) c rfl b2 a2 c2 (fun τ3 a3 b3 c3 => ?_)
    refine s_fstep (σ0 := σ) (s := s) (x1 := x1) (x2 := x2) (x3 := x3) (x4 := x4) (x5 := x5) (k := 3) (by decide) c rfl b3 a3 c3 (fun τ4 a4 b4 c4 => ?_)
    refine s_fstep (σ0 := σ) (s := s) (x1 := x1) (x2 := x2) (x3 := x3) (x4 := x4) (x5 := x5) (k := 4) (by decide) c rfl b4 a4 c4 (fun τ5 a5 b5 c5 => ?_)
    rw [b5]
    exact hQ τ5 (fun b hb => a5 b (by omega) (by omega)) ⟨A, B, F, h.tape hs a5 b5 c5⟩
  · rw [if_neg c] at hQ
    exact hQ σ (Cf.rf σ) ⟨A, B, F, h⟩
theorem s_X9_feed {σ : St} {s : AS} {x1 x2 x3 x4 x5 : Int32} {Q : Int32 → St → Prop} (h : RR σ s) (hs : Sok s) (hQ : ∀ τ, Rf σ τ → RR τ (rFeed s x1 x2 x3 x4 x5).2.2 → Q (rFeed s x1 x2 x3 x4 x5).2.1 τ) : wp_X9_feed σ x1 x2 x3 x4 x5 Q := by
  have hT := hs.2.2.2.2.2.1
  obtain ⟨r1, r2, r3, r4, r5, r6, r7, r8, r9⟩ := h
  have hR : RR σ s := ⟨r1, r2, r3, r4, r5, r6, r7, r8, r9⟩
  unfold rFeed at hQ
  unfold wp_X9_feed
  intro σ1 h1
  have m : ∀ b, b ≠ 244 → σ1 b = σ b := fun b hb => by rw [h1, su_ne hb]
  have g : ∀ j, j ≠ 0 → σ1 244 j = σ 244 j := fun j hj => by rw [h1, su_at, if_neg hj]
  rw [g 9 (by decide), r8, n_add, n_le (by omega) (by decide)]
  refine ⟨fun c => ?_, fun c => ?_⟩
  · rw [if_pos c] at hQ
    refine LP2_nat 20 (fun i τ z => z = nI i ∧ (∀ b, b ≠ 244 → b ≠ 249 → τ b = σ b) ∧ (∀ j, j ≠ 0 → j ≠ 9 → τ 244 j = σ 244 j) ∧ τ 244 9 = nI (sT s + i) ∧ ∀ j, j < sT s + i → τ 249 j = nI (fdP s x1 x2 x3 x4 x5 j)) ?_ 0 _ _ (Nat.zero_le _) ⟨rfl, fun b b1 _ => m b b1, fun j j1 _ => g j j1, by rw [g 9 (by decide)]; exact r8, fun j hj => ?_⟩
    · rintro ih i τ _ hi ⟨rfl, hne, hg, hlen, hb⟩ hih
      have go : ∀ x, i < 20 → x = wd5 x1 x2 x3 x4 x5 (i / 4) → wp_X9_feed_76 τ x1 x2 x3 x4 x5 (nI i) x ih Q := by
        intro x hi20 hx
        unfold wp_X9_feed_76
        rw [hlen, n_cl (by omega), n_rem (by omega) (by decide) (by decide), n_mul, n_sub (by omega), byt_r (by omega)]
        refine ⟨n_in (by omega) (by decide), fun τ1 t1 τ2 t2 z hz => ?_⟩
        have a1 : τ1 244 9 = nI (sT s + i) := by rw [t1, su_ne (by decide)]; exact hlen
        rw [a1, n_add] at t2
        rw [hz, n_add]
        refine hih _ _ hi20 ⟨rfl, fun b b1 b2 => ?_, fun j j1 j2 => ?_, ?_, fun j hj => ?_⟩
        · rw [t2, su_ne b1, t1, su_ne b2]; exact hne b b1 b2
        · rw [t2, su_at, if_neg j2, t1, su_ne (by decide)]; exact hg j j1 j2
        · rw [t2, su_at, if_pos rfl, Nat.add_assoc]
        · rw [t2, su_ne (by decide), t1, su_at]
          by_cases e : j = sT s + i
          · rw [if_pos e, hx, e]
            unfold fdP
            rw [if_neg (by omega), Nat.add_sub_cancel_left]
          · rw [if_neg e]; exact hb j (by omega)
      unfold wp_X9_feed_23
      rw [hlen]
      simp (disch := omega) only [forall_eq, forall_eq', n_inT, n_cl, n_lt, n_le, n_eq, n_eq0, n_lt0, n_ge0, n_gt0, n_le0, n_em, n_me, n_add, n_mul, n_00, n_s01, n_1z, n_0z, Nat.one_ne_zero, eq_self, ne_eq, true_and, and_true, true_implies, false_implies, implies_true, not_true_eq_false, not_false_eq_true, false_and, and_false, or_false, false_or, or_true, true_or]
      refine ⟨fun q => ?_, fun q => ⟨fun q4 => ⟨fun q8 => ⟨fun q12 => ⟨fun q16 => go _ (by omega) ?_, fun q16 => go _ (by omega) ?_⟩, fun q12 => go _ (by omega) ?_⟩, fun q8 => go _ (by omega) ?_⟩, fun q4 => go _ (by omega) ?_⟩⟩
      · have ei : i = 20 := by omega
        subst ei
        exact hQ τ (fun b hb => hne b (by omega) (by omega)) (hR.tape hne hg hlen hb)
      · rw [show i / 4 = 4 by omega]; rfl
      · rw [show i / 4 = 3 by omega]; rfl
      · rw [show i / 4 = 2 by omega]; rfl
      · rw [show i / 4 = 1 by omega]; rfl
      · rw [show i / 4 = 0 by omega]; rfl
    · rw [m 249 (by decide), r9 j (by omega)]
      unfold fdP
      rw [if_pos (by omega)]
  · rw [if_neg c] at hQ
    exact hQ σ1 (thr_rf h1) (hR.thr h1)
theorem Sok.feed {s : AS} (h : Sok s) (x1 x2 x3 x4 x5 : Int32) : Sok (rFeed s x1 x2 x3 x4 x5).2.2 := by
  unfold rFeed
  by_cases c : sT s + 20 ≤ 400
  · rw [if_pos c]
    refine ⟨h.1, h.2.1, h.2.2.1, h.2.2.2.1, h.2.2.2.2.1, c, fun i hi => ?_⟩
    show fdP s x1 x2 x3 x4 x5 i < 256
    unfold fdP
    split
    · rename_i q
      exact h.2.2.2.2.2.2 i q
    · exact byt_lt _ _
  · rw [if_neg c]; exact h
/-! end -/
def rEnd (s : AS) (x : Int32) : RS := if ¬ x < 0 ∧ x ≤ nI (sT s) then (0, nI 1, tapS s (cl x) (sP s)) else (0, nI 0, s)
theorem end_n {s : AS} (hs : Sok s) {x : Int32} (h : ¬ x < 0 ∧ x ≤ nI (sT s)) : x = nI (cl x) ∧ cl x ≤ sT s := by
  have hT := hs.2.2.2.2.2.1
  obtain ⟨e, hk⟩ := n_ofI h.1
  refine ⟨e, ?_⟩
  have := h.2
  rw [e] at this
  exact (n_le hk (by omega)).mp this
theorem s_X8_end {σ : St} {s : AS} {x : Int32} {Q : Int32 → St → Prop} (h : CR σ s) (hs : Sok s) (hQ : ∀ τ, Cf σ τ → CR τ (rEnd s x).2.2 → Q (rEnd s x).2.1 τ) : wp_X8_end σ x Q := by
  obtain ⟨A, B, F, h⟩ := h
  have h13 : σ 1 1 = nI (sT s) := h.2.2.2.2.2.2.2.2.2.2.2.2.1
  have h14 : ∀ i, i < sT s → σ 2 i = sbt (sP s i) := h.2.2.2.2.2.2.2.2.2.2.2.2.2
  unfold rEnd at hQ
  unfold wp_X8_end
  rw [h13]
  have no : ¬ (¬ x < 0 ∧ x ≤ nI (sT s)) → Q (nI 0) σ := fun c => by
    rw [if_neg c] at hQ
    exact hQ σ (Cf.rf σ) ⟨A, B, F, h⟩
  refine ⟨fun c => no (fun q => q.1 c), fun c => ⟨fun c2 τ hτ => ?_, fun c2 => no (fun q => c2 q.2)⟩⟩
  rw [if_pos ⟨c, c2⟩] at hQ
  obtain ⟨e1, e2⟩ := end_n hs ⟨c, c2⟩
  refine hQ τ (fun b hb => by rw [hτ, su_ne (by omega)]) ⟨A, B, F, h.tape hs (fun b b1 _ => by rw [hτ, su_ne b1]) (by rw [hτ, su_at, if_pos rfl, ← e1]) (fun i hi => ?_)⟩
  rw [hτ, su_ne (by decide)]
  exact h14 i (by omega)
theorem s_X9_end {σ : St} {s : AS} {x : Int32} {Q : Int32 → St → Prop} (h : RR σ s) (hs : Sok s) (hQ : ∀ τ, Rf σ τ → RR τ (rEnd s x).2.2 → Q (rEnd s x).2.1 τ) : wp_X9_end σ x Q := by
  have r8 : σ 244 9 = nI (sT s) := h.2.2.2.2.2.2.2.1
  have r9 := h.2.2.2.2.2.2.2.2
  unfold rEnd at hQ
  unfold wp_X9_end
  intro σ1 h1
  have g9 : σ1 244 9 = nI (sT s) := by rw [h1, su_at, if_neg (by decide)]; exact r8
  rw [g9]
  refine s_X9_isIn (fun a b => ⟨fun _ τ hτ => ?_, fun t => absurd t (by decide)⟩) (fun q => ⟨fun t => absurd rfl t, fun _ => ?_⟩)
  · have a' := ge0_iff.mp a
    rw [if_pos ⟨a', b⟩] at hQ
    obtain ⟨e1, e2⟩ := end_n hs ⟨a', b⟩
    refine hQ τ (fun b hb => by rw [hτ, su_ne (by omega)]; exact thr_rf h1 b hb) (h.tape (fun b b1 _ => by rw [hτ, su_ne b1, h1, su_ne b1]) (fun j j1 j2 => by rw [hτ, su_at, if_neg j2, h1, su_at, if_neg j1]) (by rw [hτ, su_at, if_pos rfl, ← e1]) (fun i hi => ?_))
    rw [hτ, su_ne (by decide), h1, su_ne (by decide)]
    exact r9 i (by omega)
  · rw [if_neg (fun t => q ⟨ge0_iff.mpr t.1, t.2⟩)] at hQ
    exact hQ σ1 (thr_rf h1) (h.thr h1)
theorem Sok.end {s : AS} (h : Sok s) (x : Int32) : Sok (rEnd s x).2.2 := by
  unfold rEnd
  by_cases c : ¬ x < 0 ∧ x ≤ nI (sT s)
  · rw [if_pos c]
    obtain ⟨e1, e2⟩ := end_n h c
    exact ⟨h.1, h.2.1, h.2.2.1, h.2.2.2.1, h.2.2.2.2.1, Nat.le_trans e2 h.2.2.2.2.2.1, fun i hi => h.2.2.2.2.2.2 i (Nat.lt_of_lt_of_le hi e2)⟩
  · rw [if_neg c]; exact h
