/-! COUNTS -/
def kst (f : Nat → Int32) (n : Nat) : Nat := sumN (fun k => gsd f k) n
def ksf (f : Nat → Int32) (n : Nat) : Nat := sumN (fun k => if hm f k = 2 ^ gR f - 1 then 1 else 0) n
def lso (f : Nat → Int32) (k n : Nat) : Nat := sumN (fun r => if gsd f k = 1 ∧ ghd f r k ≠ 1 then 1 else 0) n
def klo (f : Nat → Int32) (n : Nat) : Nat := sumN (fun k => lso f k (gR f)) n
def khd (f : Nat → Int32) (r n : Nat) : Nat := sumN (fun k => if ghd f r k = 1 then 1 else 0) n
def kld (f : Nat → Int32) (r p n : Nat) : Nat := sumN (fun k => if ghd f r k = 1 ∧ kp f k r = p + 1 then 1 else 0) n
def alw (f : Nat → Int32) (p k : Nat) : Bool := (List.range (gR f)).all (fun r => decide (ghd f r k = 1 → kp f k r = p + 1))
def krk (f : Nat → Int32) (p n : Nat) : Nat := sumN (fun k => if hm f k ≠ 0 ∧ alw f p k = true then 1 else 0) n
theorem s_X1_keysStored {σ : St} {A : Nat} {f : Nat → Int32} {Q : Int32 → Prop} (h : NetRep σ A f) (hf : RowOK f) (hQ : Q (nI (kst f 100))) : wp_X1_keysStored σ A Q := by
  refine LP2_nat 100 (fun i x y => y = nI i ∧ x = nI (kst f i)) ?_ 0 _ _ (Nat.zero_le _) ⟨rfl, rfl⟩
  rintro ih i _ _ hi ⟨rfl, rfl⟩ hih
  unfold wp_X1_keysStored_4
  simp (disch := omega) only [forall_eq, forall_eq', n_inT, n_cl, n_lt, n_le, n_eq, n_eq0, n_lt0, n_ge0, n_gt0, n_le0, n_em, n_me, n_add, n_mul, n_00, n_s01, n_1z, n_0z, Nat.one_ne_zero, eq_self, ne_eq, true_and, and_true, true_implies, false_implies, implies_true, not_true_eq_false, not_false_eq_true, false_and, and_false, or_false, false_or, or_true, true_or]
  refine ⟨fun q => by rw [show i = 100 by omega]; exact hQ, fun q => ⟨n_in (by omega) (by decide), ?_⟩⟩
  have hil : i < 100 := by omega
  have g6 := (hf.2.2.2.2.2.1 i hil).2
  rw [h.va i hil]
  by_cases c : gsd f i = 1
  · have g7 := (hf.2.2.2.2.2.2.1 i hil c).2
    rw [if_pos c, n_em (by omega)]
    refine ⟨fun t => t.elim, fun _ => hih _ _ hil ⟨rfl, ?_⟩⟩
    show _ = nI (kst f i + gsd f i)
    rw [c]
  · rw [if_neg c]
    refine ⟨fun _ => hih _ _ hil ⟨rfl, ?_⟩, fun t => absurd rfl t⟩
    show _ = nI (kst f i + gsd f i)
    rw [show gsd f i = 0 by omega, Nat.add_zero]
theorem s_X9_storedKeys {σ : St} {f : Nat → Int32} {Q : Int32 → Prop} (hσ : σ 245 = f) (hf : RowOK f) (hQ : Q (nI (kst f 100))) : wp_X9_storedKeys σ Q := by
  refine LP2_nat 100 (fun i x y => y = nI i ∧ x = nI (kst f i)) ?_ 0 _ _ (Nat.zero_le _) ⟨rfl, rfl⟩
  rintro ih i _ _ hi ⟨rfl, rfl⟩ hih
  unfold wp_X9_storedKeys_4
  simp (disch := omega) only [forall_eq, forall_eq', n_inT, n_cl, n_lt, n_le, n_eq, n_eq0, n_lt0, n_ge0, n_gt0, n_le0, n_em, n_me, n_add, n_mul, n_00, n_s01, n_1z, n_0z, Nat.one_ne_zero, eq_self, ne_eq, true_and, and_true, true_implies, false_implies, implies_true, not_true_eq_false, not_false_eq_true, false_and, and_false, or_false, false_or, or_true, true_or]
  refine ⟨fun q => by rw [show i = 100 by omega]; exact hQ, fun q => ?_⟩
  have hil : i < 100 := by omega
  rw [hσ, (hf.2.2.2.2.2.1 i hil).1, n_add]
  exact hih _ _ hil ⟨rfl, rfl⟩
theorem pow_R {f : Nat → Int32} (hf : RowOK f) : (nI 1 <<< (nI (gR f) &&& 31)) - nI 1 = nI (2 ^ gR f - 1) ∧ 2 ^ gR f - 1 < 8 ∧ 2 ^ gR f - 1 ≠ 0 := by
  obtain ⟨-, h1, h3⟩ := hf.2.2.2.2.1
  have : gR f = 1 ∨ gR f = 2 ∨ gR f = 3 := by omega
  rcases this with e | e | e <;> rw [e] <;> decide
theorem s_X1_keysSafe {σ : St} {A : Nat} {f : Nat → Int32} {Q : Int32 → Prop} (h : NetRep σ A f) (hf : RowOK f) (hQ : Q (nI (ksf f 100))) : wp_X1_keysSafe σ A Q := by
  obtain ⟨p1, p2, p3⟩ := pow_R hf
  unfold wp_X1_keysSafe
  rw [h.re, p1]
  intro x hx
  rw [hx]
  refine LP2_nat 100 (fun i x y => y = nI i ∧ x = nI (ksf f i)) ?_ 0 _ _ (Nat.zero_le _) ⟨rfl, rfl⟩
  rintro ih i _ _ hi ⟨rfl, rfl⟩ hih
  unfold wp_X1_keysSafe_13
  simp (disch := omega) only [forall_eq, forall_eq', n_inT, n_cl, n_lt, n_le, n_eq, n_eq0, n_lt0, n_ge0, n_gt0, n_le0, n_em, n_me, n_add, n_mul, n_00, n_s01, n_1z, n_0z, Nat.one_ne_zero, eq_self, ne_eq, true_and, and_true, true_implies, false_implies, implies_true, not_true_eq_false, not_false_eq_true, false_and, and_false, or_false, false_or, or_true, true_or]
  refine ⟨fun q => by rw [show i = 100 by omega]; exact hQ, fun q => ⟨n_in (by omega) (by decide), ?_⟩⟩
  have hil : i < 100 := by omega
  have hl := hm_lt f i
  rw [h.hd i hil, n_eq (by omega) (by omega)]
  refine ⟨fun c => hih _ _ hil ⟨rfl, ?_⟩, fun c => hih _ _ hil ⟨rfl, ?_⟩⟩
  · show _ = nI (ksf f i + (if hm f i = 2 ^ gR f - 1 then 1 else 0))
    rw [if_neg c, Nat.add_zero]
  · show _ = nI (ksf f i + (if hm f i = 2 ^ gR f - 1 then 1 else 0))
    rw [if_pos c]
theorem s_X9_safeKeys {σ : St} {f : Nat → Int32} {Q : Int32 → Prop} (hσ : σ 245 = f) (hf : RowOK f) (hQ : Q (nI (ksf f 100))) : wp_X9_safeKeys σ Q := by
  obtain ⟨p1, p2, p3⟩ := pow_R hf
  have h37 : σ 245 37 = nI (gR f) := by rw [hσ]; exact hf.2.2.2.2.1.1
  refine LP2_nat 100 (fun i x y => y = nI i ∧ x = nI (ksf f i)) ?_ 0 _ _ (Nat.zero_le _) ⟨rfl, rfl⟩
  rintro ih i _ _ hi ⟨rfl, rfl⟩ hih
  unfold wp_X9_safeKeys_4
  rw [h37, p1]
  simp (disch := omega) only [forall_eq, forall_eq', n_inT, n_cl, n_lt, n_le, n_eq, n_eq0, n_lt0, n_ge0, n_gt0, n_le0, n_em, n_me, n_add, n_mul, n_00, n_s01, n_1z, n_0z, Nat.one_ne_zero, eq_self, ne_eq, true_and, and_true, true_implies, false_implies, implies_true, not_true_eq_false, not_false_eq_true, false_and, and_false, or_false, false_or, or_true, true_or]
  refine ⟨fun q => by rw [show i = 100 by omega]; exact hQ, fun q => ?_⟩
  have hil : i < 100 := by omega
  have hl := hm_lt f i
  have g6 := hf.2.2.2.2.2.1 i hil
  have yes : hm f i = 2 ^ gR f - 1 → ih (nI (ksf f i + 1)) (nI (i + 1)) := fun c => hih _ _ hil ⟨rfl, by
    show _ = nI (ksf f i + (if hm f i = 2 ^ gR f - 1 then 1 else 0))
    rw [if_pos c]⟩
  have no : ¬ hm f i = 2 ^ gR f - 1 → ih (nI (ksf f i + 0)) (nI (i + 1)) := fun c => hih _ _ hil ⟨rfl, by
    show _ = nI (ksf f i + (if hm f i = 2 ^ gR f - 1 then 1 else 0))
    rw [if_neg c]⟩
  rw [hσ, g6.1, n_eq (by omega) (by decide)]
  refine ⟨fun c => no (fun t => c (hm_sd hf hil (by omega))), fun c => s_X9_heldIn (by rw [hσ]; exact hf) hil ?_⟩
  rw [hσ, n_eq (by omega) (by omega)]
  exact ⟨no, yes⟩
theorem lso_pc {f : Nat → Int32} (hf : RowOK f) {k : Nat} (hk : k < 100) : lso f k (gR f) + pc (hm f k) 10 = gsd f k * gR f := by
  have hR := hf.2.2.2.2.1.2.2
  have g6 := (hf.2.2.2.2.2.1 k hk).2
  have key : ∀ n, n ≤ gR f → lso f k n + pc (hm f k) n = gsd f k * n := by
    intro n
    induction n with
    | zero => intro _; rfl
    | succ n ih =>
      intro hn
      have ih := ih (by omega)
      have h8 := ghd_ok hf (r := n) (by omega) hk
      show lso f k n + (if gsd f k = 1 ∧ ghd f n k ≠ 1 then 1 else 0) + (pc (hm f k) n + (if (hm f k).testBit n then 1 else 0)) = _
      rw [tb_hm, Nat.mul_succ]
      have h3 : n < 3 := by omega
      by_cases c : gsd f k = 1
      · by_cases d : ghd f n k = 1
        · simp only [c, d, h3] at *
          simp
          omega
        · simp only [c, h3] at *
          simp [d]
          omega
      · have d : ghd f n k = 0 := h8.2.1 (by omega)
        have c0 : gsd f k = 0 := by omega
        simp only [c0, d, h3] at *
        simp
        omega
  have top : ∀ n, gR f ≤ n → pc (hm f k) n = pc (hm f k) (gR f) := by
    intro n hn
    induction n with
    | zero => rw [show gR f = 0 by omega]
    | succ n ih =>
      by_cases e : gR f = n + 1
      · rw [e]
      · show pc (hm f k) n + (if (hm f k).testBit n then 1 else 0) = _
        rw [ih (by omega), tb_hm]
        by_cases h3 : n < 3
        · rw [(ghd_ok hf h3 hk).2.2 (by omega)]; simp
        · simp [h3]
  rw [top 10 (by omega)]
  exact key _ (Nat.le_refl _)
theorem klo_eq {f : Nat → Int32} (hf : RowOK f) : ∀ n, n ≤ 100 → klo f n + sumN (fun k => pc (hm f k) 10) n = kst f n * gR f
  | 0, _ => by show 0 + 0 = 0 * gR f; rw [Nat.zero_mul]
  | n + 1, h => by
    show klo f n + lso f n (gR f) + (sumN (fun k => pc (hm f k) 10) n + pc (hm f n) 10) = (kst f n + gsd f n) * gR f
    have h1 := klo_eq hf n (by omega)
    have h2 := lso_pc hf (show n < 100 by omega)
    rw [Nat.add_mul]
    omega
theorem s_X1_copiesLost {σ : St} {A : Nat} {f : Nat → Int32} {Q : Int32 → Prop} (h : NetRep σ A f) (hf : RowOK f) (hQ : Q (nI (klo f 100))) : wp_X1_copiesLost σ A Q := by
  have hall := klo_eq hf 100 (Nat.le_refl _)
  unfold wp_X1_copiesLost
  refine s_X1_keysStored h hf ?_
  rw [h.re, n_mul]
  intro x hx
  rw [hx]
  refine LP2_nat 100 (fun i x y => y = nI i ∧ x = nI (kst f 100 * gR f - sumN (fun k => pc (hm f k) 10) i)) ?_ 0 _ _ (Nat.zero_le _) ⟨rfl, rfl⟩
  rintro ih i _ _ hi ⟨rfl, rfl⟩ hih
  unfold wp_X1_copiesLost_12
  simp (disch := omega) only [forall_eq, forall_eq', n_inT, n_cl, n_lt, n_le, n_eq, n_eq0, n_lt0, n_ge0, n_gt0, n_le0, n_em, n_me, n_add, n_mul, n_00, n_s01, n_1z, n_0z, Nat.one_ne_zero, eq_self, ne_eq, true_and, and_true, true_implies, false_implies, implies_true, not_true_eq_false, not_false_eq_true, false_and, and_false, or_false, false_or, or_true, true_or]
  refine ⟨fun q => ?_, fun q => ⟨n_in (by omega) (by decide), ?_⟩⟩
  · rw [show i = 100 by omega, show kst f 100 * gR f - sumN (fun k => pc (hm f k) 10) 100 = klo f 100 by omega]; exact hQ
  · have hil : i < 100 := by omega
    have hl := hm_lt f i
    rw [h.hd i hil]
    refine s_J6_bitCount (by omega) ?_
    have hm1 := sumN_mono (fun k => pc (hm f k) 10) (m := i + 1) 100 (by omega)
    have hm2 : sumN (fun k => pc (hm f k) 10) (i + 1) = sumN (fun k => pc (hm f k) 10) i + pc (hm f i) 10 := rfl
    rw [n_sub (by omega)]
    refine hih _ _ hil ⟨rfl, ?_⟩
    rw [hm2]
    congr 1
    omega
theorem s_X9_lostCopies {σ : St} {f : Nat → Int32} {Q : Int32 → Prop} (hσ : σ 245 = f) (hf : RowOK f) (hQ : Q (nI (klo f 100))) : wp_X9_lostCopies σ Q := by
  have hR := hf.2.2.2.2.1.2.2
  have h37 : σ 245 37 = nI (gR f) := by rw [hσ]; exact hf.2.2.2.2.1.1
  refine LP2_nat 100 (fun i x y => y = nI i ∧ x = nI (klo f i)) ?_ 0 _ _ (Nat.zero_le _) ⟨rfl, rfl⟩
  rintro ih i _ _ hi ⟨rfl, rfl⟩ hih
  unfold wp_X9_lostCopies_4
  simp (disch := omega) only [forall_eq, forall_eq', n_inT, n_cl, n_lt, n_le, n_eq, n_eq0, n_lt0, n_ge0, n_gt0, n_le0, n_em, n_me, n_add, n_mul, n_00, n_s01, n_1z, n_0z, Nat.one_ne_zero, eq_self, ne_eq, true_and, and_true, true_implies, false_implies, implies_true, not_true_eq_false, not_false_eq_true, false_and, and_false, or_false, false_or, or_true, true_or]
  refine ⟨fun q => by rw [show i = 100 by omega]; exact hQ, fun q => ?_⟩
  have hil : i < 100 := by omega
  have g6 := hf.2.2.2.2.2.1 i hil
  refine LP2_nat (gR f) (fun r x y => y = nI r ∧ x = nI (klo f i + lso f i r)) ?_ 0 _ _ (Nat.zero_le _) ⟨rfl, rfl⟩
  rintro ih2 r _ _ hr ⟨rfl, rfl⟩ hih2
  unfold wp_X9_lostCopies_12
  rw [h37]
  simp (disch := omega) only [forall_eq, forall_eq', n_inT, n_cl, n_lt, n_le, n_eq, n_eq0, n_lt0, n_ge0, n_gt0, n_le0, n_em, n_me, n_add, n_mul, n_00, n_s01, n_1z, n_0z, Nat.one_ne_zero, eq_self, ne_eq, true_and, and_true, true_implies, false_implies, implies_true, not_true_eq_false, not_false_eq_true, false_and, and_false, or_false, false_or, or_true, true_or]
  refine ⟨fun q2 => hih _ _ hil ⟨rfl, by rw [show r = gR f by omega]; rfl⟩, fun q2 => ?_⟩
  have hrl : r < gR f := by omega
  have yes : (gsd f i = 1 ∧ ghd f r i ≠ 1) → ih2 (nI (klo f i + lso f i r + 1)) (nI (r + 1)) := fun c => hih2 _ _ hrl ⟨rfl, by
    show _ = nI (klo f i + (lso f i r + (if gsd f i = 1 ∧ ghd f r i ≠ 1 then 1 else 0)))
    rw [if_pos c, Nat.add_assoc]⟩
  have no : ¬ (gsd f i = 1 ∧ ghd f r i ≠ 1) → ih2 (nI (klo f i + lso f i r + 0)) (nI (r + 1)) := fun c => hih2 _ _ hrl ⟨rfl, by
    show _ = nI (klo f i + (lso f i r + (if gsd f i = 1 ∧ ghd f r i ≠ 1 then 1 else 0)))
    rw [if_neg c, Nat.add_assoc]⟩
  rw [hσ, g6.1, n_eq (by omega) (by decide)]
  refine ⟨fun c => no (fun t => c t.1), fun c => s_X9_isHeld (by rw [hσ]; exact hf) (by omega) hil (fun d => ?_) (fun d => ?_)⟩
  · rw [hσ] at d
    exact ⟨fun _ => no (fun t => t.2 d), fun t => absurd t (by decide)⟩
  · rw [hσ] at d
    exact ⟨fun t => absurd rfl t, fun _ => yes ⟨c, d⟩⟩
def qCount (s : AS) (x : Int32) : Int32 := if x = nI 0 then nI (gR (sF s)) else if x = nI 1 then nI (bits (gst (sF s)) 1) else if x = nI 2 then nI (bits (gst (sF s)) 2) else if x = nI 3 then nI (gK (sF s)) else if x = nI 4 then nI (kst (sF s) 100) else if x = nI 5 then nI (ksf (sF s) 100) else if x = nI 6 then nI (klo (sF s) 100) else if x = nI 7 then nI (sU s) else -1
theorem s_X8_count {σ : St} {s : AS} {x : Int32} {Q : Int32 → Prop} (h : CR σ s) (hs : Sok s) (hQ : Q (qCount s x)) : wp_X8_count σ x Q := by
  obtain ⟨A, e, l, hN, -⟩ := h.net
  have h2 : ∀ n, n < 10 → gst (sF s) n ≤ 2 := fun n hn => (hs.1.1.1 n hn).2
  have h6 : σ 6 2 = nI (sU s) := by obtain ⟨A, B, F, h⟩ := h; exact h.2.2.2.2.2.2.1
  unfold qCount at hQ
  unfold wp_X8_count
  rw [e, hN.re, hN.ma, h6]
  refine ⟨fun c => ⟨l, ?_⟩, fun c0 => ⟨fun c => ⟨l, s_X1_nodesThatAre hN.st h2 (by decide) ?_⟩, fun c1 => ⟨fun c => ⟨l, s_X1_nodesThatAre hN.st h2 (by decide) ?_⟩, fun c2 => ⟨fun c => ⟨l, ?_⟩, fun c3 => ⟨fun c => ⟨l, s_X1_keysStored hN hs.1.1 ?_⟩, fun c4 => ⟨fun c => ⟨l, s_X1_keysSafe hN hs.1.1 ?_⟩, fun c5 => ⟨fun c => ⟨l, s_X1_copiesLost hN hs.1.1 ?_⟩, fun c6 => ⟨fun c => ?_, fun c => ?_⟩⟩⟩⟩⟩⟩⟩⟩
  · rw [if_pos c] at hQ; exact hQ
  · rw [if_neg c0, if_pos c] at hQ; exact hQ
  · rw [if_neg c0, if_neg c1, if_pos c] at hQ; exact hQ
  · rw [if_neg c0, if_neg c1, if_neg c2, if_pos c] at hQ; exact hQ
  · rw [if_neg c0, if_neg c1, if_neg c2, if_neg c3, if_pos c] at hQ; exact hQ
  · rw [if_neg c0, if_neg c1, if_neg c2, if_neg c3, if_neg c4, if_pos c] at hQ; exact hQ
  · rw [if_neg c0, if_neg c1, if_neg c2, if_neg c3, if_neg c4, if_neg c5, if_pos c] at hQ; exact hQ
  · rw [if_neg c0, if_neg c1, if_neg c2, if_neg c3, if_neg c4, if_neg c5, if_neg c6, if_pos c] at hQ; exact hQ
  · rw [if_neg c0, if_neg c1, if_neg c2, if_neg c3, if_neg c4, if_neg c5, if_neg c6, if_neg c] at hQ; exact hQ
theorem s_X9_count {σ : St} {s : AS} {x : Int32} {Q : Int32 → St → Prop} (h : RR σ s) (hs : Sok s) (hQ : ∀ τ, Rf σ τ → RR τ s → Q (qCount s x) τ) : wp_X9_count σ x Q := by
  unfold qCount at hQ
  unfold wp_X9_count
  intro σ1 h1
  have hR1 := h.thr h1
  have hQ := hQ σ1 (thr_rf h1) hR1
  have hrow : RowOK (σ1 245) := by rw [hR1.1]; exact hs.1.1
  have e1 : gst (σ1 245) = gst (sF s) := by rw [hR1.1]
  rw [show σ1 245 37 = nI (gR (sF s)) by rw [hR1.1]; exact hs.1.1.2.2.2.2.1.1, show σ1 245 30 = nI (gK (sF s)) by rw [hR1.1]; exact hs.1.1.2.2.1.1, hR1.2.1]
  refine ⟨fun c => ?_, fun c0 => ⟨fun c => s_X9_bitsOf hrow (by decide) ?_, fun c1 => ⟨fun c => s_X9_bitsOf hrow (by decide) ?_, fun c2 => ⟨fun c => ?_, fun c3 => ⟨fun c => s_X9_storedKeys hR1.1 hs.1.1 ?_, fun c4 => ⟨fun c => s_X9_safeKeys hR1.1 hs.1.1 ?_, fun c5 => ⟨fun c => s_X9_lostCopies hR1.1 hs.1.1 ?_, fun c6 => ⟨fun c => ?_, fun c => ?_⟩⟩⟩⟩⟩⟩⟩⟩
  · rw [if_pos c] at hQ; exact hQ
  · rw [if_neg c0, if_pos c] at hQ; rw [e1]; exact hQ
  · rw [if_neg c0, if_neg c1, if_pos c] at hQ; rw [e1]; exact hQ
  · rw [if_neg c0, if_neg c1, if_neg c2, if_pos c] at hQ; exact hQ
  · rw [if_neg c0, if_neg c1, if_neg c2, if_neg c3, if_pos c] at hQ; exact hQ
  · rw [if_neg c0, if_neg c1, if_neg c2, if_neg c3, if_neg c4, if_pos c] at hQ; exact hQ
  · rw [if_neg c0, if_neg c1, if_neg c2, if_neg c3, if_neg c4, if_neg c5, if_pos c] at hQ; exact hQ
  · rw [if_neg c0, if_neg c1, if_neg c2, if_neg c3, if_neg c4, if_neg c5, if_neg c6, if_pos c] at hQ; exact hQ
  · rw [if_neg c0, if_neg c1, if_neg c2, if_neg c3, if_neg c4, if_neg c5, if_neg c6, if_neg c] at hQ; exact hQ
/-! risk -/
theorem alw_iff {f : Nat → Int32} {p k : Nat} : alw f p k = true ↔ ∀ r, r < gR f → ghd f r k = 1 → kp f k r = p + 1 := by
  unfold alw
  simp only [List.all_eq_true, List.mem_range, decide_eq_true_eq]
theorem s_X1_isHeldByNoneBut {σ : St} {A k p : Nat} {f : Nat → Int32} {Q : Int32 → Prop} (h : NetRep σ A f) (hf : Good f) (hk : k < 100) (hp : p < 10) (h1 : hm f k ≠ 0 ∧ alw f p k = true → Q (nI 1)) (h0 : ¬ (hm f k ≠ 0 ∧ alw f p k = true) → Q (nI 0)) : wp_X1_isHeldByNoneBut σ A (nI k) (nI p) Q := by
  have hR := hf.R3
  have hl := hm_lt f k
  refine LP1_nat (gR f) (fun i x => x = nI i ∧ ∀ r, r < i → ghd f r k = 1 → kp f k r = p + 1) ?_ 0 _ (Nat.zero_le _) ⟨rfl, fun r hr => absurd hr (by omega)⟩
  rintro ih i _ hi ⟨rfl, hall⟩ hih
  unfold wp_X1_isHeldByNoneBut_2
  rw [h.re]
  simp (disch := omega) only [forall_eq, forall_eq', n_inT, n_cl, n_lt, n_le, n_eq, n_eq0, n_lt0, n_ge0, n_gt0, n_le0, n_em, n_me, n_add, n_mul, n_00, n_s01, n_1z, n_0z, Nat.one_ne_zero, eq_self, ne_eq, true_and, and_true, true_implies, false_implies, implies_true, not_true_eq_false, not_false_eq_true, false_and, and_false, or_false, false_or, or_true, true_or]
  refine ⟨fun q => ?_, fun q => ?_⟩
  · have ei : i = gR f := by omega
    subst ei
    unfold wp_X1_isHeldByNoneBut_37
    rw [n_cl (by omega), h.hd k hk, n_eq0 (by omega)]
    exact ⟨n_in hk (by decide), fun c => h0 (fun t => t.1 c), fun c => h1 ⟨c, alw_iff.mpr hall⟩⟩
  · have hil : i < gR f := by omega
    refine s_X1_isHeld (h.hd k hk) hl hk (by omega) (fun c => ⟨fun t => absurd t (by decide), fun _ => ?_⟩) (fun c => ⟨fun _ => hih _ hil ⟨rfl, fun r hr e => ?_⟩, fun t => absurd rfl t⟩)
    · refine s_X1_isHeldBy (h.sp i hil) (hf.2 i hil).1.1 (h.hd k hk) hl hk (by omega) hp (fun d1 d2 => ⟨fun _ => hih _ hil ⟨rfl, fun r hr e => ?_⟩, fun t => absurd t (by decide)⟩) (fun d => ⟨fun t => absurd rfl t, fun _ => h0 (fun t => ?_)⟩)
      · rcases Nat.lt_or_ge r i with u | u
        · exact hall r u e
        · rw [show r = i by omega]; exact d2
      · have hg : ghd f i k = 1 := by
          rw [tb_hm] at c
          simp at c
          exact c.2
        exact d ⟨c, alw_iff.mp t.2 i hil hg⟩
    · rcases Nat.lt_or_ge r i with u | u
      · exact hall r u e
      · rw [show r = i by omega] at e
        rw [tb_hm, e] at c
        simp at c
        omega
theorem s_X9_isAllWith {σ : St} {k p : Nat} {f : Nat → Int32} {Q : Int32 → St → Prop} (hσ : σ 245 = f) (hf : Good f) (hk : k < 100) (hp : p < 10) (h1 : alw f p k = true → ∀ τ, Bx σ τ → Q (nI 1) τ) (h0 : ¬ alw f p k = true → ∀ τ, Bx σ τ → Q (nI 0) τ) : wp_X9_isAllWith σ (nI k) (nI p) Q := by
  have hR := hf.R3
  refine LP2_nat (gR f) (fun i τ x => x = nI i ∧ Bx σ τ ∧ ∀ r, r < i → ghd f r k = 1 → kp f k r = p + 1) ?_ 0 _ _ (Nat.zero_le _) ⟨rfl, Bx.rf σ, fun r hr => absurd hr (by omega)⟩
  rintro ih i τ _ hi ⟨rfl, hB, hall⟩ hih
  have h245 : τ 245 = f := by rw [hB.m]; exact hσ
  unfold wp_X9_isAllWith_2
  rw [h245, hf.1.2.2.2.2.1.1]
  simp (disch := omega) only [forall_eq, forall_eq', n_inT, n_cl, n_lt, n_le, n_eq, n_eq0, n_lt0, n_ge0, n_gt0, n_le0, n_em, n_me, n_add, n_mul, n_00, n_s01, n_1z, n_0z, Nat.one_ne_zero, eq_self, ne_eq, true_and, and_true, true_implies, false_implies, implies_true, not_true_eq_false, not_false_eq_true, false_and, and_false, or_false, false_or, or_true, true_or]
  refine ⟨fun q => ?_, fun q => ?_⟩
  · have ei : i = gR f := by omega
    subst ei
    exact h1 (alw_iff.mpr hall) τ hB
  · have hil : i < gR f := by omega
    refine s_X9_isHeld (by rw [h245]; exact hf.1) (by omega) hk (fun c => ⟨fun t => absurd t (by decide), fun _ => ?_⟩) (fun c => ⟨fun _ => hih _ _ hil ⟨rfl, hB, fun r hr e => ?_⟩, fun t => absurd rfl t⟩)
    · rw [h245] at c
      have hkl := kp_le (hf.2 i hil).1.1 k
      refine s_X9_keeperOf (by rw [h245]; exact hf.g0 hil) (by rw [h245]; exact hil) hk (fun τ' hB' => ?_)
      rw [h245, nm_eq (by omega) (by omega)]
      refine ⟨fun d => hih _ _ hil ⟨rfl, hB.tr hB', fun r hr e => ?_⟩, fun d => h0 (fun t => d (alw_iff.mp t i hil c)) τ' (hB.tr hB')⟩
      rcases Nat.lt_or_ge r i with u | u
      · exact hall r u e
      · rw [show r = i by omega]; exact d
    · rw [h245] at c
      rcases Nat.lt_or_ge r i with u | u
      · exact hall r u e
      · rw [show r = i by omega] at e; exact absurd e c
def rRisk (s : AS) (x : Int32) : RS := if inR x 10 then (0, nI (krk (sF s) (cl x) 100), s) else (1, 0, s)
theorem krk_y {f : Nat → Int32} {p i : Nat} (c : hm f i ≠ 0 ∧ alw f p i = true) : nI (krk f p i + 1) = nI (krk f p (i + 1)) := by
  show _ = nI (krk f p i + (if hm f i ≠ 0 ∧ alw f p i = true then 1 else 0))
  rw [if_pos c]
theorem krk_n {f : Nat → Int32} {p i : Nat} (c : ¬ (hm f i ≠ 0 ∧ alw f p i = true)) : nI (krk f p i) = nI (krk f p (i + 1)) := by
  show _ = nI (krk f p i + (if hm f i ≠ 0 ∧ alw f p i = true then 1 else 0))
  rw [if_neg c, Nat.add_zero]
theorem s_X8_risk {σ : St} {s : AS} {x : Int32} {QX : String → St → Prop} {Q : Int32 → St → Prop} (h : CR σ s) (hs : Sok s) (hP : PC σ (rRisk s x) (ex3 sIOB sIOB sIOB) QX Q) : wp_X8_risk σ x QX (fun r => Q r σ) := by
  obtain ⟨A, e, l, hN, -⟩ := h.net
  unfold rRisk at hP
  unfold wp_X8_risk
  refine s_X8_checkNode (fun a => ?_) (fun a => ?_)
  · rw [if_pos a] at hP
    have hq := hP.ok h
    obtain ⟨i1, i2⟩ := inR_n (by decide) a
    generalize hc1 : cl x = p at *
    rw [i1]
    refine LP2_nat 100 (fun i x y => y = nI i ∧ x = nI (krk (sF s) p i)) ?_ 0 _ _ (Nat.zero_le _) ⟨rfl, rfl⟩
    rintro ih i _ _ hi ⟨rfl, rfl⟩ hih
    unfold wp_X8_risk_8
    rw [e]
    simp (disch := omega) only [forall_eq, forall_eq', n_inT, n_cl, n_lt, n_le, n_eq, n_eq0, n_lt0, n_ge0, n_gt0, n_le0, n_em, n_me, n_add, n_mul, n_00, n_s01, n_1z, n_0z, Nat.one_ne_zero, eq_self, ne_eq, true_and, and_true, true_implies, false_implies, implies_true, not_true_eq_false, not_false_eq_true, false_and, and_false, or_false, false_or, or_true, true_or]
    refine ⟨fun q => by rw [show i = 100 by omega]; exact hq, fun q => ⟨l, s_X1_isHeldByNoneBut hN hs.1 (by omega) i2 (fun c => ⟨fun t => absurd t (by decide), fun _ => ?_⟩) (fun c => ⟨fun _ => ?_, fun t => absurd rfl t⟩)⟩⟩
    · exact hih _ _ (by omega) ⟨rfl, krk_y c⟩
    · exact hih _ _ (by omega) ⟨rfl, krk_n c⟩
  · rw [if_neg a] at hP
    exact hP.no (by decide) h rfl
theorem s_X9_risk {σ : St} {s : AS} {x : Int32} {Q : Int32 → St → Prop} (h : RR σ s) (hs : Sok s) (hP : PR σ (rRisk s x) Q) : wp_X9_risk σ x Q := by
  unfold rRisk at hP
  unfold wp_X9_risk
  refine s_X9_isNode (fun a => ⟨fun t => absurd t (by decide), fun _ => ?_⟩) (fun a => ⟨fun _ => ?_, fun t => absurd rfl t⟩)
  · rw [if_pos a] at hP
    unfold wp_X9_risk_13
    intro σ1 h1
    rw [thr_at h1]
    refine ⟨fun _ => ?_, fun t => absurd (by decide) t⟩
    have hR1 := h.thr h1
    obtain ⟨i1, i2⟩ := inR_n (by decide) a
    generalize hc1 : cl x = p at *
    rw [i1]
    refine LP3_nat 100 (fun i τ x y => y = nI i ∧ x = nI (krk (sF s) p i) ∧ Bx σ1 τ) ?_ 0 _ _ _ (Nat.zero_le _) ⟨rfl, rfl, Bx.rf σ1⟩
    rintro ih i τ _ _ hi ⟨rfl, rfl, hB⟩ hih
    have h245 : τ 245 = sF s := by rw [hB.m]; exact hR1.1
    unfold wp_X9_risk_29
    simp (disch := omega) only [Nat.add_zero, forall_eq, forall_eq', n_inT, n_cl, n_lt, n_le, n_eq, n_eq0, n_lt0, n_ge0, n_gt0, n_le0, n_em, n_me, n_add, n_mul, n_00, n_s01, n_1z, n_0z, Nat.one_ne_zero, eq_self, ne_eq, true_and, and_true, true_implies, false_implies, implies_true, not_true_eq_false, not_false_eq_true, false_and, and_false, or_false, false_or, or_true, true_or]
    refine ⟨fun q => by rw [show i = 100 by omega]; exact hP.ok h h1 hB.sc, fun q => s_X9_heldIn (by rw [h245]; exact hs.1.1) (by omega) ?_⟩
    have hil : i < 100 := by omega
    have hl := hm_lt (sF s) i
    rw [h245, n_eq0 (by omega)]
    refine ⟨fun c => hih _ _ _ hil ⟨rfl, krk_n (fun t => t.1 c), hB⟩, fun c => s_X9_isAllWith h245 hs.1 hil i2 (fun d τ' hB' => ⟨fun t => absurd t (by decide), fun _ => ?_⟩) (fun d τ' hB' => ⟨fun _ => ?_, fun t => absurd rfl t⟩)⟩
    · exact hih _ _ _ hil ⟨rfl, krk_y ⟨c, d⟩, hB.tr hB'⟩
    · exact hih _ _ _ hil ⟨rfl, krk_n (fun t => d t.2), hB.tr hB'⟩
  · rw [if_neg a] at hP
    unfold wp_X9_risk_13
    intro σ1 h1
    rw [thr_at h1]
    exact ⟨fun t => absurd t (by decide), fun _ => s_thr h (by decide) hP σ1 h1⟩
/-! load, copies held -/
theorem s_X1_loadOf {σ : St} {A p r : Nat} {f : Nat → Int32} {Q : Int32 → Prop} (h : NetRep σ A f) (hf : Good f) (hp : p < 10) (hr : r < gR f) (hQ : Q (nI (kld f r p 100))) : wp_X1_loadOf σ A (nI p) (nI r) Q := by
  have hR := hf.R3
  refine LP2_nat 100 (fun i x y => y = nI i ∧ x = nI (kld f r p i)) ?_ 0 _ _ (Nat.zero_le _) ⟨rfl, rfl⟩
  rintro ih i _ _ hi ⟨rfl, rfl⟩ hih
  unfold wp_X1_loadOf_5
  simp (disch := omega) only [forall_eq, forall_eq', n_inT, n_cl, n_lt, n_le, n_eq, n_eq0, n_lt0, n_ge0, n_gt0, n_le0, n_em, n_me, n_add, n_mul, n_00, n_s01, n_1z, n_0z, Nat.one_ne_zero, eq_self, ne_eq, true_and, and_true, true_implies, false_implies, implies_true, not_true_eq_false, not_false_eq_true, false_and, and_false, or_false, false_or, or_true, true_or]
  refine ⟨fun q => by rw [show i = 100 by omega]; exact hQ, fun q => s_X1_isHeldBy (h.sp r hr) (hf.2 r hr).1.1 (h.hd i (by omega)) (hm_lt f i) (by omega) (by omega) hp (fun d1 d2 => ⟨fun t => absurd t (by decide), fun _ => hih _ _ (by omega) ⟨rfl, ?_⟩⟩) (fun d => ⟨fun _ => hih _ _ (by omega) ⟨rfl, ?_⟩, fun t => absurd rfl t⟩)⟩
  · show _ = nI (kld f r p i + (if ghd f r i = 1 ∧ kp f i r = p + 1 then 1 else 0))
    rw [tb_hm] at d1
    simp at d1
    rw [if_pos ⟨d1.2, d2⟩]
  · show _ = nI (kld f r p i + (if ghd f r i = 1 ∧ kp f i r = p + 1 then 1 else 0))
    rw [if_neg, Nat.add_zero]
    rintro ⟨t1, t2⟩
    refine d ⟨?_, t2⟩
    rw [tb_hm, t1]
    simp
    omega
theorem s_X9_loadOf {σ : St} {p r : Nat} {f : Nat → Int32} {Q : Int32 → St → Prop} (hσ : σ 245 = f) (hf : Good f) (hp : p < 10) (hr : r < gR f) (hQ : ∀ τ, Bx σ τ → Q (nI (kld f r p 100)) τ) : wp_X9_loadOf σ (nI p) (nI r) Q := by
  have hR := hf.R3
  refine LP3_nat 100 (fun i τ x y => y = nI i ∧ x = nI (kld f r p i) ∧ Bx σ τ) ?_ 0 _ _ _ (Nat.zero_le _) ⟨rfl, rfl, Bx.rf σ⟩
  rintro ih i τ _ _ hi ⟨rfl, rfl, hB⟩ hih
  have h245 : τ 245 = f := by rw [hB.m]; exact hσ
  unfold wp_X9_loadOf_5
  simp (disch := omega) only [Nat.add_zero, forall_eq, forall_eq', n_inT, n_cl, n_lt, n_le, n_eq, n_eq0, n_lt0, n_ge0, n_gt0, n_le0, n_em, n_me, n_add, n_mul, n_00, n_s01, n_1z, n_0z, Nat.one_ne_zero, eq_self, ne_eq, true_and, and_true, true_implies, false_implies, implies_true, not_true_eq_false, not_false_eq_true, false_and, and_false, or_false, false_or, or_true, true_or]
  have no : ∀ τ', Bx σ τ' → i < 100 → ¬ (ghd f r i = 1 ∧ kp f i r = p + 1) → ih τ' (nI (kld f r p i)) (nI (i + 1)) := fun τ' hB' hil c => hih _ _ _ hil ⟨rfl, by
    show _ = nI (kld f r p i + (if ghd f r i = 1 ∧ kp f i r = p + 1 then 1 else 0))
    rw [if_neg c, Nat.add_zero], hB'⟩
  refine ⟨fun q => by rw [show i = 100 by omega]; exact hQ τ hB, fun q => s_X9_isHeld (by rw [h245]; exact hf.1) (by omega) (by omega) (fun c => ⟨fun t => absurd t (by decide), fun _ => s_X9_keeperOf (by rw [h245]; exact hf.g0 hr) (by rw [h245]; exact hr) (by omega) (fun τ' hB' => ?_)⟩) (fun c => ⟨fun _ => ?_, fun t => absurd rfl t⟩)⟩
  · rw [h245] at c
    have hkl := kp_le (hf.2 r hr).1.1 i
    rw [h245, nm_eq (by omega) (by omega)]
    refine ⟨fun d => no τ' (hB.tr hB') (by omega) (fun t => d t.2), fun d => hih _ _ _ (by omega) ⟨rfl, ?_, hB.tr hB'⟩⟩
    show _ = nI (kld f r p i + (if ghd f r i = 1 ∧ kp f i r = p + 1 then 1 else 0))
    rw [if_pos ⟨c, d⟩]
  · rw [h245] at c
    exact no τ hB (by omega) (fun t => c t.1)
theorem s_X1_copiesHeldIn {σ : St} {A r : Nat} {f : Nat → Int32} {Q : Int32 → Prop} (h : NetRep σ A f) (hr : r < 3) (hQ : Q (nI (khd f r 100))) : wp_X1_copiesHeldIn σ A (nI r) Q := by
  refine LP2_nat 100 (fun i x y => y = nI i ∧ x = nI (khd f r i)) ?_ 0 _ _ (Nat.zero_le _) ⟨rfl, rfl⟩
  rintro ih i _ _ hi ⟨rfl, rfl⟩ hih
  unfold wp_X1_copiesHeldIn_4
  simp (disch := omega) only [forall_eq, forall_eq', n_inT, n_cl, n_lt, n_le, n_eq, n_eq0, n_lt0, n_ge0, n_gt0, n_le0, n_em, n_me, n_add, n_mul, n_00, n_s01, n_1z, n_0z, Nat.one_ne_zero, eq_self, ne_eq, true_and, and_true, true_implies, false_implies, implies_true, not_true_eq_false, not_false_eq_true, false_and, and_false, or_false, false_or, or_true, true_or]
  refine ⟨fun q => by rw [show i = 100 by omega]; exact hQ, fun q => s_X1_isHeld (h.hd i (by omega)) (hm_lt f i) (by omega) hr (fun c => ⟨fun t => absurd t (by decide), fun _ => hih _ _ (by omega) ⟨rfl, ?_⟩⟩) (fun c => ⟨fun _ => hih _ _ (by omega) ⟨rfl, ?_⟩, fun t => absurd rfl t⟩)⟩
  · show _ = nI (khd f r i + (if ghd f r i = 1 then 1 else 0))
    rw [tb_hm] at c
    simp at c
    rw [if_pos c.2]
  · show _ = nI (khd f r i + (if ghd f r i = 1 then 1 else 0))
    rw [if_neg, Nat.add_zero]
    intro t
    rw [tb_hm, t] at c
    simp at c
    omega
theorem s_X9_heldCopies {σ : St} {r : Nat} {f : Nat → Int32} {Q : Int32 → Prop} (hσ : σ 245 = f) (hf : RowOK f) (hr : r < 3) (hQ : Q (nI (khd f r 100))) : wp_X9_heldCopies σ (nI r) Q := by
  refine LP2_nat 100 (fun i x y => y = nI i ∧ x = nI (khd f r i)) ?_ 0 _ _ (Nat.zero_le _) ⟨rfl, rfl⟩
  rintro ih i _ _ hi ⟨rfl, rfl⟩ hih
  unfold wp_X9_heldCopies_4
  simp (disch := omega) only [Nat.add_zero, forall_eq, forall_eq', n_inT, n_cl, n_lt, n_le, n_eq, n_eq0, n_lt0, n_ge0, n_gt0, n_le0, n_em, n_me, n_add, n_mul, n_00, n_s01, n_1z, n_0z, Nat.one_ne_zero, eq_self, ne_eq, true_and, and_true, true_implies, false_implies, implies_true, not_true_eq_false, not_false_eq_true, false_and, and_false, or_false, false_or, or_true, true_or]
  refine ⟨fun q => by rw [show i = 100 by omega]; exact hQ, fun q => s_X9_isHeld (by rw [hσ]; exact hf) hr (by omega) (fun c => ⟨fun t => absurd t (by decide), fun _ => hih _ _ (by omega) ⟨rfl, ?_⟩⟩) (fun c => ⟨fun _ => hih _ _ (by omega) ⟨rfl, ?_⟩, fun t => absurd rfl t⟩)⟩
  · show _ = nI (khd f r i + (if ghd f r i = 1 then 1 else 0))
    rw [hσ] at c
    rw [if_pos c]
  · show _ = nI (khd f r i + (if ghd f r i = 1 then 1 else 0))
    rw [hσ] at c
    rw [if_neg c, Nat.add_zero]
