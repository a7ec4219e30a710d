/-! THE START: what the constructors leave -/
def st0 (k : Nat) (j : Nat) : Int32 :=
  if k = 0 then (if j = 8 then nI 202 else if j = 9 then nI 223 else if j = 10 then -1 else nI 0)
  else if k = 180 then (if j = 3 then -1 else nI 0)
  else if k = 244 then (if j = 12 then -1 else nI 0)
  else if k = 245 then (if j = 37 then nI 1 else nI 0)
  else if lay k = (1, 0) then (if j = 9 then nI 1 else nI 0)
  else if lay k = (10, 100) ∧ lay (k - 7) = (1, 0) then -1
  else nI 0
theorem st0_nk {k : Nat} {q : Nat × Nat} (h : lay k = q) (h0 : q ≠ (8, 0)) (h1 : q ≠ (5, 0)) (h2 : q ≠ (9, 0)) (h3 : q ≠ (10, 6682)) : k ≠ 0 ∧ k ≠ 180 ∧ k ≠ 244 ∧ k ≠ 245 := by
  refine ⟨fun e => ?_, fun e => ?_, fun e => ?_, fun e => ?_⟩
  · rw [e, ly_0] at h; exact h0 h.symm
  · rw [e, ly_180] at h; exact h1 h.symm
  · rw [e, ly_244] at h; exact h2 h.symm
  · rw [e, ly_245] at h; exact h3 h.symm
theorem st0_net {k : Nat} (h : lay k = (1, 0)) (j : Nat) : st0 k j = if j = 9 then nI 1 else nI 0 := by
  obtain ⟨a, b, c, d⟩ := st0_nk h (by decide) (by decide) (by decide) (by decide)
  unfold st0
  rw [if_neg a, if_neg b, if_neg c, if_neg d, if_pos h]
theorem st0_val {k : Nat} (h : lay k = (1, 0)) (j : Nat) : st0 (k + 7) j = -1 := by
  have h7 := (lay_net h).2.2.2.2.2.2.1
  obtain ⟨a, b, c, d⟩ := st0_nk h7 (by decide) (by decide) (by decide) (by decide)
  unfold st0
  rw [if_neg a, if_neg b, if_neg c, if_neg d, if_neg (by rw [h7]; decide), if_pos ⟨h7, by rw [Nat.add_sub_cancel]; exact h⟩]
theorem st0_cop {k : Nat} (h : lay k = (1, 0)) (j : Nat) : st0 (k + 8) j = nI 0 := by
  have h8 := (lay_net h).2.2.2.2.2.2.2.1
  obtain ⟨a, b, c, d⟩ := st0_nk h8 (by decide) (by decide) (by decide) (by decide)
  unfold st0
  rw [if_neg a, if_neg b, if_neg c, if_neg d, if_neg (by rw [h8]; decide), if_neg (fun t => ?_)]
  have h1 := t.2
  rw [show k + 8 - 7 = k + 1 by omega, (lay_net h).1] at h1
  exact absurd h1 (by decide)
theorem st0_z {k : Nat} {q : Nat × Nat} (h : lay k = q) (h0 : q ≠ (8, 0)) (h1 : q ≠ (5, 0)) (h2 : q ≠ (9, 0)) (h3 : q ≠ (10, 6682)) (h4 : q ≠ (1, 0)) (h5 : q ≠ (10, 100)) (j : Nat) : st0 k j = nI 0 := by
  obtain ⟨a, b, c, d⟩ := st0_nk h h0 h1 h2 h3
  unfold st0
  rw [if_neg a, if_neg b, if_neg c, if_neg d, if_neg (by rw [h]; exact h4), if_neg (by rw [h]; exact fun t => h5 t.1)]
abbrev f00 : Nat → Int32 := nrow (fun _ => nI 0) 1
theorem st0_245 : st0 245 = f00 := by
  funext j
  unfold st0 f00 nrow
  rw [if_neg (by decide), if_neg (by decide), if_neg (by decide), if_pos rfl]
  by_cases c : j = 37
  · rw [if_pos c, if_pos c]
  · rw [if_neg c, if_neg c]
    split <;> rfl
theorem st0_rep {a : Nat} (h : lay a = (1, 0)) : NetRep st0 a f00 := by
  obtain ⟨e1, e2, e3, e4, e5, e6⟩ := nrow_acc (fun _ => nI 0) (R := 1) (by decide)
  obtain ⟨l1, l2, l3, l4, l5, l6, l7, l8, l9⟩ := lay_net h
  refine ⟨?_, ?_, fun n hn => ?_, fun n _ q => absurd (e1 n) q, fun n _ q => absurd (e1 n) q, fun i hi => ?_, fun i hi => ?_, fun k hk => ?_, fun k hk => ?_, fun r hr => ?_⟩
  · rw [st0_net h, if_pos rfl, e3]
  · rw [st0_net h, if_neg (by decide), e2]
  · rw [st0_z l2 (by decide) (by decide) (by decide) (by decide) (by decide) (by decide), e1]
  · rw [e2] at hi; omega
  · rw [e2] at hi; omega
  · rw [st0_val h, e4, if_neg (by decide)]
  · have : hm f00 k = 0 := by unfold hm; simp [bm, e5]
    rw [st0_cop h, this]
  · rw [e3] at hr
    have l10 := l9 r (by omega)
    obtain ⟨s1, s2, s3⟩ := lay_space l10
    rw [e6 r (by omega)]
    refine ⟨fun j hj => ?_, fun j hj => ?_, fun j hj => ?_⟩
    · rw [show a + 1 + 8 + 4 * r + 1 = a + 9 + 4 * r + 1 by omega, st0_z s1 (by decide) (by decide) (by decide) (by decide) (by decide) (by decide)]
      rfl
    · rw [show a + 1 + 8 + 4 * r + 2 = a + 9 + 4 * r + 2 by omega, st0_z s2 (by decide) (by decide) (by decide) (by decide) (by decide) (by decide), vol_zro]
    · rw [show a + 1 + 8 + 4 * r + 3 = a + 9 + 4 * r + 3 by omega, st0_z s3 (by decide) (by decide) (by decide) (by decide) (by decide) (by decide), cnt_zro]
def s00 : AS := (f00, 0, fun _ _ => nI 0, 0, fun _ => nI 0, nI 0, -1, 0, fun _ => 0)
theorem s00_ok : Sok s00 := ⟨nrow_good _ (by decide) (by decide), Nat.zero_le _, fun i hi => absurd hi (Nat.not_lt_zero _), Nat.zero_le _, fun t => absurd t (by decide), Nat.zero_le _, fun i hi => absurd hi (Nat.not_lt_zero _)⟩
theorem st0_CR : CR st0 s00 := ⟨202, 223, 0, Or.inl ⟨rfl, rfl⟩, by decide, by decide, by decide, st0_rep ly_202, st0_z ly_6 (by decide) (by decide) (by decide) (by decide) (by decide) (by decide) 1, st0_z ly_6 (by decide) (by decide) (by decide) (by decide) (by decide) (by decide) 2, fun i hi => absurd hi (Nat.not_lt_zero _), by decide, fun t => absurd t (by decide), by decide, by decide, st0_z ly_1 (by decide) (by decide) (by decide) (by decide) (by decide) (by decide) 1, fun i hi => absurd hi (Nat.not_lt_zero _)⟩
theorem st0_RR : RR st0 s00 := ⟨st0_245, by decide, fun i hi => absurd hi (Nat.not_lt_zero _), by decide, fun t => absurd t (by decide), by decide, by decide, by decide, fun i hi => absurd hi (Nat.not_lt_zero _)⟩
