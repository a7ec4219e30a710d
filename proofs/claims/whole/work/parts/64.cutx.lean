/-! the reference cuts a key -/
theorem s_X9_cut0 {σ : St} {k : Nat} {f : Nat → Int32} {Q : Int32 → St → Prop} (hf : Good f) (hσ : σ 245 = f) (hk : k < 100)
    (h9 : gsd f k = 0 → Q (nI 9) σ) (hQ : gsd f k = 1 → ∀ τ, Mf σ τ → τ 245 = crw f k → Q (nI 0) τ) : wp_X9_cut0 σ (nI k) Q := by
  have a1 := hf.1.2.2.2.2.2.1 k hk
  unfold wp_X9_cut0
  simp (disch := omega) only [forall_eq, forall_eq', n_inT, n_cl, n_lt, n_le, n_eq, n_eq0, n_lt0, n_ge0, n_gt0, n_le0, n_em, n_me, n_add, n_mul, n_00, n_s01, n_1z, n_0z, Nat.one_ne_zero, eq_self, ne_eq, true_and, and_true, true_implies, false_implies, implies_true, not_true_eq_false, not_false_eq_true, false_and, and_false, or_false, false_or, or_true, true_or]
  rw [hσ, a1.1, n_eq0 (by omega)]
  refine ⟨fun c => ?_, h9⟩
  have hQ := hQ (by omega)
  have r1 : su (su σ 245 (38 + k) (nI 0)) 245 (138 + k) (nI 0) 245 = hrow (upd (upd f (38 + k) (nI 0)) (138 + k) (nI 0)) (ghd f) := by
    funext j
    rw [su_at, su_at, hσ]
    by_cases d : 238 ≤ j ∧ j < 538
    · rw [if_neg (by omega), if_neg (by omega)]
      have t := congrFun (hrow_self hf.1) j
      unfold hrow at t ⊢
      rw [if_pos d] at t ⊢
      exact t.symm
    · rw [hrow_lo (by omega), upd_at, upd_at]
  have r2 : Mf σ (su (su σ 245 (38 + k) (nI 0)) 245 (138 + k) (nI 0)) := ⟨fun b hb => by rw [su_ne (by omega), su_ne (by omega)], fun j hj => by rw [su_ne (by decide), su_ne (by decide)]⟩
  generalize su (su σ 245 (38 + k) (nI 0)) 245 (138 + k) (nI 0) = τ1 at *
  refine LP2_nat 3 (fun i τ z => z = nI i ∧ Mf σ τ ∧ τ 245 = hrow (upd (upd f (38 + k) (nI 0)) (138 + k) (nI 0)) (fun r k' => if k' = k ∧ r < i then 0 else ghd f r k')) ?_ 0 _ _ (Nat.zero_le _) ⟨rfl, r2, by rw [r1]; exact hrow_congr (fun r k' _ _ => by rw [if_neg (by omega)])⟩
  rintro ih2 i2 τ2 _ hi2 ⟨rfl, hM2, hrw⟩ hih2
  unfold wp_X9_cut0_38
  simp (disch := omega) only [forall_eq, forall_eq', n_inT, n_cl, n_lt, n_le, n_eq, n_eq0, n_lt0, n_ge0, n_gt0, n_le0, n_em, n_me, n_add, n_mul, n_00, n_s01, n_1z, n_0z, Nat.one_ne_zero, eq_self, ne_eq, true_and, and_true, true_implies, false_implies, implies_true, not_true_eq_false, not_false_eq_true, false_and, and_false, or_false, false_or, or_true, true_or]
  refine ⟨fun q2 => hQ τ2 hM2 ?_, fun q2 => ?_⟩
  · rw [hrw]
    unfold crw
    refine hrow_congr (fun r k' hr hk' => ?_)
    unfold cth
    by_cases d : k' = k
    · rw [if_pos d, if_pos (by omega)]
    · rw [if_neg d, if_neg (by omega)]
  · refine hih2 _ _ (by omega) ⟨rfl, ⟨fun b hb => by rw [su_ne (by omega)]; exact hM2.1 b hb, fun j hj => by rw [su_ne (by decide)]; exact hM2.2 j hj⟩, ?_⟩
    have : su τ2 245 (238 + 100 * i2 + k) (nI 0) 245 = upd (τ2 245) (238 + 100 * i2 + k) (nI 0) := by
      funext j; rw [su_at, upd_at]
    rw [this, hrw, hrow_set _ _ (by omega) hk]
    refine hrow_congr (fun r k' hr hk' => ?_)
    by_cases d : r = i2 ∧ k' = k
    · rw [if_pos d, if_pos (show k' = k ∧ r < i2 + 1 by omega)]
    · rw [if_neg d]
      by_cases d2 : k' = k ∧ r < i2
      · rw [if_pos d2, if_pos (show k' = k ∧ r < i2 + 1 by omega)]
      · rw [if_neg d2, if_neg (show ¬ (k' = k ∧ r < i2 + 1) by omega)]
