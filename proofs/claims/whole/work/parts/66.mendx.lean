/-! both sides mend -/
theorem s_X9_mend0 {σ : St} {f : Nat → Int32} {Q : Int32 → St → Prop} (hf : Good f) (hσ : σ 245 = f)
    (hQ : ∀ τ, Mf σ τ → τ 245 = mrow f → Q (nI (lckA f 100)) τ) : wp_X9_mend0 σ Q := by
  have hR := hf.1.2.2.2.2.1.2.2
  have hge : ∀ r k, gR f ≤ r → mdh f r k = ghd f r k := fun r k q => by unfold mdh; rw [if_neg (by omega)]
  have hh0 : ∀ K R {r k : Nat}, r < 3 → k < 100 → _ := fun K R {r k} hr hk => hpt_ok hf.1 (h := mdh f) (fun r k hr hk => mdh_ok hf.1 hr hk) K R (r := r) (k := k) hr hk
  refine LP3_nat 100 (fun K τ x z => z = nI K ∧ x = nI (lckA f K) ∧ Mf σ τ ∧ τ 245 = hrow f (hpt (mdh f) (ghd f) K 0)) ?_ 0 _ _ _ (Nat.zero_le _) ⟨rfl, rfl, Mf.rf σ, by rw [hσ, hpt_0, hrow_self hf.1]⟩
  rintro ih K τ _ _ hK ⟨rfl, rfl, hM, hrw⟩ hih
  unfold wp_X9_mend0_4
  simp (disch := omega) only [forall_eq, forall_eq', n_inT, n_cl, n_lt, n_le, n_eq, n_eq0, n_lt0, n_ge0, n_gt0, n_le0, n_em, n_me, n_add, n_mul, n_00, n_s01, n_1z, n_0z, Nat.one_ne_zero, eq_self, ne_eq, true_and, and_true, true_implies, false_implies, implies_true, not_true_eq_false, not_false_eq_true, false_and, and_false, or_false, false_or, or_true, true_or]
  refine ⟨fun q => ?_, fun q => ?_⟩
  · have eK : K = 100 := by omega
    subst eK
    refine hQ τ hM ?_
    rw [hrw]
    exact hrow_congr (fun r k _ hk => hpt_end hk)
  · have hK1 : K < 100 := by omega
    have row : ∀ R (τ2 : St), τ2 245 = hrow f (hpt (mdh f) (ghd f) K R) → RowOK (τ2 245) ∧ gR (τ2 245) = gR f ∧ gst (τ2 245) = gst f ∧ gow (τ2 245) = gow f ∧ (∀ r k, r < 3 → k < 100 → ghd (τ2 245) r k = hpt (mdh f) (ghd f) K R r k) := by
      intro R τ2 e
      obtain ⟨z1, z2, z3, z4, z5, z6, z7, z8, z9, z10, z11⟩ := hrow_acc f (hpt (mdh f) (ghd f) K R) (fun r k a b => (hh0 K R a b).1)
      rw [e]
      exact ⟨hG_ok hf.1 (fun r k a b => hh0 K R a b), z5, z1, z11, z10⟩
    obtain ⟨r1, r2, r3, r4, r5⟩ := row 0 τ hrw
    have hhm : hm (τ 245) K = hm f K := by
      rw [hm_hmf, hm_hmf]
      refine hmf_ext (fun r hr => ?_)
      rw [r5 r K hr hK1]
      unfold hpt
      rw [if_neg (by omega)]
    have hml := hm_lt f K
    refine s_X9_heldIn r1 hK1 ?_
    rw [hhm, n_eq0 (by omega)]
    refine ⟨fun c => ?_, fun c => ?_⟩
    · refine LP3_nat (gR f) (fun R τ x z => z = nI R ∧ x = nI (lckA f K + lck f K R) ∧ Mf σ τ ∧ τ 245 = hrow f (hpt (mdh f) (ghd f) K R)) ?_ 0 _ _ _ (Nat.zero_le _) ⟨rfl, rfl, hM, hrw⟩
      rintro ih2 R τ2 _ _ hRR ⟨rfl, rfl, hM2, hrw2⟩ hih2
      obtain ⟨q1, q2, q3, q4, q5⟩ := row R τ2 hrw2
      have h37 : τ2 245 37 = nI (gR f) := by rw [q1.2.2.2.2.1.1, q2]
      unfold wp_X9_mend0_23
      rw [h37]
      simp (disch := omega) only [forall_eq, forall_eq', n_inT, n_cl, n_lt, n_le, n_eq, n_eq0, n_lt0, n_ge0, n_gt0, n_le0, n_em, n_me, n_add, n_mul, n_00, n_s01, n_1z, n_0z, Nat.one_ne_zero, eq_self, ne_eq, true_and, and_true, true_implies, false_implies, implies_true, not_true_eq_false, not_false_eq_true, false_and, and_false, or_false, false_or, or_true, true_or]
      refine ⟨fun q => hih _ _ _ hK1 ⟨rfl, ?_, hM2, ?_⟩, fun q => ?_⟩
      · rw [show R = gR f by omega]; rfl
      · rw [hrw2, show R = gR f by omega, hpt_next hge]
      · have hRl : R < gR f := by omega
        have hcur : ghd (τ2 245) R K = ghd f R K := by rw [q5 R K (by omega) hK1, hpt_at]
        have hcan : can (τ2 245) K R = can f K R := by unfold can kp; rw [q4, q3]
        refine s_X9_isHeld q1 (by omega) hK1 (fun b => ?_) (fun b => ?_)
        · rw [hcur] at b
          refine ⟨fun _ => hih2 _ _ _ hRl ⟨rfl, ?_, hM2, ?_⟩, fun t => absurd t (by decide)⟩
          · simp [lck, b]
          · rw [hrw2, hpt_same]
            unfold mdh
            split
            · rw [b]
            · rfl
        · rw [hcur] at b
          refine ⟨fun t => absurd rfl t, fun _ => ?_⟩
          refine s_X9_canHold ⟨q1, by rw [q4, q3]; exact (hf.2 R hRl).1⟩ (by rw [q2]; exact hRl) hK1 (fun e τ3 hB => ?_) (fun e τ3 hB => ?_)
          · rw [hcan] at e
            refine ⟨fun _ => hih2 _ _ _ hRl ⟨rfl, ?_, ⟨fun b hb => by rw [su_ne (by omega)]; exact (hM2.tr hB.bm.mf).1 b hb, fun j hj => by rw [su_ne (by decide)]; exact (hM2.tr hB.bm.mf).2 j hj⟩, ?_⟩, fun t => absurd t (by decide)⟩
            · simp [lck, b, c, e]; rw [Nat.add_assoc]
            · have : su τ3 245 (238 + 100 * R + K) (nI 1) 245 = upd (τ3 245) (238 + 100 * R + K) (nI 1) := by
                funext j; rw [su_at, upd_at]
              rw [this, hB.m, hrw2, hrow_set _ _ (by omega) hK1, hpt_step]
              refine hrow_congr (fun r k _ _ => ?_)
              by_cases d : r = R ∧ k = K
              · show (if _ then 1 else _) = if _ then _ else _
                rw [if_pos d, if_pos d]
                unfold mdh
                rw [if_pos ⟨c, hRl, e⟩]
              · show (if _ then 1 else _) = if _ then _ else _
                rw [if_neg d, if_neg d]
          · rw [hcan] at e
            refine ⟨fun t => absurd rfl t, fun _ => hih2 _ _ _ hRl ⟨rfl, ?_, hM2.tr hB.bm.mf, ?_⟩⟩
            · simp [lck, e]
            · rw [hB.m, hrw2, hpt_same]
              unfold mdh
              rw [if_neg (by rw [e]; simp)]
    · refine hih _ _ _ hK1 ⟨rfl, ?_, hM, ?_⟩
      · have : ∀ n, lck f K n = 0 := by
          intro n
          induction n with
          | zero => rfl
          | succ n ihn => unfold lck; rw [ihn, if_neg (fun t => t.1 c)]
        show _ = nI (lckA f K + lck f K (gR f))
        rw [this]; rfl
      · rw [hrw]
        refine hrow_congr (fun r k hr hk => ?_)
        unfold hpt
        by_cases d : k < K
        · rw [if_pos (Or.inl d), if_pos (by omega)]
        · rw [if_neg (by omega)]
          by_cases d2 : k = K
          · rw [if_pos (by omega)]
            unfold mdh
            rw [d2, if_neg (fun t => t.1 c)]
          · rw [if_neg (by omega)]
