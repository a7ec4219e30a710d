/-! both sides put a key -/
theorem pth_hmf {f : Nat → Int32} (hR : gR f ≤ 3) (k : Nat) : hmf (pth f k) k = wth f k := by
  refine nat_ext10 (by have := hmf_lt (pth f k) k; omega) (by have := wth_lt hR k; omega) (fun r _ => ?_)
  rw [tb_hmf]
  unfold wth pth
  rw [tb_bm, if_pos rfl]
  by_cases c : r < gR f
  · have c3 : r < 3 := by omega
    cases e : can f k r <;> simp [c, c3]
  · simp [c]
theorem s_put_rep {σ τ : St} {a k v : Nat} {f : Nat → Int32} (h : NetRep σ a f) (hf : Good f) (hk : k < 100) (hv : v < 1000) (h1 : ∀ b, b ≠ a + 7 → b ≠ a + 8 → τ b = σ b) (h7 : ∀ j, τ (a + 7) j = if j = k then nI v else σ (a + 7) j) (h8 : ∀ j, τ (a + 8) j = if j = k then nI (wth f k) else σ (a + 8) j) : NetRep τ a (prow f k v) := by
  obtain ⟨e1, e2, e3, e4, e5, e6, e7, e8, e9, e10, e11⟩ := prow_acc hf.1 hk hv
  have hR := hf.1.2.2.2.2.1.2.2
  refine ⟨?_, ?_, ?_, ?_, ?_, ?_, ?_, fun j hj => ?_, fun j hj => ?_, fun r hr => ?_⟩
  · rw [e5, h1 _ (by omega) (by omega)]; exact h.re
  · rw [e4, h1 _ (by omega) (by omega)]; exact h.ma
  · rw [e1, h1 _ (by omega) (by omega)]; exact h.st
  · rw [e1, e2, h1 _ (by omega) (by omega)]; exact h.px
  · rw [e1, e3, h1 _ (by omega) (by omega)]; exact h.py
  · rw [e4, e6, h1 _ (by omega) (by omega)]; exact h.mx
  · rw [e4, e7, h1 _ (by omega) (by omega)]; exact h.my
  · rw [e8, e9, h7]
    by_cases c : j = k
    · rw [if_pos c, c, setO_same, setO_same, if_pos rfl]
    · rw [if_neg c, setO_ne c, setO_ne c]; exact h.va j hj
  · rw [h8, hm_hmf]
    by_cases c : j = k
    · rw [if_pos c, ← pth_hmf hR, c]
      congr 1
      exact hmf_ext (fun r hr => by rw [e10 r k hr hk])
    · rw [if_neg c, h.hd j hj, hm_hmf]
      congr 1
      refine hmf_ext (fun r hr => ?_)
      rw [e10 r j hr hj]
      unfold pth
      rw [if_neg c]
  · rw [e5] at hr
    rw [e11]
    exact (h.sp r hr).congr (h1 _ (by omega) (by omega)) (h1 _ (by omega) (by omega)) (h1 _ (by omega) (by omega))
theorem s_X9_put0 {σ : St} {k v : Nat} {f : Nat → Int32} {Q : Int32 → St → Prop} (hf : Good f) (hσ : σ 245 = f) (hk : k < 100) (hv : v < 1000)
    (h8 : wth f k = 0 → ∀ τ, Mf σ τ → τ 245 = f → Q (nI 8) τ) (hQ : wth f k ≠ 0 → ∀ τ, Mf σ τ → τ 245 = prow f k v → Q (nI 0) τ) : wp_X9_put0 σ (nI k) (nI v) Q := by
  have hR := hf.1.2.2.2.2.1.2.2
  have h37 : f 37 = nI (gR f) := hf.1.2.2.2.2.1.1
  have hwl := wth_lt hR k
  refine LP3_nat (gR f) (fun i τ x y => x = nI (bm (fun r => can f k r) i) ∧ y = nI i ∧ Mf σ τ ∧ τ 245 = f) ?_ 0 _ _ _ (Nat.zero_le _) ⟨rfl, rfl, Mf.rf σ, hσ⟩
  rintro ih i τ _ _ hi ⟨rfl, rfl, hM, h245⟩ hih
  unfold wp_X9_put0_5
  rw [h245, h37]
  simp (disch := omega) only [forall_eq, forall_eq', n_inT, n_cl, n_lt, n_le, n_eq, n_eq0, n_lt0, n_ge0, n_gt0, n_le0, n_em, n_me, n_add, n_mul, n_00, n_s01, n_1z, n_0z, Nat.one_ne_zero, eq_self, ne_eq, true_and, and_true, true_implies, false_implies, implies_true, not_true_eq_false, not_false_eq_true, false_and, and_false, or_false, false_or, or_true, true_or]
  refine ⟨fun q => ?_, fun q => ?_⟩
  · rw [show bm (fun r => can f k r) i = wth f k by rw [show i = gR f by omega]; rfl]
    unfold wp_X9_put0_44
    simp (disch := omega) only [forall_eq, forall_eq', n_inT, n_cl, n_lt, n_le, n_eq, n_eq0, n_lt0, n_ge0, n_gt0, n_le0, n_em, n_me, n_add, n_mul, n_00, n_s01, n_1z, n_0z, Nat.one_ne_zero, eq_self, ne_eq, true_and, and_true, true_implies, false_implies, implies_true, not_true_eq_false, not_false_eq_true, false_and, and_false, or_false, false_or, or_true, true_or]
    refine ⟨fun c => ?_, fun c => h8 c τ hM h245⟩
    have r1 : su (su τ 245 (38 + k) (nI 1)) 245 (138 + k) (nI v) 245 = hrow (upd (upd f (38 + k) (nI 1)) (138 + k) (nI v)) (ghd f) := by
      funext j
      rw [su_at, su_at, h245]
      by_cases d : 238 ≤ j ∧ j < 538
      · rw [if_neg (by omega), if_neg (by omega)]
        have := hrow_self hf.1
        have t := congrFun this j
        unfold hrow at t ⊢
        rw [if_pos d] at t ⊢
        exact t.symm
      · rw [hrow_lo (by omega), upd_at, upd_at]
    have r2 : Mf σ (su (su τ 245 (38 + k) (nI 1)) 245 (138 + k) (nI v)) := ⟨fun b hb => by rw [su_ne (by omega), su_ne (by omega)]; exact hM.1 b hb, fun j hj => by rw [su_ne (by decide), su_ne (by decide)]; exact hM.2 j hj⟩
    generalize su (su τ 245 (38 + k) (nI 1)) 245 (138 + k) (nI v) = τ1 at *
    refine LP2_nat (gR f) (fun i τ z => z = nI i ∧ Mf σ τ ∧ τ 245 = hrow (upd (upd f (38 + k) (nI 1)) (138 + k) (nI v)) (fun r k' => if k' = k ∧ r < i then pth f k r k' else ghd f r k')) ?_ 0 _ _ (Nat.zero_le _) ⟨rfl, r2, by rw [r1]; exact hrow_congr (fun r k' _ _ => by rw [if_neg (by omega)])⟩
    rintro ih2 i2 τ2 _ hi2 ⟨rfl, hM2, hrw⟩ hih2
    have h37' : τ2 245 37 = nI (gR f) := by rw [hrw, hrow_lo (by omega), upd_ne' (by omega), upd_ne' (by omega), h37]
    unfold wp_X9_put0_75
    rw [h37']
    simp (disch := omega) only [forall_eq, forall_eq', n_inT, n_cl, n_lt, n_le, n_eq, n_eq0, n_lt0, n_ge0, n_gt0, n_le0, n_em, n_me, n_add, n_mul, n_00, n_s01, n_1z, n_0z, Nat.one_ne_zero, eq_self, ne_eq, true_and, and_true, true_implies, false_implies, implies_true, not_true_eq_false, not_false_eq_true, false_and, and_false, or_false, false_or, or_true, true_or]
    refine ⟨fun q2 => hQ c τ2 hM2 ?_, fun q2 => ?_⟩
    · rw [hrw]
      unfold prow
      refine hrow_congr (fun r k' hr hk' => ?_)
      unfold pth
      by_cases d : k' = k ∧ r < i2
      · rw [if_pos d]
      · rw [if_neg d]
        by_cases d2 : k' = k
        · rw [if_pos d2, if_neg (by omega)]
          exact (ghd_ok hf.1 hr hk').2.2 (by omega)
        · rw [if_neg d2]
    · have hil : i2 < gR f := by omega
      rw [n_bit (by omega) (by omega)]
      refine hih2 _ _ hil ⟨rfl, ⟨fun b hb => by rw [su_ne (by omega)]; exact hM2.1 b hb, fun j hj => by rw [su_ne (by decide)]; exact hM2.2 j hj⟩, ?_⟩
      have : su τ2 245 (238 + 100 * i2 + k) (nI (if (wth f k).testBit i2 then 1 else 0)) 245 = upd (τ2 245) (238 + 100 * i2 + k) (nI (if (wth f k).testBit i2 then 1 else 0)) := by
        funext j; rw [su_at, upd_at]
      rw [this, hrw, hrow_set _ _ (by omega) hk]
      refine hrow_congr (fun r k' hr hk' => ?_)
      by_cases d : r = i2 ∧ k' = k
      · rw [if_pos d, if_pos (show k' = k ∧ r < i2 + 1 by omega), d.1, d.2]
        unfold pth wth
        rw [if_pos rfl, tb_bm]
        cases e : can f k i2 <;> simp [hil]
      · rw [if_neg d]
        by_cases d2 : k' = k ∧ r < i2
        · rw [if_pos d2, if_pos (show k' = k ∧ r < i2 + 1 by omega)]
        · rw [if_neg d2, if_neg (show ¬ (k' = k ∧ r < i2 + 1) by omega)]
  · have hir : i < gR f := by omega
    refine s_X9_canHold (by rw [h245]; exact hf.g0 hir) (by rw [h245]; exact hir) hk (fun e τ' hB => ?_) (fun e τ' hB => ?_)
    · rw [h245] at e
      refine ⟨fun t => absurd t (by decide), fun _ => ?_⟩
      rw [n_one (by omega), n_or]
      exact hih _ _ _ hir ⟨by simp [bm, e], rfl, hM.tr hB.bm.mf, by rw [hB.m, h245]⟩
    · rw [h245] at e
      refine ⟨fun _ => ?_, fun t => absurd rfl t⟩
      rw [n_or, Nat.or_zero]
      exact hih _ _ _ hir ⟨by simp [bm, e], rfl, hM.tr hB.bm.mf, by rw [hB.m, h245]⟩
