/-! KEYS: cut -/
def cth (f : Nat → Int32) (k r k' : Nat) : Nat := if k' = k then 0 else ghd f r k'
def crw (f : Nat → Int32) (k : Nat) : Nat → Int32 := hrow (upd (upd f (38 + k) (nI 0)) (138 + k) (nI 0)) (cth f k)
theorem crw_acc {f : Nat → Int32} (hf : RowOK f) {k : Nat} (hk : k < 100) :
    gst (crw f k) = gst f ∧ gpx (crw f k) = gpx f ∧ gpy (crw f k) = gpy f ∧ gK (crw f k) = gK f ∧ gR (crw f k) = gR f ∧ gmx (crw f k) = gmx f ∧ gmy (crw f k) = gmy f ∧ gsd (crw f k) = setO (gsd f) k 0 ∧ (∀ k', k' < 100 → k' ≠ k → gva (crw f k) k' = gva f k') ∧ (∀ r k', r < 3 → k' < 100 → ghd (crw f k) r k' = cth f k r k') ∧ gow (crw f k) = gow f := by
  have hb : ∀ r k', r < 3 → k' < 100 → cth f k r k' ≤ 1 := fun r k' hr hk' => by
    unfold cth
    split
    · omega
    · exact (ghd_ok hf hr hk').1
  obtain ⟨z1, z2, z3, z4, z5, z6, z7, z8, z9, z10, z11⟩ := hrow_acc (upd (upd f (38 + k) (nI 0)) (138 + k) (nI 0)) (cth f k) hb
  unfold crw
  refine ⟨?_, ?_, ?_, ?_, ?_, ?_, ?_, ?_, fun k' hk' hne => ?_, z10, ?_⟩
  · rw [z1, gst_upd (by omega), gst_upd (by omega)]
  · rw [z2, gpx_upd (by omega), gpx_upd (by omega)]
  · rw [z3, gpy_upd (by omega), gpy_upd (by omega)]
  · rw [z4, gK_upd (by omega), gK_upd (by omega)]
  · rw [z5, gR_upd (by omega), gR_upd (by omega)]
  · rw [z6, gmx_upd (by omega), gmx_upd (by omega)]
  · rw [z7, gmy_upd (by omega), gmy_upd (by omega)]
  · rw [z8, gsd_upd (by omega)]
    funext m; unfold gsd setO
    rw [upd_at]
    by_cases e : m = k
    · rw [if_pos e, if_pos (by omega), if_pos (by omega), n_cl (by decide)]
    · have e2 : ¬ 38 + m = 38 + k := by omega
      rw [if_neg e, if_neg e2]
  · rw [z9]
    unfold gva
    rw [if_pos hk', if_pos hk', upd_ne' (by omega), upd_ne' (by omega)]
  · rw [z11, gow_upd (by omega), gow_upd (by omega)]
theorem crw_good {f : Nat → Int32} (hf : Good f) {k : Nat} (hk : k < 100) : Good (crw f k) := by
  obtain ⟨e1, e2, e3, e4, e5, e6, e7, e8, e9, e10, e11⟩ := crw_acc hf.1 hk
  obtain ⟨h1, h2, h3, h4, h5, h6, h7, h8, h9⟩ := hf.1
  have hlo : ∀ j, j ≠ 38 + k → j ≠ 138 + k → j < 238 ∨ 538 ≤ j → crw f k j = f j := fun j a b c => by unfold crw; rw [hrow_lo c, upd_ne' b, upd_ne' a]
  refine ⟨⟨fun m hm => ?_, fun m hm q => ?_, ?_, fun i hi => ?_, ?_, fun k' hk' => ?_, fun k' hk' q => ?_, fun r hr k' hk' => ?_, fun r hr z hz => ?_⟩, fun r hr => ?_⟩
  · rw [e1, hlo _ (by omega) (by omega) (by omega)]; exact h1 m hm
  · rw [e1] at q
    rw [e2, e3, hlo _ (by omega) (by omega) (by omega), hlo _ (by omega) (by omega) (by omega)]; exact h2 m hm q
  · rw [e4, hlo _ (by omega) (by omega) (by omega)]; exact h3
  · rw [e4] at hi
    have := h3.2
    rw [e6, e7, hlo _ (by omega) (by omega) (by omega), hlo _ (by omega) (by omega) (by omega)]; exact h4 i hi
  · rw [e5, hlo _ (by omega) (by omega) (by omega)]; exact h5
  · rw [e8]
    by_cases c : k' = k
    · rw [c, setO_same]
      refine ⟨?_, by decide⟩
      unfold crw
      rw [hrow_lo (by omega), upd_ne' (by omega), upd_at, if_pos rfl]
    · rw [setO_ne c, hlo _ (by omega) (by omega) (by omega)]; exact h6 k' hk'
  · by_cases c : k' = k
    · rw [e8, c, setO_same] at q; omega
    · rw [e8, setO_ne c] at q
      rw [e9 k' hk' c, hlo _ (by omega) (by omega) (by omega)]; exact h7 k' hk' q
  · rw [e10 r k' hr hk', e8, e5]
    refine ⟨?_, ?_, fun q => ?_, fun q => ?_⟩
    · unfold crw
      rw [hrow_at hr hk']
    · unfold cth
      split
      · omega
      · exact (ghd_ok hf.1 hr hk').1
    · unfold cth
      by_cases c : k' = k
      · rw [if_pos c]
      · rw [setO_ne c] at q
        rw [if_neg c]; exact (ghd_ok hf.1 hr hk').2.1 q
    · unfold cth
      split
      · rfl
      · exact (ghd_ok hf.1 hr hk').2.2 q
  · rw [e5] at hr
    rw [e11, hlo _ (by omega) (by omega) (by omega)]; exact h9 r hr z hz
  · rw [e5] at hr
    rw [e11, e1]; exact hf.2 r hr
theorem s_X1_cutOut {σ : St} {a k : Nat} {f : Nat → Int32} {Q : Int32 → St → Prop} (h : NetRep σ a f) (hf : Good f) (hk : k < 100) (hs : gsd f k = 1) (hQ : ∀ τ, Nf a σ τ → NetRep τ a (crw f k) → Q (nI (gva f k)) τ) : wp_X1_cutOut σ a (nI k) Q := by
  obtain ⟨e1, e2, e3, e4, e5, e6, e7, e8, e9, e10, e11⟩ := crw_acc hf.1 hk
  have hR := hf.1.2.2.2.2.1.2.2
  unfold wp_X1_cutOut
  simp (disch := omega) only [forall_eq, forall_eq', n_inT, n_cl, n_lt, n_le, n_eq, n_eq0, n_lt0, n_ge0, n_gt0, n_le0, n_em, n_me, n_add, n_mul, n_00, n_s01, n_1z, n_0z, Nat.one_ne_zero, eq_self, ne_eq, true_and, and_true, true_implies, false_implies, implies_true, not_true_eq_false, not_false_eq_true, false_and, and_false, or_false, false_or, or_true, true_or]
  rw [h.va k hk, if_pos hs]
  have h1 : ∀ b, b ≠ a + 7 → b ≠ a + 8 → su (su σ (a + 7) k (-1)) (a + 8) k (nI 0) b = σ b := fun b x y => by rw [su_ne y, su_ne x]
  have h7 : ∀ j, su (su σ (a + 7) k (-1)) (a + 8) k (nI 0) (a + 7) j = if j = k then -1 else σ (a + 7) j := fun j => by rw [su_ne (by omega), su_at]
  have h8 : ∀ j, su (su σ (a + 7) k (-1)) (a + 8) k (nI 0) (a + 8) j = if j = k then nI 0 else σ (a + 8) j := fun j => by rw [su_at, su_ne (by omega)]
  refine hQ _ (((Nf.rf a σ).su (by omega) (by omega)).su (by omega) (by omega)) ?_
  generalize su (su σ (a + 7) k (-1)) (a + 8) k (nI 0) = τ at *
  refine ⟨?_, ?_, ?_, ?_, ?_, ?_, ?_, fun j hj => ?_, fun j hj => ?_, fun r hr => ?_⟩
  · rw [e5, h1 _ (by omega) (by omega)]; exact h.re
  · rw [e4, h1 _ (by omega) (by omega)]; exact h.ma
  · rw [e1, h1 _ (by omega) (by omega)]; exact h.st
  · rw [e1, e2, h1 _ (by omega) (by omega)]; exact h.px
  · rw [e1, e3, h1 _ (by omega) (by omega)]; exact h.py
  · rw [e4, e6, h1 _ (by omega) (by omega)]; exact h.mx
  · rw [e4, e7, h1 _ (by omega) (by omega)]; exact h.my
  · rw [e8, h7]
    by_cases c : j = k
    · rw [if_pos c, c, setO_same, if_neg (by decide)]
    · rw [if_neg c, setO_ne c, e9 j hj c]; exact h.va j hj
  · rw [h8, hm_hmf]
    by_cases c : j = k
    · rw [if_pos c, c]
      congr 1
      refine (nat_ext10 (by have := hmf_lt (ghd (crw f k)) k; omega) (by decide) (fun r _ => ?_)).symm
      rw [tb_hmf, Nat.zero_testBit]
      by_cases c3 : r < 3
      · rw [e10 r k c3 hk]
        unfold cth
        simp
      · simp [c3]
    · rw [if_neg c, h.hd j hj, hm_hmf]
      congr 1
      refine hmf_ext (fun r hr => ?_)
      rw [e10 r j hr hj]
      unfold cth
      rw [if_neg c]
  · rw [e5] at hr
    rw [e11]
    exact (h.sp r hr).congr (h1 _ (by omega) (by omega)) (h1 _ (by omega) (by omega)) (h1 _ (by omega) (by omega))
