/-! both sides tidy -/
def tg (f : Nat → Int32) (r : Nat) : Nat → Nat := tdy 1024 (gow f r)
def trow (f : Nat → Int32) : Nat → Int32 := updA f (tg f) (gR f)
theorem Good.sc {f : Nat → Int32} (hf : Good f) {r : Nat} (hr : r < gR f) (h : scat (gow f r) ≠ none) : PT (gow f r) := by
  by_cases hs : some1 (gst f)
  · exact hf.pt hs hr
  · refine absurd (scat_no (fun m _ => ?_)) h
    rw [cnt_0.mpr (fun z hz q => by rw [(hf.2 r hr).1.none hs hz] at q; omega)]
    omega
theorem tg_ok {f : Nat → Int32} (hf : Good f) {r : Nat} (hr : r < gR f) : OwnOK (tg f r) (gst f) ∧ (∀ y, 2048 ≤ y → tg f r y = 0) ∧ nz (tg f r) ≤ nz (gow f r) := tdy_own (hf.2 r hr) (fun y hy => gow_hi hy) 1024
theorem tg_b {f : Nat → Int32} (hf : Good f) : ∀ r, r < gR f → (∀ z, z < 2048 → tg f r z ≤ 10) ∧ ∀ z, 2048 ≤ z → tg f r z = 0 := fun r hr => ⟨(tg_ok hf hr).1.1.1.1, (tg_ok hf hr).2.1⟩
theorem gow_trow {f : Nat → Int32} (hf : Good f) {r : Nat} (hr : r < gR f) : gow (trow f) r = tg f r := by
  unfold trow
  rw [gow_updA f _ _ (tg_b hf), if_pos hr]
theorem trow_good {f : Nat → Int32} (hf : Good f) : Good (trow f) := by
  have hR := hf.1.2.2.2.2.1.2.2
  refine ⟨hf.1.updA (gR f) hR (fun r hr => (tg_b hf r hr).1), fun r hr => ?_⟩
  have e : gR (trow f) = gR f := gR_updA f _ _
  rw [e] at hr
  rw [gow_trow hf hr, show gst (trow f) = gst f from gst_updA f _ _]
  exact (tg_ok hf hr).1
def zsum (f : Nat → Int32) (k : Nat) : Nat := sumN (fun r => nz (gow f r)) k
def fwr (f : Nat → Int32) (k : Nat) : Nat := sumN (fun r => nz (gow f r) - nz (tg f r)) k
theorem fwr_eq {f : Nat → Int32} (hf : Good f) : zsum f (gR f) - zsum (trow f) (gR f) = fwr f (gR f) ∧ zsum (trow f) (gR f) ≤ zsum f (gR f) := by
  have h1 : zsum (trow f) (gR f) = sumN (fun r => nz (tg f r)) (gR f) := sumN_congr _ (fun r hr => by rw [gow_trow hf hr])
  have h2 : zsum f (gR f) = sumN (fun r => (nz (gow f r) - nz (tg f r)) + nz (tg f r)) (gR f) := sumN_congr _ (fun r hr => by have := (tg_ok hf hr).2.2; omega)
  rw [sumN_add] at h2
  unfold fwr
  omega
theorem s_X1_tidyAll {σ : St} {a : Nat} {f : Nat → Int32} {Q : Int32 → St → Prop} (h : NetRep σ a f) (hf : Good f)
    (hQ : ∀ τ, Nf a σ τ → NetRep τ a (trow f) → Q (nI (fwr f (gR f))) τ) : wp_X1_tidyAll σ a Q := by
  have hR := hf.1.2.2.2.2.1.2.2
  refine LP3_nat (gR f) (fun i τ x z => z = nI i ∧ x = nI (fwr f i) ∧ Nf a σ τ ∧ (∀ b, b < a + 9 → τ b = σ b) ∧ (∀ r, r < i → SpRep τ (a + 1 + 8 + 4 * r) (tg f r)) ∧ ∀ r, i ≤ r → r < gR f → SpRep τ (a + 1 + 8 + 4 * r) (gow f r)) ?_ 0 _ _ _ (Nat.zero_le _) ⟨rfl, rfl, Nf.rf a σ, fun _ _ => rfl, fun r hr => absurd hr (by omega), fun r _ hr => h.sp r hr⟩
  rintro ih i τ _ _ hi ⟨rfl, rfl, hN, hlo, hS1, hS2⟩ hih
  unfold wp_X1_tidyAll_4
  rw [show τ a 9 = nI (gR f) by rw [hlo a (by omega)]; exact h.re]
  simp (disch := omega) only [forall_eq, forall_eq', n_inT, n_cl, n_lt, n_le, n_eq, n_eq0, n_lt0, n_ge0, n_gt0, n_le0, n_em, n_me, n_add, n_mul, n_00, n_s01, n_1z, n_0z, Nat.one_ne_zero, eq_self, ne_eq, true_and, and_true, true_implies, false_implies, implies_true, not_true_eq_false, not_false_eq_true, false_and, and_false, or_false, false_or, or_true, true_or]
  refine ⟨fun q => ?_, fun q => ⟨n_in (by omega) (by decide), ?_⟩⟩
  · have ei : i = gR f := by omega
    subst ei
    refine hQ τ hN ?_
    unfold trow
    refine ⟨?_, ?_, ?_, ?_, ?_, ?_, ?_, ?_, ?_, fun r hr => ?_⟩
    · rw [gR_updA, hlo a (by omega)]; exact h.re
    · rw [gK_updA, hlo a (by omega)]; exact h.ma
    · rw [gst_updA, hlo _ (by omega)]; exact h.st
    · rw [gst_updA, gpx_updA, hlo _ (by omega)]; exact h.px
    · rw [gst_updA, gpy_updA, hlo _ (by omega)]; exact h.py
    · rw [gK_updA, gmx_updA, hlo _ (by omega)]; exact h.mx
    · rw [gK_updA, gmy_updA, hlo _ (by omega)]; exact h.my
    · rw [gsd_updA, gva_updA, hlo _ (by omega)]; exact h.va
    · rw [hlo _ (by omega), hm_congr (ghd_updA f _ _)]; exact h.hd
    · rw [gR_updA] at hr
      have := gow_trow hf hr
      unfold trow at this
      rw [this]; exact hS1 r hr
  · have hir : i < gR f := by omega
    have hob := (hf.2 i hir).1.1
    have hsp := hS2 i (Nat.le_refl _) hir
    have hle := (tg_ok hf hir).2.2
    refine s_X4_zonesOfAll hsp hob ?_
    refine ⟨n_in (by omega) (by decide), s_X4_tidyUp hsp hob (hf.sc hir) (fun y hy => gow_hi hy) (fun τ' hS' hR' => ⟨n_in (by omega) (by decide), ?_⟩)⟩
    refine s_X4_zonesOfAll (o := tg f i) hR' (tg_ok hf hir).1.1.1 ?_
    rw [n_add, n_sub (by omega)]
    refine hih _ _ _ hir ⟨rfl, ?_, hN.tr (hS'.nf (by omega)), fun b hb => ?_, fun r hr => ?_, fun r hr hr' => ?_⟩
    · show _ = nI (fwr f i + (nz (gow f i) - nz (tg f i)))
      congr 1
      omega
    · rw [hS' b (by omega) (by omega) (by omega)]; exact hlo b hb
    · by_cases c : r = i
      · rw [c]; exact hR'
      · exact (hS1 r (by omega)).congr (hS' _ (by omega) (by omega) (by omega)) (hS' _ (by omega) (by omega) (by omega)) (hS' _ (by omega) (by omega) (by omega))
    · exact (hS2 r (by omega) hr').congr (hS' _ (by omega) (by omega) (by omega)) (hS' _ (by omega) (by omega) (by omega)) (hS' _ (by omega) (by omega) (by omega))
theorem s_X9_allZones {σ : St} {f : Nat → Int32} {Q : Int32 → St → Prop} (hf : Good f) (hσ : σ 245 = f) (hQ : ∀ τ, Lf σ τ → Q (nI (zsum f (gR f))) τ) : wp_X9_allZones σ Q := by
  refine LP3_nat (gR f) (fun i τ x z => z = nI i ∧ x = nI (zsum f i) ∧ Lf σ τ) ?_ 0 _ _ _ (Nat.zero_le _) ⟨rfl, rfl, Lf.rf σ⟩
  rintro ih i τ _ _ hi ⟨rfl, rfl, hL⟩ hih
  have hR := hf.1.2.2.2.2.1.2.2
  have h245 : τ 245 = f := by rw [hL.m]; exact hσ
  unfold wp_X9_allZones_4
  rw [h245, hf.1.2.2.2.2.1.1]
  simp (disch := omega) only [forall_eq, forall_eq', n_inT, n_cl, n_lt, n_le, n_eq, n_eq0, n_lt0, n_ge0, n_gt0, n_le0, n_em, n_me, n_add, n_mul, n_00, n_s01, n_1z, n_0z, Nat.one_ne_zero, eq_self, ne_eq, true_and, and_true, true_implies, false_implies, implies_true, not_true_eq_false, not_false_eq_true, false_and, and_false, or_false, false_or, or_true, true_or]
  refine ⟨fun q => by rw [show i = gR f by omega]; exact hQ τ hL, fun q => ?_⟩
  have hir : i < gR f := by omega
  refine s_X9_laysList (by rw [h245]; exact hf.1) (by rw [h245]; exact (hf.2 i hir).1.1) (by rw [h245]; exact hir) (fun τ' hL' hl => ?_)
  rw [h245] at hl
  rw [hl.1, nz_len, n_add]
  exact hih _ _ _ hir ⟨rfl, rfl, hL.tr hL'⟩
theorem s_X9_tidy0 {σ : St} {f : Nat → Int32} {Q : Int32 → St → Prop} (hf : Good f) (hσ : σ 245 = f)
    (h7 : cntS (gst f) 2 10 ≠ 0 → Q (nI 7) σ) (hQ : cntS (gst f) 2 10 = 0 → ∀ τ, Mf σ τ → τ 245 = trow f → Q (nI 0) τ) : wp_X9_tidy0 σ Q := by
  have hR := hf.1.2.2.2.2.1.2.2
  unfold wp_X9_tidy0
  refine s_X9_countOf (by rw [hσ]; exact hf.1) (by decide) ?_
  have hc := cnt31 (gst f) 2
  rw [hσ, n_le0 (by omega)]
  refine ⟨fun c => ?_, h7⟩
  have hQ := hQ c
  refine LP2_nat (gR f) (fun i τ z => z = nI i ∧ Mf σ τ ∧ τ 245 = updA f (tg f) i) ?_ 0 _ _ (Nat.zero_le _) ⟨rfl, Mf.rf σ, hσ⟩
  rintro ih i τ _ hi ⟨rfl, hM, h245⟩ hih
  have hRow := hf.1.updA (g := tg f) i (by omega) (fun r hr => (tg_b hf r (by omega)).1)
  have h37 : τ 245 37 = nI (gR f) := by rw [h245, updA_lo _ _ (by decide)]; exact hf.1.2.2.2.2.1.1
  unfold wp_X9_tidy0_13
  rw [h37]
  simp (disch := omega) only [forall_eq, forall_eq', n_inT, n_cl, n_lt, n_le, n_eq, n_eq0, n_lt0, n_ge0, n_gt0, n_le0, n_em, n_me, n_add, n_mul, n_00, n_s01, n_1z, n_0z, Nat.one_ne_zero, eq_self, ne_eq, true_and, and_true, true_implies, false_implies, implies_true, not_true_eq_false, not_false_eq_true, false_and, and_false, or_false, false_or, or_true, true_or]
  refine ⟨fun q => hQ τ hM (by rw [h245, show i = gR f by omega]; rfl), fun q => ?_⟩
  have hir : i < gR f := by omega
  have hgow : gow (updA f (tg f) i) i = gow f i := by
    rw [gow_updA f _ i (fun r hr => tg_b hf r (by omega)), if_neg (by omega)]
  have hself : τ 245 = updO (updA f (tg f) i) i (gow f i) := by
    have := updO_self hRow (r := i) (by rw [gR_updA]; exact hir)
    rw [hgow] at this
    rw [h245]
    exact this.symm
  refine s_X9_tidies (f := updA f (tg f) i) (o := gow f i) hRow (by rw [gR_updA]; exact hir) (hf.2 i hir).1.1 (fun y hy => gow_hi hy) (hf.sc hir) hself (fun τ' hM' hτ' => ?_)
  exact hih _ _ hir ⟨rfl, hM.tr hM', by rw [hτ', updA]; rfl⟩
