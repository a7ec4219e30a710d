/-! both sides let a node go -/
theorem hm_congr {f g : Nat → Int32} (h : ghd f = ghd g) : hm f = hm g := by funext k; unfold hm; rw [h]
theorem hm_zrow (f : Nat → Int32) (k : Nat) : hm (zrow f) k = 0 := by
  unfold hm
  simp [bm, (zrow_acc f).2.2.2.2.2.2.2.2.2.1]
theorem s_X1_letGo {σ : St} {a p : Nat} {f : Nat → Int32} {Q : Int32 → St → Prop} (h : NetRep σ a f) (hf : Good f) (hp : p < 10) (hp1 : gst f p ≠ 0) (hm' : mayGo (gst f) p)
    (hQ : ∀ τ, Nf a σ τ → NetRep τ a (lrow f p) → Q (nI (cntS (setO (gst f) p 0) 1 10)) τ) : wp_X1_letGo σ a (nI p) Q := by
  have hb := lg_b hf hp hp1 hm'
  obtain ⟨e1, e2, e3, e4, e5, e6, e7, e8, e9, e10, e11⟩ := urow_acc (v := 0) hp (by decide) hb
  obtain ⟨z1, z2, z3, z4, z5, z6, z7, z8, z9, z10, z11⟩ := zrow_acc (upd (updA f (lg f p) (gR f)) p (nI 0))
  have hR := hf.1.2.2.2.2.1.2.2
  have hs : some1 (gst f) := ⟨p, hp, hp1⟩
  have hall := mayGo_all hp hm'
  have hul := rest_lt (gst f) p
  have hst2 : ∀ n, n < 10 → setO (gst f) p 0 n ≤ 2 := fun n hn => by
    have := (hf.1.1 n hn).2
    unfold setO; split <;> omega
  unfold wp_X1_letGo
  simp (disch := omega) only [forall_eq, forall_eq', n_inT, n_cl, n_lt, n_le, n_eq, n_eq0, n_lt0, n_ge0, n_gt0, n_le0, n_em, n_me, n_add, n_mul, n_00, n_s01, n_1z, n_0z, Nat.one_ne_zero, eq_self, ne_eq, true_and, and_true, true_implies, false_implies, implies_true, not_true_eq_false, not_false_eq_true, false_and, and_false, or_false, false_or, or_true, true_or]
  have k1 : ∀ b, b ≠ a + 2 → su σ (a + 2) p (nI 0) b = σ b := fun b b1 => su_ne b1
  have k4 : ∀ j, su σ (a + 2) p (nI 0) (a + 2) j = if j = p then nI 0 else σ (a + 2) j := fun j => su_at _ _ _ _ _
  have k2 : Nf a σ (su σ (a + 2) p (nI 0)) := (Nf.rf a σ).su (by omega) (by omega)
  generalize su σ (a + 2) p (nI 0) = σ1 at *
  have hst1 : rowIs (σ1 (a + 2)) 10 (setO (gst f) p 0) := fun m hm => by
    rw [k4]
    by_cases c : m = p
    · rw [if_pos c, c, setO_same]
    · rw [if_neg c, setO_ne c]; exact h.st m hm
  rw [← e1] at hst1 hst2
  refine s_X1_nodesThatAre (f := upd (updA f (lg f p) (gR f)) p (nI 0)) hst1 hst2 (by decide) ?_
  rw [e1, bits_set (by decide)]
  rw [e1] at hst1
  have hfin : ∀ τ, Nf a σ τ → (∀ b, b < a + 9 → τ b = σ1 b) → (∀ r, r < gR f → SpRep τ (a + 1 + 8 + 4 * r) (lg f p r)) → wp_X1_letGo_56 τ a (nI (rest (gst f) p)) Q := by
    intro τ hN hlo hS
    have hj : ∀ j, j ≠ a + 2 → j < a + 9 → τ j = σ j := fun j b1 b4 => by rw [hlo j b4, k1 j b1]
    have hbc : nI (pc (rest (gst f) p) 10) = nI (cntS (setO (gst f) p 0) 1 10) := by
      rw [← bits_set (show (0 : Nat) ≠ 1 by decide), pc_bits _ _ 10 (by decide)]
    unfold wp_X1_letGo_56
    rw [n_eq0 (by omega)]
    refine ⟨fun c => ?_, fun c => s_J7_fill (by decide) (fun τ' q1 q2 => ?_)⟩
    · unfold wp_X1_letGo_68
      refine s_J6_bitCount hul ?_
      rw [hbc]
      refine hQ τ hN ?_
      unfold lrow
      rw [if_neg (fun q => c (hall.mp q))]
      refine ⟨?_, ?_, fun m hm => ?_, fun m hm hne => ?_, fun m hm hne => ?_, ?_, ?_, ?_, ?_, fun r hr => ?_⟩
      · rw [e5, hj a (by omega) (by omega)]; exact h.re
      · rw [e4, hj a (by omega) (by omega)]; exact h.ma
      · rw [e1, hlo _ (by omega)]; exact hst1 m hm
      · rw [e2, hj _ (by omega) (by omega)]
        refine h.px m hm (fun q => hne ?_)
        rw [e1]; unfold setO; split
        · rfl
        · exact q
      · rw [e3, hj _ (by omega) (by omega)]
        refine h.py m hm (fun q => hne ?_)
        rw [e1]; unfold setO; split
        · rfl
        · exact q
      · rw [e4, e6, hj _ (by omega) (by omega)]; exact h.mx
      · rw [e4, e7, hj _ (by omega) (by omega)]; exact h.my
      · rw [e8, e9, hj _ (by omega) (by omega)]; exact h.va
      · rw [hj _ (by omega) (by omega), hm_congr e10]; exact h.hd
      · rw [e5] at hr
        rw [e11 r hr]; exact hS r hr
    · have hN' : Nf a σ τ' := hN.tr (fun b hb => q1 b (by omega))
      have hj' : ∀ j, j ≠ a + 2 → j ≠ a + 8 → j < a + 9 → τ' j = σ j := fun j b1 b2 b3 => by rw [q1 j b2, hj j b1 b3]
      unfold wp_X1_letGo_68
      refine s_J6_bitCount hul ?_
      rw [hbc]
      refine hQ τ' hN' ?_
      unfold lrow
      rw [if_pos (hall.mpr c)]
      refine ⟨?_, ?_, fun m hm => ?_, fun m hm hne => ?_, fun m hm hne => ?_, ?_, ?_, ?_, fun k hk => ?_, fun r hr => ?_⟩
      · rw [z5, e5, hj' a (by omega) (by omega) (by omega)]; exact h.re
      · rw [z4, e4, hj' a (by omega) (by omega) (by omega)]; exact h.ma
      · rw [z1, e1, q1 _ (by omega), hlo _ (by omega)]; exact hst1 m hm
      · rw [z2, e2, hj' _ (by omega) (by omega) (by omega)]
        refine h.px m hm (fun q => hne ?_)
        rw [z1, e1]; unfold setO; split
        · rfl
        · exact q
      · rw [z3, e3, hj' _ (by omega) (by omega) (by omega)]
        refine h.py m hm (fun q => hne ?_)
        rw [z1, e1]; unfold setO; split
        · rfl
        · exact q
      · rw [z4, z6, e4, e6, hj' _ (by omega) (by omega) (by omega)]; exact h.mx
      · rw [z4, z7, e4, e7, hj' _ (by omega) (by omega) (by omega)]; exact h.my
      · rw [z8, z9, e8, e9, hj' _ (by omega) (by omega) (by omega)]; exact h.va
      · rw [q2 k hk, hm_zrow]
      · rw [z5, e5] at hr
        rw [z11, e11 r hr]
        exact (hS r hr).congr (q1 _ (by omega)) (q1 _ (by omega)) (q1 _ (by omega))
  refine LP2_nat (gR f) (fun i τ z => z = nI i ∧ Nf a σ τ ∧ (∀ b, b < a + 9 → τ b = σ1 b) ∧ (∀ r, r < i → SpRep τ (a + 1 + 8 + 4 * r) (lg f p r)) ∧ ∀ r, i ≤ r → r < gR f → SpRep τ (a + 1 + 8 + 4 * r) (gow f r)) ?_ 0 _ _ (Nat.zero_le _) ⟨rfl, k2, fun _ _ => rfl, fun r hr => absurd hr (by omega), fun r _ hr => (h.sp r hr).congr (k1 _ (by omega)) (k1 _ (by omega)) (k1 _ (by omega))⟩
  rintro ih i τ _ hi ⟨rfl, hN, hlo, hS1, hS2⟩ hih
  unfold wp_X1_letGo_15
  rw [show τ a 9 = nI (gR f) by rw [hlo a (by omega), k1 a (by omega)]; exact h.re]
  simp (disch := omega) only [forall_eq, forall_eq', n_inT, n_cl, n_lt, n_le, n_eq, n_eq0, n_lt0, n_ge0, n_gt0, n_le0, n_em, n_me, n_add, n_mul, n_00, n_s01, n_1z, n_0z, Nat.one_ne_zero, eq_self, ne_eq, true_and, and_true, true_implies, false_implies, implies_true, not_true_eq_false, not_false_eq_true, false_and, and_false, or_false, false_or, or_true, true_or]
  refine ⟨fun q => hfin τ hN hlo (by rw [show gR f = i by omega]; exact hS1), fun q => ?_⟩
  have hir : i < gR f := by omega
  have hgo : ∀ τ', Spf (a + 1 + 8 + 4 * i) τ τ' → SpRep τ' (a + 1 + 8 + 4 * i) (lg f p i) → ih τ' (nI (i + 1)) := by
    intro τ' hS' hR'
    refine hih _ _ hir ⟨rfl, hN.tr (hS'.nf (by omega)), fun b hb => ?_, fun r hr => ?_, fun r hr hr' => ?_⟩
    · rw [hS' b (by omega) (by omega) (by omega)]; exact hlo b hb
    · by_cases c : r = i
      · rw [c]; exact hR'
      · exact (hS1 r (by omega)).congr (hS' _ (by omega) (by omega) (by omega)) (hS' _ (by omega) (by omega) (by omega)) (hS' _ (by omega) (by omega) (by omega))
    · exact (hS2 r (by omega) hr').congr (hS' _ (by omega) (by omega) (by omega)) (hS' _ (by omega) (by omega) (by omega)) (hS' _ (by omega) (by omega) (by omega))
  refine ⟨fun c => ⟨n_in (by omega) (by decide), ?_⟩, fun c => ⟨n_in (by omega) (by decide), ?_⟩⟩
  · exact s_X4_handAll (hS2 i (Nat.le_refl _) hir) (hf.pt hs hir) (fun y hy => gow_hi hy) hp hul c (rest_p _ _) hgo
  · refine s_X4_clear (fun τ' hS' hR' => hgo τ' hS' ?_)
    rw [(lg_ok hf hp hir hp1 hm').2.2 c]
    exact hR'
theorem s_X9_goesAway {σ : St} {p : Nat} {f : Nat → Int32} {Q : St → Prop} (hf : Good f) (hσ : σ 245 = f) (hp : p < 10) (hp1 : gst f p ≠ 0) (hm' : mayGo (gst f) p)
    (hQ : ∀ τ, Mf σ τ → τ 245 = lrow f p → Q τ) : wp_X9_goesAway σ (nI p) Q := by
  have hb := lg_b hf hp hp1 hm'
  obtain ⟨e1, e2, e3, e4, e5, e6, e7, e8, e9, e10, e11⟩ := urow_acc (v := 0) hp (by decide) hb
  have hU := urow_ok hf.1 hp (show 0 ≤ 2 by decide) (fun q => absurd rfl q) hb
  have hR := hf.1.2.2.2.2.1.2.2
  have hs : some1 (gst f) := ⟨p, hp, hp1⟩
  refine LP2_nat (gR f) (fun i τ z => z = nI i ∧ Mf σ τ ∧ τ 245 = updA f (lg f p) i) ?_ 0 _ _ (Nat.zero_le _) ⟨rfl, Mf.rf σ, hσ⟩
  rintro ih i τ _ hi ⟨rfl, hM, h245⟩ hih
  have hRow := hf.1.updA (g := lg f p) i (by omega) (fun r hr => (hb r (by omega)).1)
  have h37 : τ 245 37 = nI (gR f) := by rw [h245, updA_lo _ _ (by decide)]; exact hf.1.2.2.2.2.1.1
  unfold wp_X9_goesAway_2
  rw [h37]
  simp (disch := omega) only [forall_eq, forall_eq', n_inT, n_cl, n_lt, n_le, n_eq, n_eq0, n_lt0, n_ge0, n_gt0, n_le0, n_em, n_me, n_add, n_mul, n_00, n_s01, n_1z, n_0z, Nat.one_ne_zero, eq_self, ne_eq, true_and, and_true, true_implies, false_implies, implies_true, not_true_eq_false, not_false_eq_true, false_and, and_false, or_false, false_or, or_true, true_or]
  refine ⟨fun q => ?_, fun q => ?_⟩
  · have ei : i = gR f := by omega
    subst ei
    unfold wp_X9_goesAway_25
    simp (disch := omega) only [Nat.zero_add, forall_eq, forall_eq', n_inT, n_cl, n_lt, n_le, n_eq, n_eq0, n_lt0, n_ge0, n_gt0, n_le0, n_em, n_me, n_add, n_mul, n_00, n_s01, n_1z, n_0z, Nat.one_ne_zero, eq_self, ne_eq, true_and, and_true, true_implies, false_implies, implies_true, not_true_eq_false, not_false_eq_true, false_and, and_false, or_false, false_or, or_true, true_or]
    have r1 : su τ 245 p (nI 0) 245 = upd (updA f (lg f p) (gR f)) p (nI 0) := by
      funext j; rw [su_at, upd_at, h245]
    have r2 : Mf σ (su τ 245 p (nI 0)) := ⟨fun b hb => by rw [su_ne (by omega)]; exact hM.1 b hb, fun j hj => by rw [su_ne (by decide)]; exact hM.2 j hj⟩
    generalize su τ 245 p (nI 0) = τ1 at *
    refine s_X9_countOf (by rw [r1]; exact hU) (by decide) ?_
    have hc := cnt31 (setO (gst f) p 0) 0
    rw [r1, e1]
    unfold lrow at hQ
    simp (disch := omega) only [forall_eq, forall_eq', n_inT, n_cl, n_lt, n_le, n_eq, n_eq0, n_lt0, n_ge0, n_gt0, n_le0, n_em, n_me, n_add, n_mul, n_00, n_s01, n_1z, n_0z, Nat.one_ne_zero, eq_self, ne_eq, true_and, and_true, true_implies, false_implies, implies_true, not_true_eq_false, not_false_eq_true, false_and, and_false, or_false, false_or, or_true, true_or]
    refine ⟨fun c => ?_, fun c => hQ τ1 r2 (by rw [if_neg (by omega), r1])⟩
    rw [if_pos (by omega)] at hQ
    refine LP2_nat 300 (fun i τ z => z = nI i ∧ Mf σ τ ∧ ∀ j, τ 245 j = if 238 ≤ j ∧ j < 238 + i then nI 0 else τ1 245 j) ?_ 0 _ _ (Nat.zero_le _) ⟨rfl, r2, fun j => by rw [if_neg (by omega)]⟩
    rintro ih i τ2 _ hi ⟨rfl, hM2, h2⟩ hih2
    unfold wp_X9_goesAway_47
    simp (disch := omega) only [forall_eq, forall_eq', n_inT, n_cl, n_lt, n_le, n_eq, n_eq0, n_lt0, n_ge0, n_gt0, n_le0, n_em, n_me, n_add, n_mul, n_00, n_s01, n_1z, n_0z, Nat.one_ne_zero, eq_self, ne_eq, true_and, and_true, true_implies, false_implies, implies_true, not_true_eq_false, not_false_eq_true, false_and, and_false, or_false, false_or, or_true, true_or]
    refine ⟨fun q => hQ τ2 hM2 ?_, fun q => hih2 _ _ (by omega) ⟨rfl, ⟨fun b hb => by rw [su_ne (by omega)]; exact hM2.1 b hb, fun j hj => by rw [su_ne (by decide)]; exact hM2.2 j hj⟩, fun j => ?_⟩⟩
    · funext j
      rw [h2 j, r1, show i = 300 by omega]
      rfl
    · rw [su_at, h2 j]
      by_cases c1 : j = 238 + i
      · rw [if_pos c1, if_pos (by omega)]
      · rw [if_neg c1]
        by_cases c2 : 238 ≤ j ∧ j < 238 + i
        · rw [if_pos c2, if_pos (by omega)]
        · rw [if_neg c2, if_neg (by omega)]
  · have hir : i < gR f := by omega
    have hgow : gow (updA f (lg f p) i) i = gow f i := by
      rw [gow_updA f _ i (fun r hr => hb r (by omega)), if_neg (by omega)]
    have hself : τ 245 = updO (updA f (lg f p) i) i (gow f i) := by
      have := updO_self hRow (r := i) (by rw [gR_updA]; exact hir)
      rw [hgow] at this
      rw [h245]
      exact this.symm
    refine s_X9_handsAll (f := updA f (lg f p) i) (o := gow f i) hRow (by rw [gR_updA]; exact hir) (hf.pt hs hir).1 (fun y hy => gow_hi hy) hp (rest (gst f) p) (by rw [gst_updA]; rfl) (rest_p _ _) (rest_lt _ _) (fun _ => hf.pt hs hir) hself (fun τ' hM' hτ' => ?_)
    exact hih _ _ hir ⟨rfl, hM.tr hM', by rw [hτ', updA]; rfl⟩
