/-! both sides let a node crash -/
theorem hG_ok {f : Nat → Int32} (hf : RowOK f) {h : Nat → Nat → Nat} (hh : ∀ r k, r < 3 → k < 100 → h r k ≤ 1 ∧ (gsd f k = 0 → h r k = 0) ∧ (gR f ≤ r → h r k = 0)) : RowOK (hrow f h) := hrow_ok hf (fun r k a b => (hh r k a b).1) (fun r k a b => (hh r k a b).2.1) (fun r k a b => (hh r k a b).2.2)
theorem crow_good {f : Nat → Int32} (hf : Good f) {p : Nat} (hp : p < 10) (hp1 : gst f p ≠ 0) : Good (crow f p) := by
  obtain ⟨e1, e2, e3, e4, e5, e6, e7, e8, e9, e10, e11⟩ := srow_acc (f := f) (v := 2) hp (by decide)
  have hS := srow_ok hf hp (show 2 ≤ 2 by decide) (fun _ => hp1)
  have hh : ∀ r k, r < 3 → k < 100 → crh f p r k ≤ 1 ∧ (gsd (upd f p (nI 2)) k = 0 → crh f p r k = 0) ∧ (gR (upd f p (nI 2)) ≤ r → crh f p r k = 0) := fun r k hr hk => by rw [e8, e5]; exact crh_ok hf.1 p hr hk
  obtain ⟨z1, z2, z3, z4, z5, z6, z7, z8, z9, z10, z11⟩ := hrow_acc (upd f p (nI 2)) (crh f p) (fun r k a b => (hh r k a b).1)
  refine ⟨hG_ok hS hh, fun r hr => ?_⟩
  unfold crow at *
  rw [z5, e5] at hr
  rw [z11, e11, z1, e1]
  exact (hf.2 r hr).set hp1 hp (by decide)
theorem s_X1_isHeldBy {σ : St} {a k r p v : Nat} {f : Nat → Int32} {Q : Int32 → Prop} (hsp : SpRep σ (a + 1 + 8 + 4 * r) (gow f r)) (hob : OB (gow f r)) (hv : σ (a + 8) k = nI v) (hl : v < 8) (hk : k < 100) (hr : r < 3) (hp : p < 10)
    (h1 : v.testBit r = true → kp f k r = p + 1 → Q (nI 1)) (h0 : ¬ (v.testBit r = true ∧ kp f k r = p + 1) → Q (nI 0)) : wp_X1_isHeldBy σ a (nI k) (nI r) (nI p) Q := by
  have hkl := kp_le hob k
  unfold wp_X1_isHeldBy
  refine s_X1_isHeld hv hl hk hr (fun e => ?_) (fun e => ?_)
  · refine ⟨fun q => absurd q (by decide), fun _ => ⟨n_in hr (by decide), ?_⟩⟩
    rw [n_cl (by omega)]
    refine s_X1_pointX (s_X1_pointY ?_)
    have hy := pnt_y k r
    refine s_X4_nodeAt (X := pnt k r % 32) (Y := pnt k r / 32) hsp.1 hob (by rw [n_and31]; congr 1; omega) (Nat.mod_lt _ (by decide)) (by rw [n_and31]; congr 1; omega) hy ?_
    rw [← ptc, ← kp, nm_eq (by omega) (by omega)]
    exact ⟨fun q => h0 (fun t => q t.2), fun q => h1 e q⟩
  · exact ⟨fun _ => h0 (fun t => by rw [e] at t; exact absurd t.1 (by decide)), fun q => absurd rfl q⟩
theorem s_X1_letDie {σ : St} {a p : Nat} {f : Nat → Int32} {Q : Int32 → St → Prop} (h : NetRep σ a f) (hf : Good f) (hp : p < 10) (hp1 : gst f p ≠ 0)
    (hQ : ∀ τ, Nf a σ τ → NetRep τ a (crow f p) → Q (nI (cntS (setO (gst f) p 2) 1 10)) τ) : wp_X1_letDie σ a (nI p) Q := by
  obtain ⟨e1, e2, e3, e4, e5, e6, e7, e8, e9, e10, e11⟩ := srow_acc (f := f) (v := 2) hp (by decide)
  have hh : ∀ r k, r < 3 → k < 100 → crh f p r k ≤ 1 := fun r k hr hk => (crh_ok hf.1 p hr hk).1
  obtain ⟨z1, z2, z3, z4, z5, z6, z7, z8, z9, z10, z11⟩ := hrow_acc (upd f p (nI 2)) (crh f p) hh
  have hR := hf.1.2.2.2.2.1.2.2
  have hst2 : ∀ n, n < 10 → setO (gst f) p 2 n ≤ 2 := fun n hn => by
    have := (hf.1.1 n hn).2
    unfold setO; split <;> omega
  unfold wp_X1_letDie
  simp (disch := omega) only [forall_eq, forall_eq', n_inT, n_cl, n_lt, n_le, n_eq, n_eq0, n_lt0, n_ge0, n_gt0, n_le0, n_em, n_me, n_add, n_mul, n_00, n_s01, n_1z, n_0z, Nat.one_ne_zero, eq_self, ne_eq, true_and, and_true, true_implies, false_implies, implies_true, not_true_eq_false, not_false_eq_true, false_and, and_false, or_false, false_or, or_true, true_or]
  have k1 : ∀ b, b ≠ a + 2 → su σ (a + 2) p (nI 2) b = σ b := fun b b1 => su_ne b1
  have k4 : ∀ j, su σ (a + 2) p (nI 2) (a + 2) j = if j = p then nI 2 else σ (a + 2) j := fun j => su_at _ _ _ _ _
  have k2 : Nf a σ (su σ (a + 2) p (nI 2)) := (Nf.rf a σ).su (by omega) (by omega)
  generalize su σ (a + 2) p (nI 2) = σ1 at *
  have hst1 : rowIs (σ1 (a + 2)) 10 (setO (gst f) p 2) := fun m hm => by
    rw [k4]
    by_cases c : m = p
    · rw [if_pos c, c, setO_same]
    · rw [if_neg c, setO_ne c]; exact h.st m hm
  have hge : ∀ r k, gR f ≤ r → crh f p r k = ghd f r k := fun r k q => by unfold crh; rw [if_neg (by omega)]
  refine LP2_nat 100 (fun K τ z => z = nI K ∧ Nf a σ τ ∧ (∀ b, b ≠ a + 8 → τ b = σ1 b) ∧ rowIs (τ (a + 8)) 100 (hmf (hpt (crh f p) (ghd f) K 0))) ?_ 0 _ _ (Nat.zero_le _) ⟨rfl, k2, fun _ _ => rfl, by rw [hpt_0, k1 _ (by omega)]; exact h.hd⟩
  rintro ih K τ _ hK ⟨rfl, hN, hlo, hrow⟩ hih
  unfold wp_X1_letDie_9
  simp (disch := omega) only [forall_eq, forall_eq', n_inT, n_cl, n_lt, n_le, n_eq, n_eq0, n_lt0, n_ge0, n_gt0, n_le0, n_em, n_me, n_add, n_mul, n_00, n_s01, n_1z, n_0z, Nat.one_ne_zero, eq_self, ne_eq, true_and, and_true, true_implies, false_implies, implies_true, not_true_eq_false, not_false_eq_true, false_and, and_false, or_false, false_or, or_true, true_or]
  refine ⟨fun q => ?_, fun q => ?_⟩
  · have eK : K = 100 := by omega
    subst eK
    unfold wp_X1_letDie_61
    rw [← e1] at hst1 hst2
    refine s_X1_nodesThatAre (f := upd f p (nI 2)) (by rw [hlo _ (by omega)]; exact hst1) hst2 (by decide) ?_
    refine s_J6_bitCount (bits_lt _ _) ?_
    rw [pc_bits _ _ 10 (by decide), e1]
    refine hQ τ hN ?_
    have hj : ∀ j, j ≠ a + 2 → j ≠ a + 8 → τ j = σ j := fun j b1 b2 => by rw [hlo j b2, k1 j b1]
    unfold crow
    refine ⟨?_, ?_, fun m hm => ?_, fun m hm hne => ?_, fun m hm hne => ?_, ?_, ?_, ?_, fun k hk => ?_, fun r hr => ?_⟩
    · rw [z5, e5, hj a (by omega) (by omega)]; exact h.re
    · rw [z4, e4, hj a (by omega) (by omega)]; exact h.ma
    · rw [z1, hlo _ (by omega)]; exact hst1 m hm
    · rw [z2, e2, hj _ (by omega) (by omega)]
      rw [z1, e1] at hne
      refine h.px m hm (fun q => hne ?_)
      rw [setO_ne (fun c => hp1 (by rw [← c]; exact q))]; exact q
    · rw [z3, e3, hj _ (by omega) (by omega)]
      rw [z1, e1] at hne
      refine h.py m hm (fun q => hne ?_)
      rw [setO_ne (fun c => hp1 (by rw [← c]; exact q))]; exact q
    · rw [z4, z6, e4, e6, hj _ (by omega) (by omega)]; exact h.mx
    · rw [z4, z7, e4, e7, hj _ (by omega) (by omega)]; exact h.my
    · rw [z8, z9, e8, e9, hj _ (by omega) (by omega)]; exact h.va
    · rw [hrow k hk, hmf_row hh hk]
      congr 1
      exact hmf_ext (fun r _ => by rw [hpt_end hk])
    · rw [z5, e5] at hr
      rw [z11, e11]
      exact (h.sp r hr).congr (hj _ (by omega) (by omega)) (hj _ (by omega) (by omega)) (hj _ (by omega) (by omega))
  · have hK1 : K < 100 := by omega
    refine LP2_nat (gR f) (fun R τ z => z = nI R ∧ Nf a σ τ ∧ (∀ b, b ≠ a + 8 → τ b = σ1 b) ∧ rowIs (τ (a + 8)) 100 (hmf (hpt (crh f p) (ghd f) K R))) ?_ 0 _ _ (Nat.zero_le _) ⟨rfl, hN, hlo, hrow⟩
    rintro ih2 R τ2 _ hRR ⟨rfl, hN2, hlo2, hrow2⟩ hih2
    unfold wp_X1_letDie_17
    have hj : ∀ j, j ≠ a + 2 → j ≠ a + 8 → τ2 j = σ j := fun j b1 b2 => by rw [hlo2 j b2, k1 j b1]
    rw [show τ2 a 9 = nI (gR f) by rw [hj a (by omega) (by omega)]; exact h.re]
    simp (disch := omega) only [forall_eq, forall_eq', n_inT, n_cl, n_lt, n_le, n_eq, n_eq0, n_lt0, n_ge0, n_gt0, n_le0, n_em, n_me, n_add, n_mul, n_00, n_s01, n_1z, n_0z, Nat.one_ne_zero, eq_self, ne_eq, true_and, and_true, true_implies, false_implies, implies_true, not_true_eq_false, not_false_eq_true, false_and, and_false, or_false, false_or, or_true, true_or]
    refine ⟨fun q => hih _ _ hK1 ⟨rfl, hN2, hlo2, ?_⟩, fun q => ?_⟩
    · rw [show R = gR f by omega, hpt_next hge] at hrow2
      exact hrow2
    · have hRl : R < gR f := by omega
      have hcur : (hmf (hpt (crh f p) (ghd f) K R) K).testBit R = decide (ghd f R K = 1) := by
        rw [tb_hmf, hpt_at]
        have : R < 3 := by omega
        simp [this]
      refine s_X1_isHeldBy (f := f) ((h.sp R hRl).congr (hj _ (by omega) (by omega)) (hj _ (by omega) (by omega)) (hj _ (by omega) (by omega))) (hf.2 R hRl).1.1 (hrow2 K hK1) (hmf_lt _ _) hK1 (by omega) hp (fun b1 b2 => ?_) (fun b => ?_)
      · refine ⟨fun t => absurd t (by decide), fun _ => ?_⟩
        rw [hrow2 K hK1, n_clr (by omega)]
        refine hih2 _ _ hRl ⟨rfl, hN2.su (by omega) (by omega), fun b hb => by rw [su_ne hb]; exact hlo2 b hb, fun k hk => ?_⟩
        rw [su_at]
        by_cases c : k = K
        · rw [if_pos c, c]
          congr 1
          refine hmf_clr (by omega) (fun r' _ hne => ?_) ?_
          · rw [hpt_step]
            show (if r' = R ∧ K = K then _ else _) = 1 ↔ _
            rw [if_neg (fun t => hne t.1)]
          · rw [hpt_step]
            show (if R = R ∧ K = K then crh f p R K else _) ≠ 1
            rw [if_pos ⟨rfl, rfl⟩]
            unfold crh
            rw [if_pos ⟨hRl, b2⟩]
            decide
        · rw [if_neg c, hrow2 k hk]
          congr 1
          refine hmf_ext (fun r' _ => ?_)
          rw [hpt_step]
          show _ ↔ (if r' = R ∧ k = K then _ else _) = 1
          rw [if_neg (fun t => c t.2)]
      · refine ⟨fun _ => hih2 _ _ hRl ⟨rfl, hN2, hlo2, fun k hk => ?_⟩, fun t => absurd rfl t⟩
        rw [hrow2 k hk]
        congr 1
        by_cases c2 : kp f K R = p + 1
        · have hne : ¬ ghd f R K = 1 := fun t => b ⟨by rw [hcur]; simp [t], c2⟩
          refine hmf_ext (fun r' hr' => ?_)
          rw [hpt_step]
          show _ ↔ (if r' = R ∧ k = K then _ else _) = 1
          by_cases c : r' = R ∧ k = K
          · rw [if_pos c, c.1, c.2, hpt_at]
            unfold crh
            rw [if_pos ⟨hRl, c2⟩]
            exact ⟨fun t => absurd t hne, fun t => absurd t (by decide)⟩
          · rw [if_neg c]
        · rw [hpt_same]
          unfold crh
          rw [if_neg (fun t => c2 t.2)]
theorem s_X9_crash0 {σ : St} {p : Nat} {f : Nat → Int32} {Q : Int32 → St → Prop} (hf : Good f) (hσ : σ 245 = f) (hp : p < 10)
    (h4 : gst f p ≠ 1 → Q (nI 4) σ) (hQ : gst f p = 1 → ∀ τ, Mf σ τ → τ 245 = crow f p → Q (nI 0) τ) : wp_X9_crash0 σ (nI p) Q := by
  obtain ⟨e1, e2, e3, e4, e5, e6, e7, e8, e9, e10, e11⟩ := srow_acc (f := f) (v := 2) hp (by decide)
  have hR := hf.1.2.2.2.2.1.2.2
  unfold wp_X9_crash0
  refine s_X9_isState (by rw [hσ]; exact hf.1) hp (by decide) (fun q => ?_) (fun q => ?_)
  · rw [hσ] at q
    have hp1 : gst f p ≠ 0 := by omega
    have hS := srow_ok hf hp (show 2 ≤ 2 by decide) (fun _ => hp1)
    have hQ := hQ q
    refine ⟨fun _ => ?_, fun t => absurd t (by decide)⟩
    simp (disch := omega) only [Nat.zero_add, forall_eq, forall_eq', n_inT, n_cl, n_lt, n_le, n_eq, n_eq0, n_lt0, n_ge0, n_gt0, n_le0, n_em, n_me, n_add, n_mul, n_00, n_s01, n_1z, n_0z, Nat.one_ne_zero, eq_self, ne_eq, true_and, and_true, true_implies, false_implies, implies_true, not_true_eq_false, not_false_eq_true, false_and, and_false, or_false, false_or, or_true, true_or]
    have r1 : su σ 245 p (nI 2) 245 = upd f p (nI 2) := by
      funext j; rw [su_at, upd_at, hσ]
    have r2 : Mf σ (su σ 245 p (nI 2)) := ⟨fun b hb => su_ne (by omega), fun j hj => by rw [su_ne (by decide)]⟩
    generalize su σ 245 p (nI 2) = σ1 at *
    have hge : ∀ r k, gR f ≤ r → crh f p r k = ghd f r k := fun r k q => by unfold crh; rw [if_neg (by omega)]
    have hh0 : ∀ K R {r k : Nat}, r < 3 → k < 100 → _ := fun K R {r k} hr hk => hpt_ok hf.1 (h := crh f p) (fun r k hr hk => crh_ok hf.1 p hr hk) K R (r := r) (k := k) hr hk
    refine LP2_nat 100 (fun K τ z => z = nI K ∧ Mf σ τ ∧ τ 245 = hrow (upd f p (nI 2)) (hpt (crh f p) (ghd f) K 0)) ?_ 0 _ _ (Nat.zero_le _) ⟨rfl, r2, by rw [r1, hpt_0, ← e10, hrow_self hS]⟩
    rintro ih K τ _ hK ⟨rfl, hM, hrw⟩ hih
    unfold wp_X9_crash0_22
    simp (disch := omega) only [forall_eq, forall_eq', n_inT, n_cl, n_lt, n_le, n_eq, n_eq0, n_lt0, n_ge0, n_gt0, n_le0, n_em, n_me, n_add, n_mul, n_00, n_s01, n_1z, n_0z, Nat.one_ne_zero, eq_self, ne_eq, true_and, and_true, true_implies, false_implies, implies_true, not_true_eq_false, not_false_eq_true, false_and, and_false, or_false, false_or, or_true, true_or]
    refine ⟨fun q => hQ τ hM ?_, fun q => ?_⟩
    · rw [hrw, show K = 100 by omega]
      exact hrow_congr (fun r k _ hk => hpt_end hk)
    · have hK1 : K < 100 := by omega
      refine LP2_nat (gR f) (fun R τ z => z = nI R ∧ Mf σ τ ∧ τ 245 = hrow (upd f p (nI 2)) (hpt (crh f p) (ghd f) K R)) ?_ 0 _ _ (Nat.zero_le _) ⟨rfl, hM, hrw⟩
      rintro ih2 R τ2 _ hRR ⟨rfl, hM2, hrw2⟩ hih2
      have hhb : ∀ r k, r < 3 → k < 100 → hpt (crh f p) (ghd f) K R r k ≤ 1 := fun r k hr hk => (hh0 K R hr hk).1
      obtain ⟨z1, z2, z3, z4, z5, z6, z7, z8, z9, z10, z11⟩ := hrow_acc (upd f p (nI 2)) (hpt (crh f p) (ghd f) K R) hhb
      have hRow2 : RowOK (τ2 245) := by
        rw [hrw2]
        exact hG_ok hS (fun r k hr hk => by rw [e8, e5]; exact hh0 K R hr hk)
      have h37 : τ2 245 37 = nI (gR f) := by
        have := hRow2.2.2.2.2.1.1
        rw [this, hrw2, z5, e5]
      unfold wp_X9_crash0_30
      rw [h37]
      simp (disch := omega) only [forall_eq, forall_eq', n_inT, n_cl, n_lt, n_le, n_eq, n_eq0, n_lt0, n_ge0, n_gt0, n_le0, n_em, n_me, n_add, n_mul, n_00, n_s01, n_1z, n_0z, Nat.one_ne_zero, eq_self, ne_eq, true_and, and_true, true_implies, false_implies, implies_true, not_true_eq_false, not_false_eq_true, false_and, and_false, or_false, false_or, or_true, true_or]
      refine ⟨fun q => hih _ _ hK1 ⟨rfl, hM2, ?_⟩, fun q => ?_⟩
      · rw [hrw2, show R = gR f by omega, hpt_next hge]
      · have hRl : R < gR f := by omega
        have hcur : ghd (τ2 245) R K = ghd f R K := by rw [hrw2, z10 R K (by omega) hK1, hpt_at]
        refine s_X9_isHeld hRow2 (by omega) hK1 (fun b => ?_) (fun b => ?_)
        · rw [hcur] at b
          refine ⟨fun t => absurd t (by decide), fun _ => ?_⟩
          have hgow : gow (τ2 245) = gow f := by rw [hrw2, z11, e11]
          have hgst : gst (τ2 245) = setO (gst f) p 2 := by rw [hrw2, z1, e1]
          have hgR : gR (τ2 245) = gR f := by rw [hrw2, z5, e5]
          have hkp : kp (τ2 245) K R = kp f K R := by unfold kp; rw [hgow]
          have hkl := kp_le (hf.2 R hRl).1.1 K
          refine s_X9_keeperOf ⟨hRow2, by rw [hgow, hgst]; exact (hf.2 R hRl).1.set hp1 hp (by decide)⟩ (by rw [hgR]; exact hRl) hK1 (fun τ3 hB => ?_)
          rw [hkp, nm_eq (by omega) (by omega)]
          refine ⟨fun c => hih2 _ _ hRl ⟨rfl, hM2.tr hB.bm.mf, ?_⟩, fun c => ?_⟩
          · rw [hB.m, hrw2, hpt_same]
            unfold crh
            rw [if_neg (fun t => c t.2)]
          · refine hih2 _ _ hRl ⟨rfl, ⟨fun b hb => by rw [su_ne (by omega)]; exact (hM2.tr hB.bm.mf).1 b hb, fun j hj => by rw [su_ne (by decide)]; exact (hM2.tr hB.bm.mf).2 j hj⟩, ?_⟩
            have : su τ3 245 (238 + 100 * R + K) (nI 0) 245 = upd (τ3 245) (238 + 100 * R + K) (nI 0) := by
              funext j; rw [su_at, upd_at]
            rw [this, hB.m, hrw2, hrow_set _ _ (by omega) hK1, hpt_step]
            refine hrow_congr (fun r k _ _ => ?_)
            by_cases d : r = R ∧ k = K
            · show (if _ then 0 else _) = if _ then _ else _
              rw [if_pos d, if_pos d]
              unfold crh
              rw [if_pos ⟨hRl, c⟩]
            · show (if _ then 0 else _) = if _ then _ else _
              rw [if_neg d, if_neg d]
        · rw [hcur] at b
          refine ⟨fun _ => hih2 _ _ hRl ⟨rfl, hM2, ?_⟩, fun t => absurd rfl t⟩
          rw [hrw2]
          refine hrow_congr (fun r k hr hk => ?_)
          rw [hpt_step]
          by_cases d : r = R ∧ k = K
          · show _ = if _ then _ else _
            rw [if_pos d, d.1, d.2, hpt_at]
            have := (ghd_ok hf.1 (r := R) (by omega) hK1).1
            unfold crh
            split
            · omega
            · rfl
          · show _ = if _ then _ else _
            rw [if_neg d]
  · rw [hσ] at q
    exact ⟨fun t => absurd rfl t, fun _ => h4 q⟩
