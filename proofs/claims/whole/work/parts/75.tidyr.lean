/-! TIDY: the reference -/
theorem s_X9_manifold {τ : St} {o : Nat → Nat} {Q : Int32 → Prop} (hb : OB o) (hl : LR τ o) (hQ : Q (nO (scat o))) : wp_X9_manifold τ Q := by
  refine LP1_nat 10 (fun i y => y = nI i ∧ ∀ m, m < i → cnt o m ≤ 1) ?_ 0 _ (Nat.zero_le _) ⟨rfl, fun m hm => absurd hm (by omega)⟩
  rintro ih i _ hi ⟨rfl, hm⟩ hih
  unfold wp_X9_manifold_2
  simp (disch := omega) only [forall_eq, forall_eq', n_inT, n_cl, n_lt, n_le, n_eq, n_eq0, n_lt0, n_ge0, n_gt0, n_le0, n_em, n_me, n_add, n_mul, n_00, n_s01, n_1z, n_0z, Nat.one_ne_zero, eq_self, ne_eq, true_and, and_true, true_implies, false_implies, implies_true, not_true_eq_false, not_false_eq_true, false_and, and_false, or_false, false_or, or_true, true_or]
  refine ⟨fun q => ?_, fun q => s_X9_zonesOf hb hl (by omega) ?_⟩
  · rw [show i = 10 by omega] at hm
    rw [scat_no hm] at hQ; exact hQ
  · have hc := cnt_31 o i
    rw [n_le (by omega) (by decide)]
    refine ⟨fun c => hih _ (by omega) ⟨rfl, fun m hmi => ?_⟩, fun c => ?_⟩
    · rcases Nat.lt_or_ge m i with t | t
      · exact hm m t
      · rw [show m = i by omega]; exact c
    · rw [scat_is (by omega) (by omega) hm] at hQ; exact hQ
theorem s_X9_strayOf {τ : St} {o : Nat → Nat} {p : Nat} {Q : Int32 → Prop} (hb : OB o) (hl : LR τ o) (hp : p < 10) (hc : 0 < cnt o p) (hQ : Q (nI (lz o p))) : wp_X9_strayOf τ (nI p) Q := by
  have hll := zl_len o hb.2 2048
  obtain ⟨l1, l2, l3⟩ := lz_ok hc
  refine LP2_nat (zl o 2048).length (fun j x y => y = nI j ∧ (x = -1 ∧ (∀ b, b < j → o ((zl o 2048).getD b 0) ≠ p + 1) ∨ ∃ c, c < j ∧ x = nI ((zl o 2048).getD c 0) ∧ o ((zl o 2048).getD c 0) = p + 1 ∧ ∀ b, b < j → o ((zl o 2048).getD b 0) = p + 1 → b ≤ c)) ?_ 0 _ _ (Nat.zero_le _) ⟨rfl, Or.inl ⟨rfl, fun b h => absurd h (by omega)⟩⟩
  rintro ih j x _ hj ⟨rfl, hor⟩ hih
  unfold wp_X9_strayOf_4
  rw [hl.1]
  simp (disch := omega) only [forall_eq, forall_eq', n_inT, n_cl, n_lt, n_le, n_eq, n_eq0, n_lt0, n_ge0, n_gt0, n_le0, n_em, n_me, n_add, n_mul, n_00, n_s01, n_1z, n_0z, Nat.one_ne_zero, eq_self, ne_eq, true_and, and_true, true_implies, false_implies, implies_true, not_true_eq_false, not_false_eq_true, false_and, and_false, or_false, false_or, or_true, true_or]
  refine ⟨fun h => ?_, fun h => ?_⟩
  · have ej : (zl o 2048).length ≤ j := h
    obtain ⟨i, hi, ei⟩ := zl_idx (o := o) (n := 2048) l1 (by omega)
    rcases hor with ⟨-, hno⟩ | ⟨c, hcl, rfl, hco, hmax⟩
    · exact absurd (by rw [show (zl o 2048).getD i 0 = lz o p from ei]; exact l2) (hno i (by omega))
    · have h1 := hmax i (by omega) (by rw [show (zl o 2048).getD i 0 = lz o p from ei]; exact l2)
      have hcl2 : c < (zl o 2048).length := by omega
      obtain ⟨z1, z2, -, -⟩ := za_ok hb hcl2
      have h2 := l3 _ z1 hco
      have e : (zl o 2048).getD c 0 = lz o p := by
        rcases Nat.lt_or_ge i c with t | t
        · have := zl_rise o 2048 i c t hcl2
          rw [show (zl o 2048).getD i 0 = lz o p from ei] at this
          omega
        · have : c = i := by omega
          rw [this]; exact ei
      rw [e]; exact hQ
  · have hjl : j < (zl o 2048).length := by omega
    obtain ⟨z1, z2, z3, z4⟩ := za_ok hb hjl
    obtain ⟨hw, hw2, -⟩ := hl.2 j hjl
    rw [hw2, hw, n_eq (by omega) (by omega)]
    refine ⟨fun hne => hih _ _ hjl ⟨rfl, ?_⟩, fun he => ?_⟩
    · rcases hor with ⟨rfl, hno⟩ | ⟨c, hcl, rfl, hco, hmax⟩
      · refine Or.inl ⟨rfl, fun b hbj => ?_⟩
        rcases Nat.lt_or_ge b j with t | t
        · exact hno b t
        · rw [show b = j by omega]; omega
      · refine Or.inr ⟨c, by omega, rfl, hco, fun b hbj e => ?_⟩
        rcases Nat.lt_or_ge b j with t | t
        · exact hmax b t e
        · rw [show b = j by omega] at e; omega
    · have hnew : ih (nI ((zl o 2048).getD j 0)) (nI (j + 1)) := hih _ _ hjl ⟨rfl, Or.inr ⟨j, by omega, rfl, by omega, fun b hbj _ => by omega⟩⟩
      rcases hor with ⟨rfl, hno⟩ | ⟨c, hcl, rfl, hco, hmax⟩
      · exact ⟨fun _ => hnew, fun t => absurd rfl t⟩
      · obtain ⟨c1, c2, -, -⟩ := za_ok hb (show c < (zl o 2048).length by omega)
        refine ⟨fun t => absurd t (by rw [n_em (by omega)]; exact not_false), fun _ => ?_⟩
        refine s_X9_depthOf z2 z1 (s_X9_depthOf c2 c1 ?_)
        have d1 := zd_le z1 z2
        have d2 := zd_le c1 c2
        have hm := zd_mono c2 (Nat.le_of_lt (zl_rise o 2048 c j hcl hjl))
        rw [n_lt (by omega) (by omega)]
        exact ⟨fun t => absurd hm (by omega), fun _ => hnew⟩
theorem s_X9_isInside {σ : St} {q w : Nat} {Q : Int32 → Prop} (hq : q < 2048) (hw : 1 ≤ w) (hwl : w < 2048) (h1 : ins q w = true → Q (nI 1)) (h0 : ¬ ins q w = true → Q (nI 0)) : wp_X9_isInside σ (nI q) (nI w) Q := by
  rw [ins_iff hq hw] at h1 h0
  refine LP1_nat 11 (fun i x => x = nI (q / 2 ^ i) ∧ ∀ j, j < i → w < q / 2 ^ j) ?_ 0 _ (by decide) ⟨by rw [Nat.pow_zero, Nat.div_one], fun j hj => absurd hj (by omega)⟩
  rintro ih i _ hi ⟨rfl, hno⟩ hih
  have hs : q / 2 ^ i < 2048 := shr_lt hq
  unfold wp_X9_isInside_2
  rw [n_div (by omega) (by decide) (by decide), Nat.div_div_eq_div_mul, ← Nat.pow_succ]
  simp (disch := omega) only [forall_eq, forall_eq', n_inT, n_cl, n_lt, n_le, n_eq, n_eq0, n_lt0, n_ge0, n_gt0, n_le0, n_em, n_me, n_add, n_mul, n_00, n_s01, n_1z, n_0z, Nat.one_ne_zero, eq_self, ne_eq, true_and, and_true, true_implies, false_implies, implies_true, not_true_eq_false, not_false_eq_true, false_and, and_false, or_false, false_or, or_true, true_or]
  refine ⟨fun c => ?_, fun c => ?_⟩
  · unfold wp_X9_isInside_14
    rw [n_eq (by omega) (by omega)]
    refine ⟨fun c2 => h0 ?_, fun c2 => h1 ⟨i, c2⟩⟩
    rintro ⟨j, hj⟩
    rcases Nat.lt_or_ge j i with t | t
    · have := hno j t; omega
    · have : q / 2 ^ j ≤ q / 2 ^ i := Nat.div_le_div_left (Nat.pow_le_pow_right (by decide) t) (Nat.two_pow_pos i)
      omega
  · refine hih _ ?_ ⟨rfl, fun j hj => ?_⟩
    · rcases Nat.lt_or_ge i 11 with t | t
      · exact t
      · have : 2 ^ 11 ≤ 2 ^ i := Nat.pow_le_pow_right (by decide) t
        rw [Nat.div_eq_of_lt (by omega)] at c
        omega
    · rcases Nat.lt_or_ge j i with t | t
      · exact hno j t
      · rw [show j = i by omega]; omega
theorem s_X9_twinsIn {σ : St} {r w : Nat} {f : Nat → Int32} {o : Nat → Nat} {Q : Int32 → Prop} (hr : r < 3) (hb : OB o) (hw : 1 ≤ w) (hwl : w < 2048) (hσ : σ 245 = updO f r o) (hQ : Q (nO (twF o w 1024))) : wp_X9_twinsIn σ (nI r) (nI w) Q := by
  have h01 : twF o w 1 = none := by
    have : ¬ tw o w 0 = true := fun t => by
      have := ins_pos (by decide) hw (tw_iff.mp t).1
      omega
    unfold twF
    rw [if_neg this]; rfl
  refine LP2_nat 1024 (fun q x y => y = nI q ∧ 1 ≤ q ∧ x = nO (twF o w q)) ?_ 1 _ _ (by decide) ⟨rfl, Nat.le_refl _, by rw [h01]; rfl⟩
  rintro ih q _ _ hq ⟨rfl, hq1, rfl⟩ hih
  unfold wp_X9_twinsIn_5
  simp (disch := omega) only [forall_eq, forall_eq', n_inT, n_cl, n_lt, n_le, n_eq, n_eq0, n_lt0, n_ge0, n_gt0, n_le0, n_em, n_me, n_add, n_mul, n_00, n_s01, n_1z, n_0z, Nat.one_ne_zero, eq_self, ne_eq, true_and, and_true, true_implies, false_implies, implies_true, not_true_eq_false, not_false_eq_true, false_and, and_false, or_false, false_or, or_true, true_or]
  refine ⟨fun c => by rw [show q = 1024 by omega]; exact hQ, fun c => ?_⟩
  have hql : q < 1024 := by omega
  have next : ¬ tw o w q = true → ih (nO (twF o w q)) (nI (q + 1)) := fun t => hih _ _ hql ⟨rfl, by omega, by
    conv => rhs; unfold twF
    rw [if_neg t]⟩
  refine s_X9_isInside (by omega) hw hwl (fun i1 => ?_) (fun i1 => ?_)
  · refine ⟨fun t => absurd t (by decide), fun _ => ?_⟩
    unfold wp_X9_halfAt
    have o1 := hb.1 (2 * q) (by omega)
    have o2 := hb.1 (2 * q + 1) (by omega)
    simp (disch := omega) only [forall_eq, forall_eq', n_inT, n_cl, n_lt, n_le, n_eq, n_eq0, n_lt0, n_ge0, n_gt0, n_le0, n_em, n_me, n_add, n_mul, n_00, n_s01, n_1z, n_0z, Nat.one_ne_zero, eq_self, ne_eq, true_and, and_true, true_implies, false_implies, implies_true, not_true_eq_false, not_false_eq_true, false_and, and_false, or_false, false_or, or_true, true_or]
    rw [Nat.add_zero]
    refine s_own' (f := f) (o := o) hr (by omega) hσ ?_
    rw [nm_iff (by omega)]
    refine ⟨fun t => next (fun s => (tw_iff.mp s).2.1 t), fun t => ?_⟩
    refine s_own' (f := f) (o := o) hr (by omega) hσ ?_
    rw [nm_iff (by omega)]
    refine ⟨fun t2 => ?_, fun t2 => next (fun s => (tw_iff.mp s).2.2 t2)⟩
    have ht : tw o w q = true := tw_iff.mpr ⟨i1, t, t2⟩
    have es : twF o w (q + 1) = (match twF o w q with | none => some q | some b => if zd b < zd q then some q else some b) := by
      conv => lhs; unfold twF
      rw [if_pos ht]
      rfl
    cases e : twF o w q with
    | none =>
      rw [e] at es
      exact ⟨fun _ => hih _ _ hql ⟨rfl, by omega, by rw [es]; rfl⟩, fun s => absurd rfl s⟩
    | some b =>
      rw [e] at es
      obtain ⟨b1, b2, -⟩ := twF_some q b e
      have hbp := ins_pos (show b < 2048 by omega) hw (tw_iff.mp b2).1
      refine ⟨fun s => absurd s (by rw [nO, n_em (by omega)]; exact not_false), fun _ => ?_⟩
      rw [nO]
      refine s_X9_depthOf hq1 (by omega) (s_X9_depthOf hbp (by omega) ?_)
      have d1 := zd_le (show q < 2048 by omega) hq1
      have d2 := zd_le (show b < 2048 by omega) hbp
      rw [n_le (by omega) (by omega)]
      refine ⟨fun s => hih _ _ hql ⟨rfl, by omega, by rw [es]; dsimp only; rw [if_neg (by omega)]; rfl⟩, fun s => hih _ _ hql ⟨rfl, by omega, by rw [es]; dsimp only; rw [if_pos (by omega)]; rfl⟩⟩
  · exact ⟨fun _ => next (fun t => i1 (tw_iff.mp t).1), fun t => absurd rfl t⟩
theorem upO_row {σ : St} {f : Nat → Int32} {r : Nat} {o : Nat → Nat} (hf : RowOK f) (hr : r < gR f) (hb : OB o) (hh : ∀ y, 2048 ≤ y → o y = 0) (hσ : σ 245 = updO f r o) : RowOK (σ 245) ∧ gow (σ 245) r = o ∧ r < gR (σ 245) := by
  have hR := hf.2.2.2.2.1.2.2
  rw [hσ]
  exact ⟨hf.updO (by omega) hb.1, gow_updO hb.1 hh, by rw [gR_updO]; exact hr⟩
theorem s_X9_tidies {σ : St} {r : Nat} {f : Nat → Int32} {o : Nat → Nat} {Q : St → Prop} (hf : RowOK f) (hr : r < gR f) (hb : OB o) (hh : ∀ y, 2048 ≤ y → o y = 0) (hP : scat o ≠ none → PT o) (hσ : σ 245 = updO f r o)
    (hQ : ∀ τ, Mf σ τ → τ 245 = updO f r (tdy 1024 o) → Q τ) : wp_X9_tidies σ (nI r) Q := by
  have hR := hf.2.2.2.2.1.2.2
  obtain ⟨k1, k2, k3⟩ := upO_row hf hr hb hh hσ
  unfold wp_X9_tidies
  refine s_X9_laysList k1 (by rw [k2]; exact hb) k3 (fun τ hL hl => ?_)
  rw [k2] at hl
  refine s_X9_manifold hb hl ?_
  cases e0 : scat o with
  | none =>
    refine LP2_nat 0 (fun i τ' x => τ' = τ ∧ x = -1) ?_ 0 _ _ (Nat.zero_le _) ⟨rfl, rfl⟩
    rintro ih i _ _ hi ⟨rfl, rfl⟩ hih
    rw [tdy_stop e0] at hQ
    exact ⟨fun _ => hQ _ hL.sc.mf (by rw [hL.m]; exact hσ), fun t => absurd rfl t⟩
  | some p0 =>
    have hP0 := hP (by rw [e0]; exact fun q => by cases q)
    refine LP2_nat 1024 (fun i τ x => Mf σ τ ∧ ∃ o', x = nO (scat o') ∧ LR τ o' ∧ τ 245 = updO f r o' ∧ PT o' ∧ (∀ y, 2048 ≤ y → o' y = 0) ∧ nz o' + i ≤ 1024 ∧ tdy 1024 o = tdy (1024 - i) o') ?_ 0 _ _ (Nat.zero_le _) ⟨hL.sc.mf, o, by rw [e0], hl, by rw [hL.m]; exact hσ, hP0, hh, by have := nz_le hb hP0.2.2; omega, by rw [Nat.sub_zero]⟩
    rintro ih i τ _ hi ⟨hM, o', rfl, hl', h245, hP', hh', hn, he⟩ hih
    unfold wp_X9_tidies_10
    cases e : scat o' with
    | none =>
      refine ⟨fun _ => hQ τ hM ?_, fun t => absurd rfl t⟩
      rw [he, tdy_stop e]; exact h245
    | some p =>
      obtain ⟨s1, s2, -⟩ := scF_some 10 p e
      obtain ⟨t1, t2, t3, t4⟩ := tst_ok hP' hh' s1 s2
      obtain ⟨l1, l2, l3⟩ := lz_ok (show 0 < cnt o' p by omega)
      obtain ⟨u1, -⟩ := lz_two hP'.1 s2
      obtain ⟨a1, a2, a3, a4, a5, a6, a7⟩ := xor1_f l1 u1
      have hob := hP'.1.1 _ a4
      have hd0 : i < 1024 := by
        rcases Nat.lt_or_ge i 1024 with t | t
        · exact t
        · have h1 : 1 ≤ nz o' := by omega
          omega
      obtain ⟨d, hd⟩ : ∃ d, 1024 - i = d + 1 := ⟨1023 - i, by omega⟩
      have again : ∀ τ', Mf σ τ' → τ' 245 = updO f r (tst o' p) → wp_X9_tidies_105 τ' (nI r) ih Q := by
        intro τ' hM' h245'
        obtain ⟨m1, m2, m3⟩ := upO_row hf hr t1.1 t2 h245'
        unfold wp_X9_tidies_105
        refine s_X9_laysList m1 (by rw [m2]; exact t1.1) m3 (fun τ2 hL2 hl2 => ?_)
        rw [m2] at hl2
        refine s_X9_manifold t1.1 hl2 ?_
        refine hih _ _ hd0 ⟨hM'.tr hL2.sc.mf, tst o' p, rfl, hl2, by rw [hL2.m]; exact h245', t1, t2, by omega, ?_⟩
        rw [he, hd]
        conv => lhs; unfold tdy
        rw [e, show 1024 - (i + 1) = d by omega]
      refine ⟨fun t => absurd t (by rw [nO, n_em (by omega)]; exact not_false), fun _ => ?_⟩
      rw [nO]
      refine s_X9_strayOf hP'.1 hl' s1 (by omega) ?_
      rw [n_xor]
      intro x4 hx4
      rw [hx4]
      refine s_own' (f := f) (o := o') (by omega) a4 h245 ?_
      rw [nm_iff (by omega)]
      unfold tst at again
      refine ⟨fun c => ?_, fun c => ?_⟩
      · rw [if_neg (by simpa using c)] at again
        obtain ⟨b, eb⟩ := tw_ex hP' l1 u1 (by omega) c
        rw [eb, Option.getD_some] at again
        refine s_X9_twinsIn (f := f) (o := o') (by omega) hP'.1 (by omega) a4 h245 ?_
        obtain ⟨b1, b2, -⟩ := twF_some 1024 b eb
        obtain ⟨f1, f2, f3, f4⟩ := tw_far hP' s2 b1 b2
        obtain ⟨-, i2, i3⟩ := tw_iff.mp b2
        have hMb := hP'.1.1 (2 * b) (by omega)
        have hHb := hP'.1.1 (2 * b + 1) (by omega)
        rw [eb, nO]
        unfold wp_X9_halfAt
        simp (disch := omega) only [forall_eq, forall_eq', n_inT, n_cl, n_lt, n_le, n_eq, n_eq0, n_lt0, n_ge0, n_gt0, n_le0, n_em, n_me, n_add, n_mul, n_00, n_s01, n_1z, n_0z, Nat.one_ne_zero, eq_self, ne_eq, true_and, and_true, true_implies, false_implies, implies_true, not_true_eq_false, not_false_eq_true, false_and, and_false, or_false, false_or, or_true, true_or]
        rw [Nat.add_zero]
        refine s_own' (f := f) (o := o') (by omega) (by omega) h245 (s_own' (f := f) (o := o') (by omega) (by omega) h245 ?_)
        rw [Nat.add_zero (2 * b), n_sub (a := o' (2 * b)) (b := 1) (by omega), n_sub (a := o' (2 * b + 1)) (b := 1) (by omega)]
        have hpM : p ≠ o' (2 * b) - 1 := fun q => f3 (by omega)
        obtain ⟨g1, g2, g3⟩ := giv_ok hP' (z := 2 * b + 1) (n := o' (2 * b) - 1) (by omega) i3 (by omega)
        have hs1 : giv o' (2 * b + 1) (o' (2 * b) - 1) (lz o' p) = p + 1 := (g2 p hpM _).mpr ⟨l2, by omega⟩
        refine s_X9_gives (f := f) (o := o') (by omega) (by omega) (hP'.set (by omega) i3 (by omega)) (by omega) h245 ?_
        refine s_X9_gives (f := f) (o := giv o' (2 * b + 1) (o' (2 * b) - 1)) (by omega) (by omega) (g1.set l1 (by omega) (by omega)) l1 (sr_same _ _ _) ?_
        exact again _ ((hM.sr _).sr _) (sr_same _ _ _)
      · rw [if_pos c] at again
        refine s_own' (f := f) (o := o') (by omega) a4 h245 ?_
        rw [n_sub (by omega)]
        refine s_X9_gives (f := f) (o := o') (by omega) (by omega) (hP'.set l1 (by omega) (by omega)) l1 h245 ?_
        exact again _ (hM.sr _) (sr_same _ _ _)
