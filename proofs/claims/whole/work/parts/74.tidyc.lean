/-! TIDY: the class -/
theorem s_X4_zonesOfAll {σ : St} {s : Nat} {o : Nat → Nat} {Q : Int32 → Prop} (hs : SpRep σ s o) (hb : OB o) (hQ : Q (nI (nz o))) : wp_X4_zonesOfAll σ s Q := by
  refine LP2_nat 10 (fun i x y => y = nI i ∧ x = nI (sumN (cnt o) i)) ?_ 0 _ _ (Nat.zero_le _) ⟨rfl, rfl⟩
  rintro ih i _ _ hi ⟨rfl, rfl⟩ hih
  unfold wp_X4_zonesOfAll_4
  simp (disch := omega) only [forall_eq, forall_eq', n_inT, n_cl, n_lt, n_le, n_eq, n_eq0, n_lt0, n_ge0, n_gt0, n_le0, n_em, n_me, n_add, n_mul, n_00, n_s01, n_1z, n_0z, Nat.one_ne_zero, eq_self, ne_eq, true_and, and_true, true_implies, false_implies, implies_true, not_true_eq_false, not_false_eq_true, false_and, and_false, or_false, false_or, or_true, true_or]
  refine ⟨fun q => ?_, fun q => ⟨n_in (by omega) (by decide), ?_⟩⟩
  · rw [show i = 10 by omega, nz_cnt hb]; exact hQ
  · rw [hs.2.2 i (by omega), n_add]
    exact hih _ _ (by omega) ⟨rfl, rfl⟩
theorem s_X4_leastScattered {σ : St} {s : Nat} {o : Nat → Nat} {Q : Int32 → Prop} (hs : SpRep σ s o) (hQ : Q (nO (scat o))) : wp_X4_leastScattered σ s Q := by
  refine LP1_nat 10 (fun i y => y = nI i ∧ ∀ m, m < i → cnt o m ≤ 1) ?_ 0 _ (Nat.zero_le _) ⟨rfl, fun m hm => absurd hm (by omega)⟩
  rintro ih i _ hi ⟨rfl, hm⟩ hih
  unfold wp_X4_leastScattered_2
  simp (disch := omega) only [forall_eq, forall_eq', n_inT, n_cl, n_lt, n_le, n_eq, n_eq0, n_lt0, n_ge0, n_gt0, n_le0, n_em, n_me, n_add, n_mul, n_00, n_s01, n_1z, n_0z, Nat.one_ne_zero, eq_self, ne_eq, true_and, and_true, true_implies, false_implies, implies_true, not_true_eq_false, not_false_eq_true, false_and, and_false, or_false, false_or, or_true, true_or]
  refine ⟨fun q => ?_, fun q => ⟨n_in (by omega) (by decide), ?_⟩⟩
  · rw [show i = 10 by omega] at hm
    rw [scat_no hm] at hQ; exact hQ
  · have hc := cnt_31 o i
    rw [hs.2.2 i (by omega), n_le (by omega) (by decide)]
    refine ⟨fun c => hih _ (by omega) ⟨rfl, fun m hmi => ?_⟩, fun c => ?_⟩
    · rcases Nat.lt_or_ge m i with t | t
      · exact hm m t
      · rw [show m = i by omega]; exact c
    · rw [scat_is (by omega) (by omega) hm] at hQ; exact hQ
theorem div_in {q w D : Nat} : q / 2 ^ D = w ↔ w * 2 ^ D ≤ q ∧ q < w * 2 ^ D + 2 ^ D := by
  have hp := Nat.two_pow_pos D
  constructor
  · intro h
    have h1 := Nat.div_mul_le_self q (2 ^ D)
    have h2 := Nat.lt_div_mul_add (a := q) hp
    rw [h] at h1 h2
    exact ⟨h1, h2⟩
  · rintro ⟨h1, h2⟩
    exact Nat.div_eq_of_lt_le h1 (by rw [Nat.succ_mul]; exact h2)
theorem s_X4_deepestPair {σ : St} {s w b : Nat} {o : Nat → Nat} {Q : Int32 → Prop} (hs : SpRep σ s o) (hb : OB o) (hw : 1 ≤ w) (hwl : w < 2048) (hex : twF o w 1024 = some b) (hQ : Q (nI b)) : wp_X4_deepestPair σ s (nI w) Q := by
  obtain ⟨b1, b2, b3⟩ := twF_some 1024 b hex
  have hd := zd_le hwl hw
  have hbi := (tw_iff.mp b2).1
  have hbp := ins_pos (show b < 2048 by omega) hw hbi
  have hbz := ins_zd hbp (by omega) hw hbi
  have hb9 : zd b < 10 := (zd_lt hbp).mpr b1
  have hwb : w < 1024 := by
    have : zd w < 10 := by omega
    exact (zd_lt hw).mp this
  unfold wp_X4_deepestPair
  refine s_X4_depthOf hw hwl ?_
  rw [n_sub (by omega)]
  intro x3 hx3
  rw [hx3]
  refine LP1_nat (10 - zd w) (fun i x => (i < 10 - zd w ∧ x = nI (9 - zd w - i) ∨ i = 10 - zd w ∧ x = -1) ∧ zd b + i ≤ 9) ?_ 0 _ (Nat.zero_le _) ⟨Or.inl ⟨by omega, rfl⟩, by omega⟩
  rintro ih i _ hi ⟨hor, hbd⟩ hih
  have hi2 : i < 10 - zd w := by omega
  have ex : ∃ D, 9 - zd w - i = D ∧ D ≤ 9 - zd w ∧ zd b ≤ zd w + D := ⟨9 - zd w - i, rfl, by omega, by omega⟩
  obtain ⟨D, eD, hD, hbD⟩ := ex
  rcases hor with ⟨-, rfl⟩ | ⟨q, -⟩
  · rw [eD]
    unfold wp_X4_deepestPair_10
    have hpw : w * 2 ^ D + 2 ^ D ≤ 1024 := by
      have h1 := (zd_pow hw).2
      have h2 : 2 ^ (zd w + 1) * 2 ^ D ≤ 2 ^ 10 := by rw [← Nat.pow_add]; exact Nat.pow_le_pow_right (by decide) (by omega)
      have h3 : (w + 1) * 2 ^ D ≤ 2 ^ (zd w + 1) * 2 ^ D := Nat.mul_le_mul (by omega) (Nat.le_refl _)
      rw [Nat.succ_mul] at h3
      omega
    have hp0 := Nat.two_pow_pos D
    rw [n_shl (by omega) (by omega)]
    simp (disch := omega) only [forall_eq, forall_eq', n_inT, n_cl, n_lt, n_le, n_eq, n_eq0, n_lt0, n_ge0, n_gt0, n_le0, n_em, n_me, n_add, n_mul, n_00, n_s01, n_1z, n_0z, Nat.one_ne_zero, eq_self, ne_eq, true_and, and_true, true_implies, false_implies, implies_true, not_true_eq_false, not_false_eq_true, false_and, and_false, or_false, false_or, or_true, true_or]
    refine LP1_nat (w * 2 ^ D + 2 ^ D) (fun j y => y = nI j ∧ w * 2 ^ D ≤ j ∧ ∀ q, w * 2 ^ D ≤ q → q < j → tw o w q = false) ?_ (w * 2 ^ D) _ (by omega) ⟨rfl, Nat.le_refl _, fun q a b => absurd b (by omega)⟩
    rintro ih2 j _ hj ⟨rfl, hjl, hno⟩ hih2
    have hlev : ∀ q, w * 2 ^ D ≤ q → q < w * 2 ^ D + 2 ^ D → ins q w = true ∧ zd q = zd w + D := fun q a1 a2 => by
      have hq := div_in.mpr ⟨a1, a2⟩
      refine ⟨(ins_iff (by omega) hw).mpr ⟨D, hq⟩, ?_⟩
      have h1 := zd_pow hw
      have e1 : 2 ^ (zd w + D) ≤ q := by rw [Nat.pow_add]; exact Nat.le_trans (Nat.mul_le_mul h1.1 (Nat.le_refl _)) a1
      have e2 : q < 2 ^ (zd w + D + 1) := by
        have h3 : (w + 1) * 2 ^ D ≤ 2 ^ (zd w + 1) * 2 ^ D := Nat.mul_le_mul (by omega) (Nat.le_refl _)
        rw [← Nat.pow_add, Nat.succ_mul, show zd w + 1 + D = zd w + D + 1 by omega] at h3
        omega
      exact zd_eq e1 e2
    unfold wp_X4_deepestPair_23
    rw [n_one (by omega), n_add]
    simp (disch := omega) only [forall_eq, forall_eq', n_inT, n_cl, n_lt, n_le, n_eq, n_eq0, n_lt0, n_ge0, n_gt0, n_le0, n_em, n_me, n_add, n_mul, n_00, n_s01, n_1z, n_0z, Nat.one_ne_zero, eq_self, ne_eq, true_and, and_true, true_implies, false_implies, implies_true, not_true_eq_false, not_false_eq_true, false_and, and_false, or_false, false_or, or_true, true_or]
    refine ⟨fun q => ?_, fun q => ?_⟩
    · have ej : j = w * 2 ^ D + 2 ^ D := by omega
      rw [ej] at hno
      have hbn : ¬ zd b = zd w + D := by
        intro e
        obtain ⟨jj, hjj⟩ := (ins_iff (show b < 2048 by omega) hw).mp hbi
        have e2 : zd w + jj = zd b := by
          have h1 := div_in.mp hjj
          have h2 := zd_pow hw
          have e3 : 2 ^ (zd w + jj) ≤ b := by rw [Nat.pow_add]; exact Nat.le_trans (Nat.mul_le_mul h2.1 (Nat.le_refl _)) h1.1
          have e4 : b < 2 ^ (zd w + jj + 1) := by
            have h3 : (w + 1) * 2 ^ jj ≤ 2 ^ (zd w + 1) * 2 ^ jj := Nat.mul_le_mul (by omega) (Nat.le_refl _)
            rw [← Nat.pow_add, Nat.succ_mul, show zd w + 1 + jj = zd w + jj + 1 by omega] at h3
            omega
          exact (zd_eq e3 e4).symm
        have e5 : jj = D := by omega
        rw [e5] at hjj
        obtain ⟨c1, c2⟩ := div_in.mp hjj
        have := hno b c1 c2
        rw [b2] at this
        cases this
      have hD0 : D ≠ 0 := by omega
      rw [n_dec (by omega)]
      exact hih _ hi2 ⟨Or.inl ⟨by omega, by congr 1; omega⟩, by omega⟩
    · have hjl2 : j < w * 2 ^ D + 2 ^ D := by omega
      obtain ⟨v1, v2⟩ := hlev j hjl hjl2
      have o1 := hb.1 (2 * j) (by omega)
      have o2 := hb.1 (2 * j + 1) (by omega)
      rw [hs.1 (2 * j) (by omega), hs.1 (2 * j + 1) (by omega)]
      simp (disch := omega) only [forall_eq, forall_eq', n_inT, n_cl, n_lt, n_le, n_eq, n_eq0, n_lt0, n_ge0, n_gt0, n_le0, n_em, n_me, n_add, n_mul, n_00, n_s01, n_1z, n_0z, Nat.one_ne_zero, eq_self, ne_eq, true_and, and_true, true_implies, false_implies, implies_true, not_true_eq_false, not_false_eq_true, false_and, and_false, or_false, false_or, or_true, true_or]
      have next : tw o w j = false → ih2 (nI (j + 1)) := fun t => hih2 _ hjl2 ⟨rfl, by omega, fun q a1 a2 => by
        rcases Nat.lt_or_ge q j with c | c
        · exact hno q a1 c
        · rw [show q = j by omega]; exact t⟩
      refine ⟨fun c => next ?_, fun c => ⟨fun c2 => next ?_, fun c2 => ?_⟩⟩
      · rw [Bool.eq_false_iff]; intro t; exact (tw_iff.mp t).2.1 c
      · rw [Bool.eq_false_iff]; intro t; exact (tw_iff.mp t).2.2 c2
      · have ht : tw o w j = true := tw_iff.mpr ⟨v1, c, c2⟩
        have h1 := b3 j (by omega) ht
        have hjb : j = b := by
          rcases h1 with h1 | ⟨h1, h2⟩
          · omega
          · rcases Nat.lt_or_ge b j with t | t
            · have : w * 2 ^ D ≤ b := by
                rcases Nat.lt_or_ge b (w * 2 ^ D) with u | u
                · exfalso
                  obtain ⟨jj, hjj⟩ := (ins_iff (show b < 2048 by omega) hw).mp hbi
                  obtain ⟨d1, d2⟩ := div_in.mp hjj
                  have h2 := zd_pow hw
                  have e3 : 2 ^ (zd w + jj) ≤ b := by rw [Nat.pow_add]; exact Nat.le_trans (Nat.mul_le_mul h2.1 (Nat.le_refl _)) d1
                  have e4 : b < 2 ^ (zd w + jj + 1) := by
                    have h3 : (w + 1) * 2 ^ jj ≤ 2 ^ (zd w + 1) * 2 ^ jj := Nat.mul_le_mul (by omega) (Nat.le_refl _)
                    rw [← Nat.pow_add, Nat.succ_mul, show zd w + 1 + jj = zd w + jj + 1 by omega] at h3
                    omega
                  have e6 := zd_eq e3 e4
                  have e5 : jj = D := by omega
                  rw [e5] at d1
                  omega
                · exact u
              have := hno b this t
              rw [b2] at this
              cases this
            · omega
        rw [hjb]; exact hQ
  · omega
theorem PT.hb {o : Nat → Nat} (h : PT o) : OB o := h.1
theorem s_X4_moveStray {σ : St} {s p : Nat} {o : Nat → Nat} {Q : St → Prop} (hs : SpRep σ s o) (hP : PT o) (hp : p < 10) (hc : 1 < cnt o p)
    (hQ : ∀ τ, Spf s σ τ → SpRep τ s (tst o p) → Q τ) : wp_X4_moveStray σ s (nI (lz o p)) Q := by
  obtain ⟨l1, l2, l3⟩ := lz_ok (show 0 < cnt o p by omega)
  obtain ⟨t1, -⟩ := lz_two hP.1 hc
  obtain ⟨a1, a2, a3, a4, a5, a6, a7⟩ := xor1_f l1 t1
  have hob := hP.1.1 _ a4
  unfold wp_X4_moveStray
  unfold tst at hQ
  rw [n_xor]
  simp (disch := omega) only [forall_eq, forall_eq', n_inT, n_cl, n_lt, n_le, n_eq, n_eq0, n_lt0, n_ge0, n_gt0, n_le0, n_em, n_me, n_add, n_mul, n_00, n_s01, n_1z, n_0z, Nat.one_ne_zero, eq_self, ne_eq, true_and, and_true, true_implies, false_implies, implies_true, not_true_eq_false, not_false_eq_true, false_and, and_false, or_false, false_or, or_true, true_or]
  rw [hs.1 _ a4]
  simp (disch := omega) only [forall_eq, forall_eq', n_inT, n_cl, n_lt, n_le, n_eq, n_eq0, n_lt0, n_ge0, n_gt0, n_le0, n_em, n_me, n_add, n_mul, n_00, n_s01, n_1z, n_0z, Nat.one_ne_zero, eq_self, ne_eq, true_and, and_true, true_implies, false_implies, implies_true, not_true_eq_false, not_false_eq_true, false_and, and_false, or_false, false_or, or_true, true_or]
  refine ⟨fun _ => ⟨fun c => ?_, fun c => ?_⟩, fun q => absurd t1 (by omega)⟩
  · rw [if_neg (by simpa using c)] at hQ
    obtain ⟨b, eb⟩ := tw_ex hP l1 t1 (by omega) c
    rw [eb, Option.getD_some] at hQ
    refine s_X4_deepestPair hs hP.1 (by omega) a4 eb ?_
    obtain ⟨b1, b2, -⟩ := twF_some 1024 b eb
    obtain ⟨f1, f2, f3, f4⟩ := tw_far hP hc b1 b2
    obtain ⟨-, i2, i3⟩ := tw_iff.mp b2
    have hM := hP.1.1 (2 * b) (by omega)
    have hH := hP.1.1 (2 * b + 1) (by omega)
    simp (disch := omega) only [forall_eq, forall_eq', n_inT, n_cl, n_lt, n_le, n_eq, n_eq0, n_lt0, n_ge0, n_gt0, n_le0, n_em, n_me, n_add, n_mul, n_00, n_s01, n_1z, n_0z, Nat.one_ne_zero, eq_self, ne_eq, true_and, and_true, true_implies, false_implies, implies_true, not_true_eq_false, not_false_eq_true, false_and, and_false, or_false, false_or, or_true, true_or]
    rw [hs.1 (2 * b) (by omega), hs.1 (2 * b + 1) (by omega), n_sub (by omega), n_sub (by omega)]
    have hpM : p ≠ o (2 * b) - 1 := fun q => f3 (by omega)
    obtain ⟨g1, g2, g3⟩ := giv_ok hP (z := 2 * b + 1) (n := o (2 * b) - 1) (by omega) i3 (by omega)
    have hs1 : giv o (2 * b + 1) (o (2 * b) - 1) (lz o p) = p + 1 := (g2 p hpM _).mpr ⟨l2, by omega⟩
    refine s_X4_give hs hP.1 (by omega) (by omega) (by omega) (hP.set (by omega) i3 (by omega)) (fun τ hS hR => ?_)
    exact s_X4_give hR g1.1 l1 (by omega) (by omega) (g1.set l1 (by omega) (by omega)) (fun τ' hS' hR' => hQ τ' (hS.tr hS') hR')
  · rw [if_pos c] at hQ
    rw [n_sub (by omega)]
    exact s_X4_give hs hP.1 l1 (by omega) (by omega) (hP.set l1 (by omega) (by omega)) (fun τ hS hR => hQ τ hS hR)
theorem s_X4_tidyUp {σ : St} {s : Nat} {o : Nat → Nat} {Q : St → Prop} (hs : SpRep σ s o) (hb : OB o) (hP : scat o ≠ none → PT o) (hhi : ∀ y, 2048 ≤ y → o y = 0)
    (hQ : ∀ τ, Spf s σ τ → SpRep τ s (tdy 1024 o) → Q τ) : wp_X4_tidyUp σ s Q := by
  cases e0 : scat o with
  | none =>
    refine LP2_nat 0 (fun i τ x => τ = σ ∧ x = nI 0) ?_ 0 _ _ (Nat.zero_le _) ⟨rfl, rfl⟩
    rintro ih i τ _ hi ⟨rfl, rfl⟩ hih
    rw [tdy_stop e0] at hQ
    unfold wp_X4_tidyUp_2
    simp (disch := omega) only [forall_eq, forall_eq', n_inT, n_cl, n_lt, n_le, n_eq, n_eq0, n_lt0, n_ge0, n_gt0, n_le0, n_em, n_me, n_add, n_mul, n_00, n_s01, n_1z, n_0z, Nat.one_ne_zero, eq_self, ne_eq, true_and, and_true, true_implies, false_implies, implies_true, not_true_eq_false, not_false_eq_true, false_and, and_false, or_false, false_or, or_true, true_or]
    refine ⟨fun q => absurd q (by decide), fun _ => s_X4_leastScattered hs ?_⟩
    rw [e0]
    exact ⟨fun q => absurd rfl q, fun _ => hQ τ (Spf.rf s τ) hs⟩
  | some p0 =>
    have hP0 := hP (by rw [e0]; exact fun q => by cases q)
    refine LP2_nat 1024 (fun i τ x => x = nI i ∧ Spf s σ τ ∧ ∃ o', SpRep τ s o' ∧ PT o' ∧ (∀ y, 2048 ≤ y → o' y = 0) ∧ nz o' + i ≤ 1024 ∧ tdy 1024 o = tdy (1024 - i) o') ?_ 0 _ _ (Nat.zero_le _) ⟨rfl, Spf.rf s σ, o, hs, hP0, hhi, by have := nz_le hb hP0.2.2; omega, by rw [Nat.sub_zero]⟩
    rintro ih i τ _ hi ⟨rfl, hS, o', hR, hP', hh', hn, he⟩ hih
    unfold wp_X4_tidyUp_2
    simp (disch := omega) only [forall_eq, forall_eq', n_inT, n_cl, n_lt, n_le, n_eq, n_eq0, n_lt0, n_ge0, n_gt0, n_le0, n_em, n_me, n_add, n_mul, n_00, n_s01, n_1z, n_0z, Nat.one_ne_zero, eq_self, ne_eq, true_and, and_true, true_implies, false_implies, implies_true, not_true_eq_false, not_false_eq_true, false_and, and_false, or_false, false_or, or_true, true_or]
    refine ⟨fun q => ?_, fun q => s_X4_leastScattered hR ?_⟩
    · refine hQ τ hS ?_
      rw [he, show 1024 - i = 0 by omega]
      exact hR
    · obtain ⟨d, hd⟩ : ∃ d, 1024 - i = d + 1 := ⟨1023 - i, by omega⟩
      cases e : scat o' with
      | none =>
        refine ⟨fun t => absurd rfl t, fun _ => hQ τ hS ?_⟩
        rw [he, tdy_stop e]; exact hR
      | some p =>
        obtain ⟨s1, s2, -⟩ := scF_some 10 p e
        have hc := cnt_31 o' p
        obtain ⟨t1, t2, t3, t4⟩ := tst_ok hP' hh' s1 s2
        refine ⟨fun _ => ⟨n_in s1 (by decide), ?_⟩, fun t => absurd t (by rw [nO, n_em (by omega)]; exact not_false)⟩
        rw [nO, n_cl (by omega), hR.2.2 p s1, n_sub (by omega)]
        refine s_X4_zoneOfN hR hP'.1 s1 (by omega) ?_
        refine s_X4_moveStray hR hP' s1 s2 (fun τ' hS' hR' => ?_)
        refine hih _ _ (by omega) ⟨rfl, hS.tr hS', tst o' p, hR', t1, t2, by omega, ?_⟩
        rw [he, hd]
        conv => lhs; unfold tdy
        rw [e, show 1024 - (i + 1) = d by omega]
