/-! THE CLASS: one reality -/
def SpRep (σ : St) (s : Nat) (o : Nat → Nat) : Prop := rowIs (σ (s + 1)) 2048 o ∧ rowIs (σ (s + 2)) 10 (vol o) ∧ rowIs (σ (s + 3)) 10 (cnt o)
theorem n_and31 (a : Nat) : nI a &&& nI 31 = nI (a % 32) := by
  rw [n_and]
  congr 1
  exact Nat.and_two_pow_sub_one_eq_mod a 5
theorem n_dec31 {a : Nat} (h : a < 32) : (nI a - nI 1) &&& nI 31 = nI ((a + 31) % 32) := by
  rcases Nat.eq_zero_or_pos a with q | q
  · subst q; decide
  · rw [n_sub (by omega), n_and31]
    congr 1
    omega
/-- two owned zones have no cell in common -/
theorem apart {o : Nat → Nat} (hc : chain o) {k z : Nat} (hk : k < 2048) (hz : z < 2048) (hk1 : 1 ≤ k) (hz1 : 1 ≤ z) (h1 : o k ≠ 0) (h2 : o z ≠ 0) (hne : k ≠ z) : ∀ x y, x < 32 → y < 32 → inb k x y → ¬ inb z x y := by
  intro x y hx hy a b
  rw [inb_iff hk hk1 hx hy] at a
  rw [inb_iff hz hz1 hx hy] at b
  obtain ⟨c1, c2⟩ := cn_lt hx hy
  have e1 := zat_eq hc c1 c2 (i := 10 - zd k) (by omega) (by rw [a]; exact h1)
  have e2 := zat_eq hc c1 c2 (i := 10 - zd z) (by omega) (by rw [b]; exact h2)
  rw [a] at e1
  rw [b] at e2
  omega
theorem inb_lt {k x y : Nat} (hk : k < 2048) (hk1 : 1 ≤ k) (h : inb k x y) : x < 32 ∧ y < 32 := by
  obtain ⟨-, -, b1, b2, -, -⟩ := geo_box k hk hk1
  unfold inb at h
  omega
/-- whose a cell is -/
def oat (o : Nat → Nat) (x y : Nat) : Nat := o (zat o (cn x y))
theorem rim_bes {o : Nat → Nat} (hb : OB o) (hcv : covers1 o) (hc : chain o) {k n : Nat} (hk : k < 2048) (h0 : o k ≠ 0) (hn : n + 1 ≠ o k) : (∃ x y, x < 32 ∧ y < 32 ∧ rim k x y ∧ oat o x y = n + 1) ↔ besB o k n = true := by
  have hk1 : 1 ≤ k := by
    rcases Nat.eq_zero_or_pos k with q | q
    · rw [q] at h0; exact absurd hb.2 h0
    · exact q
  have pos : ∀ z, o z ≠ 0 → 1 ≤ z := fun z hz => by
    rcases Nat.eq_zero_or_pos z with q | q
    · rw [q] at hz; exact absurd hb.2 hz
    · exact q
  rw [besB_iff]
  constructor
  · rintro ⟨x, y, hx, hy, hr, ho⟩
    obtain ⟨c1, c2⟩ := cn_lt hx hy
    obtain ⟨i, hi, ez, hzo⟩ := zat_some hcv c1 c2
    unfold oat at ho
    rw [ez] at ho
    have hzl : cn x y / 2 ^ i < 2048 := shr_lt c2
    have hcn := cn_in x y (10 - i) hx hy (by omega)
    rw [show 10 - (10 - i) = i by omega] at hcn
    refine ⟨cn x y / 2 ^ i, hzl, ho, fun q => hn (by rw [← q]; exact ho.symm), ?_⟩
    rw [adj_rim hk hk1 hzl hcn.2.2.1]
    · exact ⟨x, y, hx, hy, hr, hcn.1⟩
    · intro x' y' a b
      obtain ⟨l1, l2⟩ := inb_lt hk hk1 a
      exact apart hc hk hzl hk1 hcn.2.2.1 h0 hzo (fun q => hn (by rw [q]; exact ho.symm)) x' y' l1 l2 a b
  · rintro ⟨z, hz, ho, hne, ha⟩
    have hz1 := pos z (by omega)
    rw [adj_rim hk hk1 hz hz1 (fun x' y' a b => by
      obtain ⟨l1, l2⟩ := inb_lt hk hk1 a
      exact apart hc hk hz hk1 hz1 h0 (by omega) (fun q => hne q.symm) x' y' l1 l2 a b)] at ha
    obtain ⟨x, y, hx, hy, hr, hin⟩ := ha
    obtain ⟨c1, c2⟩ := cn_lt hx hy
    rw [inb_iff hz hz1 hx hy] at hin
    have e := zat_eq hc c1 c2 (i := 10 - zd z) (by omega) (by rw [hin]; omega)
    exact ⟨x, y, hx, hy, hr, by unfold oat; rw [e, hin]; exact ho⟩
theorem s_X4_besideOf {σ : St} {a k : Nat} {o : Nat → Nat} {Q : Int32 → Prop} (ho : rowIs (σ (a + 1)) 2048 o) (hb : OB o) (hcv : covers1 o) (hc : chain o) (hk : k < 2048) (h0 : o k ≠ 0)
    (hQ : ∀ m, m < 1024 → (∀ n, n + 1 ≠ o k → (m.testBit n = true ↔ besB o k n = true)) → Q (nI m)) : wp_X4_besideOf σ a (nI k) Q := by
  have hk1 : 1 ≤ k := by
    rcases Nat.eq_zero_or_pos k with q | q
    · rw [q] at h0; exact absurd hb.2 h0
    · exact q
  obtain ⟨g1, g2, g3, g4, -, -⟩ := geo_box k hk hk1
  have oa : ∀ x y, x < 32 → y < 32 → oat o x y ≤ 10 ∧ zat o (cn x y) < 2048 := fun x y hx hy => ⟨hb.1 _ (zatF_lt (cn_lt hx hy).2 10), zatF_lt (cn_lt hx hy).2 10⟩
  have tbo : ∀ m v j : Nat, (m ||| 2 ^ v).testBit j = true ↔ m.testBit j = true ∨ v = j := fun m v j => by rw [Nat.testBit_or, Bool.or_eq_true, Nat.testBit_two_pow, decide_eq_true_eq]
  have orl : ∀ m v : Nat, m < 2048 → v ≤ 10 → m ||| 2 ^ v < 2048 := fun m v hm hv => Nat.or_lt_two_pow (n := 11) hm (Nat.pow_lt_pow_right (by decide) (by omega))
  unfold wp_X4_besideOf
  refine s_X4_depthOf hk1 hk (s_X4_wide hk1 hk (s_X4_high hk1 hk (s_X4_leastX hk1 hk (s_X4_leastY hk1 hk ?_))))
  refine LP2_nat (zw k) (fun i x y => y = nI i ∧ ∃ m, x = nI m ∧ m < 2048 ∧ ∀ j, m.testBit j = true ↔ ∃ i', i' < i ∧ (oat o (zx k + i') ((zy k + 31) % 32) = j ∨ oat o (zx k + i') ((zy k + zh k) % 32) = j)) ?_ 0 _ _ (Nat.zero_le _) ⟨rfl, 0, rfl, by decide, fun j => by simp⟩
  rintro ih i _ _ hi ⟨rfl, m, rfl, hm, hbits⟩ hih
  unfold wp_X4_besideOf_36
  simp (disch := omega) only [forall_eq, forall_eq', n_inT, n_cl, n_lt, n_le, n_eq, n_eq0, n_lt0, n_ge0, n_gt0, n_le0, n_em, n_me, n_add, n_mul, n_00, n_s01, n_1z, n_0z, Nat.one_ne_zero, eq_self, ne_eq, true_and, and_true, true_implies, false_implies, implies_true, not_true_eq_false, not_false_eq_true, false_and, and_false, or_false, false_or, or_true, true_or]
  refine ⟨fun hge => ?_, fun hlt => ?_⟩
  · have ei : i = zw k := by omega
    subst ei
    refine LP2_nat (zh k) (fun i x y => y = nI i ∧ ∃ m, x = nI m ∧ m < 2048 ∧ ∀ j, m.testBit j = true ↔ (∃ i', i' < zw k ∧ (oat o (zx k + i') ((zy k + 31) % 32) = j ∨ oat o (zx k + i') ((zy k + zh k) % 32) = j)) ∨ ∃ i', i' < i ∧ (oat o ((zx k + 31) % 32) (zy k + i') = j ∨ oat o ((zx k + zw k) % 32) (zy k + i') = j)) ?_ 0 _ _ (Nat.zero_le _) ⟨rfl, m, rfl, hm, fun j => by rw [hbits j]; simp⟩
    rintro ih' i _ _ hi' ⟨rfl, m', rfl, hm', hbits'⟩ hih'
    unfold wp_X4_besideOf_102
    simp (disch := omega) only [forall_eq, forall_eq', n_inT, n_cl, n_lt, n_le, n_eq, n_eq0, n_lt0, n_ge0, n_gt0, n_le0, n_em, n_me, n_add, n_mul, n_00, n_s01, n_1z, n_0z, Nat.one_ne_zero, eq_self, ne_eq, true_and, and_true, true_implies, false_implies, implies_true, not_true_eq_false, not_false_eq_true, false_and, and_false, or_false, false_or, or_true, true_or]
    refine ⟨fun hge' => ?_, fun hlt' => ?_⟩
    · have ei : i = zh k := by omega
      subst ei
      rw [n_shr (by omega) (by decide)]
      refine hQ _ (by omega) (fun n hn => ?_)
      rw [← rim_bes hb hcv hc hk h0 hn, Nat.pow_one, Nat.testBit_div_two, hbits']
      constructor
      · rintro (⟨i, hi, h | h⟩ | ⟨i, hi, h | h⟩)
        · exact ⟨_, _, by omega, by omega, Or.inl ⟨i, hi, rfl, Or.inl rfl⟩, h⟩
        · exact ⟨_, _, by omega, by omega, Or.inl ⟨i, hi, rfl, Or.inr rfl⟩, h⟩
        · exact ⟨_, _, by omega, by omega, Or.inr ⟨i, hi, rfl, Or.inl rfl⟩, h⟩
        · exact ⟨_, _, by omega, by omega, Or.inr ⟨i, hi, rfl, Or.inr rfl⟩, h⟩
      · rintro ⟨x, y, hx, hy, ⟨i, hi, rfl, rfl | rfl⟩ | ⟨i, hi, rfl, rfl | rfl⟩, h⟩
        · exact Or.inl ⟨i, hi, Or.inl h⟩
        · exact Or.inl ⟨i, hi, Or.inr h⟩
        · exact Or.inr ⟨i, hi, Or.inl h⟩
        · exact Or.inr ⟨i, hi, Or.inr h⟩
    · obtain ⟨p1, p2⟩ := oa ((zx k + 31) % 32) (zy k + i) (by omega) (by omega)
      obtain ⟨q1, q2⟩ := oa ((zx k + zw k) % 32) (zy k + i) (by omega) (by omega)
      unfold oat at p1 q1
      refine s_X4_zoneAt ho hb (n_dec31 (by omega)) (by omega) (by rw [n_and31, Nat.mod_eq_of_lt (by omega)]) (by omega) ?_
      simp (disch := omega) only [forall_eq, forall_eq', n_inT, n_cl, n_lt, n_le, n_eq, n_eq0, n_lt0, n_ge0, n_gt0, n_le0, n_em, n_me, n_add, n_mul, n_00, n_s01, n_1z, n_0z, Nat.one_ne_zero, eq_self, ne_eq, true_and, and_true, true_implies, false_implies, implies_true, not_true_eq_false, not_false_eq_true, false_and, and_false, or_false, false_or, or_true, true_or]
      rw [ho _ p2, n_one (by omega), n_or]
      refine s_X4_zoneAt ho hb (n_and31 _) (by omega) (by rw [n_and31, Nat.mod_eq_of_lt (by omega)]) (by omega) ?_
      simp (disch := omega) only [forall_eq, forall_eq', n_inT, n_cl, n_lt, n_le, n_eq, n_eq0, n_lt0, n_ge0, n_gt0, n_le0, n_em, n_me, n_add, n_mul, n_00, n_s01, n_1z, n_0z, Nat.one_ne_zero, eq_self, ne_eq, true_and, and_true, true_implies, false_implies, implies_true, not_true_eq_false, not_false_eq_true, false_and, and_false, or_false, false_or, or_true, true_or]
      rw [ho _ q2, n_one (by omega), n_or]
      refine hih' _ _ (by omega) ⟨rfl, _, rfl, orl _ _ (orl _ _ hm' p1) q1, fun j => ?_⟩
      rw [tbo, tbo, hbits']
      unfold oat
      constructor
      · rintro (((h | ⟨i', h1, h2⟩) | h) | h)
        · exact Or.inl h
        · exact Or.inr ⟨i', by omega, h2⟩
        · exact Or.inr ⟨i, by omega, Or.inl h⟩
        · exact Or.inr ⟨i, by omega, Or.inr h⟩
      · rintro (h | ⟨i', h1, h2⟩)
        · exact Or.inl (Or.inl (Or.inl h))
        · rcases Nat.lt_or_ge i' i with q | q
          · exact Or.inl (Or.inl (Or.inr ⟨i', q, h2⟩))
          · have e : i' = i := by omega
            subst e
            rcases h2 with h2 | h2
            · exact Or.inl (Or.inr h2)
            · exact Or.inr h2
  · obtain ⟨p1, p2⟩ := oa (zx k + i) ((zy k + 31) % 32) (by omega) (by omega)
    obtain ⟨q1, q2⟩ := oa (zx k + i) ((zy k + zh k) % 32) (by omega) (by omega)
    unfold oat at p1 q1
    refine s_X4_zoneAt ho hb (by rw [n_and31, Nat.mod_eq_of_lt (by omega)]) (by omega) (n_dec31 (by omega)) (by omega) ?_
    simp (disch := omega) only [forall_eq, forall_eq', n_inT, n_cl, n_lt, n_le, n_eq, n_eq0, n_lt0, n_ge0, n_gt0, n_le0, n_em, n_me, n_add, n_mul, n_00, n_s01, n_1z, n_0z, Nat.one_ne_zero, eq_self, ne_eq, true_and, and_true, true_implies, false_implies, implies_true, not_true_eq_false, not_false_eq_true, false_and, and_false, or_false, false_or, or_true, true_or]
    rw [ho _ p2, n_one (by omega), n_or]
    refine s_X4_zoneAt ho hb (by rw [n_and31, Nat.mod_eq_of_lt (by omega)]) (by omega) (n_and31 _) (by omega) ?_
    simp (disch := omega) only [forall_eq, forall_eq', n_inT, n_cl, n_lt, n_le, n_eq, n_eq0, n_lt0, n_ge0, n_gt0, n_le0, n_em, n_me, n_add, n_mul, n_00, n_s01, n_1z, n_0z, Nat.one_ne_zero, eq_self, ne_eq, true_and, and_true, true_implies, false_implies, implies_true, not_true_eq_false, not_false_eq_true, false_and, and_false, or_false, false_or, or_true, true_or]
    rw [ho _ q2, n_one (by omega), n_or]
    refine hih _ _ (by omega) ⟨rfl, _, rfl, orl _ _ (orl _ _ hm p1) q1, fun j => ?_⟩
    rw [tbo, tbo, hbits]
    unfold oat
    constructor
    · rintro ((⟨i', h1, h2⟩ | h) | h)
      · exact ⟨i', by omega, h2⟩
      · exact ⟨i, by omega, Or.inl h⟩
      · exact ⟨i, by omega, Or.inr h⟩
    · rintro ⟨i', h1, h2⟩
      rcases Nat.lt_or_ge i' i with q | q
      · exact Or.inl (Or.inl ⟨i', q, h2⟩)
      · have e : i' = i := by omega
        subst e
        rcases h2 with h2 | h2
        · exact Or.inl (Or.inr h2)
        · exact Or.inr h2
theorem s_X4_leastOf {σ : St} {a m : Nat} {v : Nat → Nat} {Q : Int32 → Prop} (hv : rowIs (σ (a + 2)) 10 v) (hvl : ∀ n, n < 10 → v n < 2 ^ 31) (hm : m < 1024) (hQ : Q (nO (lst v m 10))) : wp_X4_leastOf σ a (nI m) Q := by
  refine LP2_nat 10 (fun j x y => y = nI j ∧ x = nO (lst v m j)) ?_ 0 _ _ (Nat.zero_le _) ⟨rfl, rfl⟩
  rintro ih j _ _ hj ⟨rfl, rfl⟩ hih
  unfold wp_X4_leastOf_4
  simp (disch := omega) only [forall_eq, forall_eq', n_inT, n_cl, n_lt, n_le, n_eq, n_eq0, n_lt0, n_ge0, n_gt0, n_le0, n_em, n_me, n_add, n_mul, n_00, n_s01, n_1z, n_0z, Nat.one_ne_zero, eq_self, ne_eq, true_and, and_true, true_implies, false_implies, implies_true, not_true_eq_false, not_false_eq_true, false_and, and_false, or_false, false_or, or_true, true_or]
  refine ⟨fun h => by have e : j = 10 := (by omega); subst e; exact hQ, fun h => ?_⟩
  rw [n_bit0 (by omega) (by omega)]
  refine ⟨fun hbit => hih _ _ (by omega) ⟨rfl, ?_⟩, fun hbit => ?_⟩
  · cases e : lst v m j with
    | none => simp [lst, e, hbit]
    | some b => simp [lst, e, hbit]
  · have hbt : m.testBit j = true := by simpa using hbit
    cases e : lst v m j with
    | none =>
      refine ⟨fun _ => hih _ _ (by omega) ⟨rfl, ?_⟩, fun q => absurd rfl q⟩
      simp [lst, e, hbt, nO]
    | some b =>
      obtain ⟨hbl, -⟩ := lst_lt j b e
      refine ⟨fun q => absurd q (by rw [nO, n_em (by omega)]; exact not_false), fun _ => ?_⟩
      have v1 := hvl b (by omega)
      have v2 := hvl j (by omega)
      rw [nO, n_cl (by omega), hv b (by omega), hv j (by omega)]
      simp (disch := omega) only [forall_eq, forall_eq', n_inT, n_cl, n_lt, n_le, n_eq, n_eq0, n_lt0, n_ge0, n_gt0, n_le0, n_em, n_me, n_add, n_mul, n_00, n_s01, n_1z, n_0z, Nat.one_ne_zero, eq_self, ne_eq, true_and, and_true, true_implies, false_implies, implies_true, not_true_eq_false, not_false_eq_true, false_and, and_false, or_false, false_or, or_true, true_or]
      refine ⟨fun q => hih _ _ (by omega) ⟨rfl, ?_⟩, fun q => hih _ _ (by omega) ⟨rfl, ?_⟩⟩
      · simp [lst, e, nO, show ¬ v j < v b by omega]
      · simp [lst, e, nO, hbt, show v j < v b by omega]
theorem lst_zero {v : Nat → Nat} {m : Nat} (hm : m < 1024) : lst v m 10 = none ↔ m = 0 := by
  constructor
  · intro h
    apply nat_ext10 hm (by decide)
    intro n hn
    rw [lst_none 10 h n hn, Nat.zero_testBit]
  · rintro rfl
    cases e : lst v 0 10 with
    | none => rfl
    | some b => have := lst_lt 10 b e; simp at this
theorem vol_31 (o : Nat → Nat) (n : Nat) : vol o n < 2 ^ 31 := by have := vol_lt o n; omega
theorem cnt_31 (o : Nat → Nat) (n : Nat) : cnt o n < 2 ^ 31 := by have := cnt_lt o n; omega
/-- HEIR, in the class: the set of those that are up has not who has the zone -/
theorem s_X4_heirOf {σ : St} {a k ups : Nat} {o : Nat → Nat} {Q : Int32 → Prop} (hs : SpRep σ a o) (hb : OB o) (hcv : covers1 o) (hc : chain o) (hk : k < 2048) (h0 : o k ≠ 0) (hu : ups < 1024) (hno : ups.testBit (o k - 1) = false) (hQ : Q (nO (heir o k ups))) : wp_X4_heirOf σ a (nI k) (nI ups) Q := by
  have hxl := xor1_lt hk
  have hob := hb.1 _ hxl
  have h25 : ∀ x, x = (match lst (vol o) (nbz o k &&& ups) 10 with | some b => some b | none => lst (vol o) ups 10) → Q (nO x) → wp_X4_heirOf_25 σ a (nI k) (nI ups) Q := by
    intro x hx hq
    unfold wp_X4_heirOf_25
    refine s_X4_besideOf hs.1 hb hcv hc hk h0 (fun m hm hbits => ?_)
    have hml : m &&& ups < 1024 := Nat.lt_of_le_of_lt Nat.and_le_left hm
    have e : m &&& ups = nbz o k &&& ups := by
      apply nat_ext10 hml (Nat.lt_of_le_of_lt Nat.and_le_left (nbz_lt o k))
      intro n hn
      rw [Nat.testBit_and, Nat.testBit_and]
      by_cases hnk : n + 1 = o k
      · rw [show n = o k - 1 by omega, hno, Bool.and_false, Bool.and_false]
      · rw [Bool.eq_iff_iff.mpr ((hbits n hnk).trans (tb_nbz hb).symm)]
    rw [n_and, e]
    rw [e] at hml
    simp (disch := omega) only [forall_eq, forall_eq', n_inT, n_cl, n_lt, n_le, n_eq, n_eq0, n_lt0, n_ge0, n_gt0, n_le0, n_em, n_me, n_add, n_mul, n_00, n_s01, n_1z, n_0z, Nat.one_ne_zero, eq_self, ne_eq, true_and, and_true, true_implies, false_implies, implies_true, not_true_eq_false, not_false_eq_true, false_and, and_false, or_false, false_or, or_true, true_or]
    unfold wp_X4_heirOf_46
    refine ⟨fun hz => s_X4_leastOf hs.2.1 (fun n _ => vol_31 o n) hu ?_, fun hz => s_X4_leastOf hs.2.1 (fun n _ => vol_31 o n) hml ?_⟩
    · rw [(lst_zero hml).mpr hz] at hx
      rw [hx] at hq; exact hq
    · cases e2 : lst (vol o) (nbz o k &&& ups) 10 with
      | none => exact absurd ((lst_zero hml).mp e2) hz
      | some b => rw [e2] at hx; rw [hx] at hq; exact hq
  unfold wp_X4_heirOf
  rw [n_xor]
  simp (disch := omega) only [forall_eq, forall_eq', n_inT, n_cl, n_lt, n_le, n_eq, n_eq0, n_lt0, n_ge0, n_gt0, n_le0, n_em, n_me, n_add, n_mul, n_00, n_s01, n_1z, n_0z, Nat.one_ne_zero, eq_self, ne_eq, true_and, and_true, true_implies, false_implies, implies_true, not_true_eq_false, not_false_eq_true, false_and, and_false, or_false, false_or, or_true, true_or]
  rw [hs.1 _ hxl]
  unfold heir at hQ
  rcases Nat.eq_zero_or_pos (o (k ^^^ 1)) with q | q
  · rw [if_neg (fun h => h.1 q)] at hQ
    rw [q, n_s01]
    exact ⟨fun _ => h25 _ rfl hQ, fun h => absurd n_ltm1 h⟩
  · rw [n_sub (by omega), n_bit0 (by omega) (by omega)]
    simp (disch := omega) only [forall_eq, forall_eq', n_inT, n_cl, n_lt, n_le, n_eq, n_eq0, n_lt0, n_ge0, n_gt0, n_le0, n_em, n_me, n_add, n_mul, n_00, n_s01, n_1z, n_0z, Nat.one_ne_zero, eq_self, ne_eq, true_and, and_true, true_implies, false_implies, implies_true, not_true_eq_false, not_false_eq_true, false_and, and_false, or_false, false_or, or_true, true_or]
    refine ⟨fun hbit => h25 _ rfl ?_, fun hbit => ?_⟩
    · rw [if_neg (fun h => by rw [hbit] at h; exact absurd h.2 (by decide))] at hQ
      exact hQ
    · rw [if_pos ⟨by omega, by simpa using hbit⟩] at hQ
      exact hQ
