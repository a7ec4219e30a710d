/-! the reference over its list -/
theorem n_mod32 {a : Nat} (h : a < 2 ^ 31) : nI a - nI a / nI 32 * nI 32 = nI (a % 32) := n_rem h (by decide) (by decide)
theorem s_X9_touch {σ : St} {a w b v : Nat} {Q : Int32 → Prop} (ha : a < 100) (hw : w < 100) (hb : b < 100) (hv : v < 100) (h1 : touchN a w b v = true → Q (nI 1)) (h0 : touchN a w b v = false → Q (nI 0)) : wp_X9_touch σ (nI a) (nI w) (nI b) (nI v) Q := by
  unfold wp_X9_touch
  rw [n_add, n_add, n_mod32 (by omega), n_mod32 (by omega)]
  simp (disch := omega) only [forall_eq, forall_eq', n_inT, n_cl, n_lt, n_le, n_eq, n_eq0, n_lt0, n_ge0, n_gt0, n_le0, n_em, n_me, n_add, n_mul, n_00, n_s01, n_1z, n_0z, Nat.one_ne_zero, eq_self, ne_eq, true_and, and_true, true_implies, false_implies, implies_true, not_true_eq_false, not_false_eq_true, false_and, and_false, or_false, false_or, or_true, true_or]
  unfold touchN at h1 h0
  refine ⟨fun h => h1 (by simp [h]), fun h => ⟨fun h2 => h0 (by simp [h, h2]), fun h2 => h1 (by simp [h2])⟩⟩
theorem s_X9_meet {σ : St} {a w b v : Nat} {Q : Int32 → Prop} (ha : a < 100) (hw : w < 100) (hb : b < 100) (hv : v < 100) (h1 : meetN a w b v = true → Q (nI 1)) (h0 : meetN a w b v = false → Q (nI 0)) : wp_X9_meet σ (nI a) (nI w) (nI b) (nI v) Q := by
  unfold wp_X9_meet
  simp (disch := omega) only [forall_eq, forall_eq', n_inT, n_cl, n_lt, n_le, n_eq, n_eq0, n_lt0, n_ge0, n_gt0, n_le0, n_em, n_me, n_add, n_mul, n_00, n_s01, n_1z, n_0z, Nat.one_ne_zero, eq_self, ne_eq, true_and, and_true, true_implies, false_implies, implies_true, not_true_eq_false, not_false_eq_true, false_and, and_false, or_false, false_or, or_true, true_or]
  unfold meetN at h1 h0
  refine ⟨fun h => h0 (by simp; omega), fun h => ⟨fun h2 => h0 (by simp; omega), fun h2 => h1 (by simp; omega)⟩⟩
theorem za_ok {o : Nat → Nat} (hb : OB o) {i : Nat} (hi : i < (zl o 2048).length) : (zl o 2048).getD i 0 < 2048 ∧ 1 ≤ (zl o 2048).getD i 0 ∧ o ((zl o 2048).getD i 0) ≠ 0 ∧ o ((zl o 2048).getD i 0) ≤ 10 := by
  obtain ⟨h1, h2⟩ := zl_get hi
  refine ⟨h1, ?_, h2, hb.1 _ h1⟩
  rcases Nat.eq_zero_or_pos ((zl o 2048).getD i 0) with q | q
  · exact absurd (by rw [show (zl o 2048).getD i 0 = 0 from q]; exact hb.2) h2
  · exact q
theorem s_X9_areBeside {τ : St} {o : Nat → Nat} {i j : Nat} {Q : Int32 → Prop} (hb : OB o) (hl : LR τ o) (hi : i < (zl o 2048).length) (hj : j < (zl o 2048).length)
    (h1 : i ≠ j ∧ adj ((zl o 2048).getD i 0) ((zl o 2048).getD j 0) = true → Q (nI 1)) (h0 : ¬ (i ≠ j ∧ adj ((zl o 2048).getD i 0) ((zl o 2048).getD j 0) = true) → Q (nI 0)) : wp_X9_areBeside τ (nI i) (nI j) Q := by
  have hll := zl_len o hb.2 2048
  obtain ⟨-, -, xi, yi, wi, hhi⟩ := hl.2 i hi
  obtain ⟨-, -, xj, yj, wj, hhj⟩ := hl.2 j hj
  obtain ⟨k1, k2, -, -⟩ := za_ok hb hi
  obtain ⟨l1, l2, -, -⟩ := za_ok hb hj
  obtain ⟨b1, b2, b3, b4, -, -⟩ := geo_box _ k1 k2
  obtain ⟨c1, c2, c3, c4, -, -⟩ := geo_box _ l1 l2
  have vi : vp_in (nI i) 2048 := n_in (by omega) (by decide)
  have vj : vp_in (nI j) 2048 := n_in (by omega) (by decide)
  have ci : Int32.toNatClampNeg (nI i) = i := n_cl (by omega)
  have cj : Int32.toNatClampNeg (nI j) = j := n_cl (by omega)
  unfold adj at h1 h0
  -- the last stretch
  have last : ∀ t u : Bool, (t = true → u = true → False) ∨ True → ((i ≠ j ∧ (t || u) = true → Q (nI 1)) → (¬ (i ≠ j ∧ (t || u) = true) → Q (nI 0)) → ∀ t0 : Int32, t0 = nI (if u then 1 else 0) → wp_X9_areBeside_131 τ (nI i) (nI j) (nI (if t then 1 else 0)) t0 Q) := by
    rintro t u - p1 p0 _ rfl
    unfold wp_X9_areBeside_131
    simp (disch := omega) only [forall_eq, forall_eq', n_inT, n_cl, n_lt, n_le, n_eq, n_eq0, n_lt0, n_ge0, n_gt0, n_le0, n_em, n_me, n_add, n_mul, n_00, n_s01, n_1z, n_0z, Nat.one_ne_zero, eq_self, ne_eq, true_and, and_true, true_implies, false_implies, implies_true, not_true_eq_false, not_false_eq_true, false_and, and_false, or_false, false_or, or_true, true_or]
    refine ⟨fun e => p0 (fun q => q.1 e), fun e => ?_⟩
    cases t <;> cases u <;> simp [e, n_0z, n_1z] at p1 p0 ⊢ <;> assumption
  have second : ∀ t : Bool, (i ≠ j ∧ (t || (touchN (zy ((zl o 2048).getD i 0)) (zh ((zl o 2048).getD i 0)) (zy ((zl o 2048).getD j 0)) (zh ((zl o 2048).getD j 0)) && meetN (zx ((zl o 2048).getD i 0)) (zw ((zl o 2048).getD i 0)) (zx ((zl o 2048).getD j 0)) (zw ((zl o 2048).getD j 0)))) = true → Q (nI 1)) →
      (¬ (i ≠ j ∧ (t || (touchN (zy ((zl o 2048).getD i 0)) (zh ((zl o 2048).getD i 0)) (zy ((zl o 2048).getD j 0)) (zh ((zl o 2048).getD j 0)) && meetN (zx ((zl o 2048).getD i 0)) (zw ((zl o 2048).getD i 0)) (zx ((zl o 2048).getD j 0)) (zw ((zl o 2048).getD j 0)))) = true) → Q (nI 0)) → ∀ t0 : Int32, t0 = nI (if t then 1 else 0) → wp_X9_areBeside_65 τ (nI i) (nI j) t0 Q := by
    rintro t p1 p0 _ rfl
    unfold wp_X9_areBeside_65
    rw [ci, cj, xi, yi, wi, hhi, xj, yj, wj, hhj]
    refine ⟨vi, vi, vj, vj, s_X9_touch (by omega) (by omega) (by omega) (by omega) (fun ht => ?_) (fun ht => ?_)⟩
    · refine ⟨fun h => absurd h (by decide), fun _ => ⟨vi, vi, vj, vj, s_X9_meet (by omega) (by omega) (by omega) (by omega) (fun hm => ?_) (fun hm => ?_)⟩⟩
      · refine ⟨fun h => absurd h (by decide), fun _ => ?_⟩
        rw [ht, hm] at p1 p0
        exact last t true (Or.inr trivial) p1 p0 _ rfl
      · refine ⟨fun _ => ?_, fun h => absurd rfl h⟩
        rw [ht, hm] at p1 p0
        exact last t false (Or.inr trivial) p1 p0 _ rfl
    · refine ⟨fun _ => ?_, fun h => absurd rfl h⟩
      rw [ht, Bool.false_and] at p1 p0
      exact last t false (Or.inr trivial) p1 p0 _ rfl
  unfold wp_X9_areBeside
  rw [ci, cj, xi, yi, wi, hhi, xj, yj, wj, hhj]
  refine ⟨vi, vi, vj, vj, s_X9_touch (by omega) (by omega) (by omega) (by omega) (fun ht => ?_) (fun ht => ?_)⟩
  · refine ⟨fun h => absurd h (by decide), fun _ => ⟨vi, vi, vj, vj, s_X9_meet (by omega) (by omega) (by omega) (by omega) (fun hm => ?_) (fun hm => ?_)⟩⟩
    · refine ⟨fun h => absurd h (by decide), fun _ => ?_⟩
      rw [ht, hm] at h1 h0
      exact second true h1 h0 _ rfl
    · refine ⟨fun _ => ?_, fun h => absurd rfl h⟩
      rw [ht, hm] at h1 h0
      exact second false h1 h0 _ rfl
  · refine ⟨fun _ => ?_, fun h => absurd rfl h⟩
    rw [ht, Bool.false_and] at h1 h0
    exact second false h1 h0 _ rfl
/-- a node is beside a zone -/
def besB (o : Nat → Nat) (k n : Nat) : Bool := (List.range 2048).any (fun z => decide (o z = n + 1) && decide (z ≠ k) && adj k z)
theorem besB_iff {o : Nat → Nat} {k n : Nat} : besB o k n = true ↔ ∃ z, z < 2048 ∧ o z = n + 1 ∧ z ≠ k ∧ adj k z = true := by
  unfold besB
  rw [List.any_eq_true]
  constructor
  · rintro ⟨z, hz, h⟩
    simp only [Bool.and_eq_true, decide_eq_true_eq] at h
    exact ⟨z, List.mem_range.mp hz, h.1.1, h.1.2, h.2⟩
  · rintro ⟨z, hz, h1, h2, h3⟩
    exact ⟨z, List.mem_range.mpr hz, by simp [h1, h2, h3]⟩
def nbz (o : Nat → Nat) (k : Nat) : Nat := bm (fun n => besB o k n) 10
theorem nbz_lt (o : Nat → Nat) (k : Nat) : nbz o k < 1024 := bm_1024 _
theorem nat_ext10 {a b : Nat} (ha : a < 1024) (hb : b < 1024) (h : ∀ n, n < 10 → a.testBit n = b.testBit n) : a = b := by
  apply Nat.eq_of_testBit_eq
  intro n
  rcases Nat.lt_or_ge n 10 with q | q
  · exact h n q
  · have : (1024 : Nat) ≤ 2 ^ n := Nat.pow_le_pow_right (n := 2) (by decide) q
    rw [Nat.testBit_lt_two_pow (by omega), Nat.testBit_lt_two_pow (by omega)]
theorem or_lt10 {a b : Nat} (ha : a < 1024) (hb : b < 1024) : a ||| b < 1024 := Nat.or_lt_two_pow (n := 10) ha hb
theorem pow_lt10 {n : Nat} (h : n < 10) : 2 ^ n < 1024 := show 2 ^ n < 2 ^ 10 from Nat.pow_lt_pow_right (by decide) h
theorem s_X9_besideZone {τ : St} {o : Nat → Nat} {i : Nat} {Q : Int32 → Prop} (hb : OB o) (hl : LR τ o) (hi : i < (zl o 2048).length) (hQ : Q (nI (nbz o ((zl o 2048).getD i 0)))) : wp_X9_besideZone τ (nI i) Q := by
  have hll := zl_len o hb.2 2048
  refine LP2_nat (zl o 2048).length (fun j x y => y = nI j ∧ ∃ m, x = nI m ∧ m < 1024 ∧ ∀ n, m.testBit n = true ↔ ∃ b, b < j ∧ b ≠ i ∧ adj ((zl o 2048).getD i 0) ((zl o 2048).getD b 0) = true ∧ o ((zl o 2048).getD b 0) = n + 1) ?_ 0 _ _ (Nat.zero_le _) ⟨rfl, 0, rfl, by decide, fun n => by simp⟩
  rintro ih j _ _ hj ⟨rfl, m, rfl, hm, hbits⟩ hih
  unfold wp_X9_besideZone_4
  rw [hl.1]
  simp (disch := omega) only [forall_eq, forall_eq', n_inT, n_cl, n_lt, n_le, n_eq, n_eq0, n_lt0, n_ge0, n_gt0, n_le0, n_em, n_me, n_add, n_mul, n_00, n_s01, n_1z, n_0z, Nat.one_ne_zero, eq_self, ne_eq, true_and, and_true, true_implies, false_implies, implies_true, not_true_eq_false, not_false_eq_true, false_and, and_false, or_false, false_or, or_true, true_or]
  refine ⟨fun h => ?_, fun h => ?_⟩
  · have e : m = nbz o ((zl o 2048).getD i 0) := by
      apply nat_ext10 hm (nbz_lt _ _)
      intro n hn
      rw [Bool.eq_iff_iff, hbits n, nbz, tb_bm]
      simp only [hn, decide_true, Bool.true_and]
      rw [besB_iff]
      constructor
      · rintro ⟨b, hbl, hne, ha, hon⟩
        exact ⟨(zl o 2048).getD b 0, (za_ok hb (by omega)).1, hon, fun q => hne (zl_inj (by omega) hi q), ha⟩
      · rintro ⟨z, hz, hon, hne, ha⟩
        obtain ⟨b, hbl, hbz⟩ := zl_idx (o := o) (n := 2048) hz (by omega)
        exact ⟨b, by omega, fun q => hne (by rw [← hbz, q]), by rw [show (zl o 2048).getD b 0 = z from hbz]; exact ha, by rw [show (zl o 2048).getD b 0 = z from hbz]; exact hon⟩
    rw [e]; exact hQ
  · obtain ⟨z1, z2, z3, z4⟩ := za_ok hb (show j < (zl o 2048).length by omega)
    refine s_X9_areBeside hb hl hi (by omega) (fun hab => ?_) (fun hab => ?_)
    · obtain ⟨-, hw, -⟩ := hl.2 j (by omega)
      simp (disch := omega) only [forall_eq, forall_eq', n_inT, n_cl, n_lt, n_le, n_eq, n_eq0, n_lt0, n_ge0, n_gt0, n_le0, n_em, n_me, n_add, n_mul, n_00, n_s01, n_1z, n_0z, Nat.one_ne_zero, eq_self, ne_eq, true_and, and_true, true_implies, false_implies, implies_true, not_true_eq_false, not_false_eq_true, false_and, and_false, or_false, false_or, or_true, true_or]
      rw [hw, n_one (by omega), n_or]
      refine hih _ _ (by omega) ⟨rfl, _, rfl, or_lt10 hm (pow_lt10 (by omega)), fun n => ?_⟩
      rw [Nat.testBit_or, Bool.or_eq_true, hbits n, Nat.testBit_two_pow, decide_eq_true_eq]
      constructor
      · rintro (⟨b, h1, h2⟩ | h1)
        · exact ⟨b, by omega, h2⟩
        · exact ⟨j, by omega, fun q => hab.1 q.symm, hab.2, by omega⟩
      · rintro ⟨b, h1, h2, h3, h4⟩
        rcases Nat.lt_or_ge b j with q | q
        · exact Or.inl ⟨b, q, h2, h3, h4⟩
        · have e : b = j := by omega
          subst e
          exact Or.inr (by omega)
    · simp (disch := omega) only [n_or, Nat.or_zero, forall_eq, forall_eq', n_inT, n_cl, n_lt, n_le, n_eq, n_eq0, n_lt0, n_ge0, n_gt0, n_le0, n_em, n_me, n_add, n_mul, n_00, n_s01, n_1z, n_0z, Nat.one_ne_zero, eq_self, ne_eq, true_and, and_true, true_implies, false_implies, implies_true, not_true_eq_false, not_false_eq_true, false_and, and_false, or_false, false_or, or_true, true_or]
      refine hih _ _ (by omega) ⟨rfl, _, rfl, hm, fun n => ?_⟩
      rw [hbits n]
      constructor
      · rintro ⟨b, h1, h2⟩; exact ⟨b, by omega, h2⟩
      · rintro ⟨b, h1, h2, h3, h4⟩
        rcases Nat.lt_or_ge b j with q | q
        · exact ⟨b, q, h2, h3, h4⟩
        · have e : b = j := by omega
          subst e
          exact absurd ⟨fun q => h2 q.symm, h3⟩ hab
/-- the nodes beside a node -/
def nbn (o : Nat → Nat) (n : Nat) : Nat := bm (fun j => decide (j ≠ n) && (List.range 2048).any (fun z => decide (o z = n + 1) && besB o z j)) 10
theorem nbn_lt (o : Nat → Nat) (n : Nat) : nbn o n < 1024 := bm_1024 _
theorem tb_nbn {o : Nat → Nat} {n j : Nat} : (nbn o n).testBit j = true ↔ j < 10 ∧ j ≠ n ∧ ∃ z, z < 2048 ∧ o z = n + 1 ∧ besB o z j = true := by
  unfold nbn
  rw [tb_bm]
  simp only [Bool.and_eq_true, decide_eq_true_eq, List.any_eq_true, List.mem_range]
theorem tb_nbz {o : Nat → Nat} {k n : Nat} (hb : OB o) : (nbz o k).testBit n = true ↔ besB o k n = true := by
  unfold nbz
  rw [tb_bm]
  simp only [Bool.and_eq_true, decide_eq_true_eq]
  constructor
  · exact fun h => h.2
  · intro h
    obtain ⟨z, hz, ho, -⟩ := besB_iff.mp h
    have := hb.1 z hz
    exact ⟨by omega, h⟩
theorem s_X9_besideNode {τ : St} {o : Nat → Nat} {n : Nat} {Q : Int32 → Prop} (hb : OB o) (hl : LR τ o) (hn : n < 10) (hQ : Q (nI (nbn o n))) : wp_X9_besideNode τ (nI n) Q := by
  have hll := zl_len o hb.2 2048
  refine LP2_nat (zl o 2048).length (fun j x y => y = nI j ∧ ∃ m, x = nI m ∧ m < 1024 ∧ ∀ k, m.testBit k = true ↔ ∃ b, b < j ∧ o ((zl o 2048).getD b 0) = n + 1 ∧ besB o ((zl o 2048).getD b 0) k = true) ?_ 0 _ _ (Nat.zero_le _) ⟨rfl, 0, rfl, by decide, fun n => by simp⟩
  rintro ih j _ _ hj ⟨rfl, m, rfl, hm, hbits⟩ hih
  unfold wp_X9_besideNode_4
  rw [hl.1]
  simp (disch := omega) only [forall_eq, forall_eq', n_inT, n_cl, n_lt, n_le, n_eq, n_eq0, n_lt0, n_ge0, n_gt0, n_le0, n_em, n_me, n_add, n_mul, n_00, n_s01, n_1z, n_0z, Nat.one_ne_zero, eq_self, ne_eq, true_and, and_true, true_implies, false_implies, implies_true, not_true_eq_false, not_false_eq_true, false_and, and_false, or_false, false_or, or_true, true_or]
  refine ⟨fun h => ?_, fun h => ?_⟩
  · unfold wp_X9_besideNode_40
    rw [n_clr (by omega)]
    have e : clr m n = nbn o n := by
      apply nat_ext10 (Nat.lt_of_le_of_lt (clr_le m n) hm) (nbn_lt _ _)
      intro k hk
      rw [Bool.eq_iff_iff, tb_clr (by omega), tb_nbn, Bool.and_eq_true, hbits k]
      simp only [Bool.not_eq_true', decide_eq_false_iff_not]
      constructor
      · rintro ⟨⟨b, h1, h2, h3⟩, h4⟩
        exact ⟨hk, fun q => h4 q.symm, (zl o 2048).getD b 0, (za_ok hb (by omega)).1, h2, h3⟩
      · rintro ⟨-, h4, z, hz, h2, h3⟩
        obtain ⟨b, hbl, hbz⟩ := zl_idx (o := o) (n := 2048) hz (by omega)
        exact ⟨⟨b, by omega, by rw [show (zl o 2048).getD b 0 = z from hbz]; exact h2, by rw [show (zl o 2048).getD b 0 = z from hbz]; exact h3⟩, fun q => h4 q.symm⟩
    rw [e]; exact hQ
  · obtain ⟨z1, z2, z3, z4⟩ := za_ok hb (show j < (zl o 2048).length by omega)
    obtain ⟨-, hw, -⟩ := hl.2 j (by omega)
    rw [hw, n_eq (by omega) (by omega)]
    refine ⟨fun hne => ?_, fun he => s_X9_besideZone hb hl (by omega) ?_⟩
    · simp (disch := omega) only [n_or, Nat.or_zero, forall_eq, forall_eq', n_inT, n_cl, n_lt, n_le, n_eq, n_eq0, n_lt0, n_ge0, n_gt0, n_le0, n_em, n_me, n_add, n_mul, n_00, n_s01, n_1z, n_0z, Nat.one_ne_zero, eq_self, ne_eq, true_and, and_true, true_implies, false_implies, implies_true, not_true_eq_false, not_false_eq_true, false_and, and_false, or_false, false_or, or_true, true_or]
      refine hih _ _ (by omega) ⟨rfl, _, rfl, hm, fun k => ?_⟩
      rw [hbits k]
      constructor
      · rintro ⟨b, h1, h2⟩; exact ⟨b, by omega, h2⟩
      · rintro ⟨b, h1, h2, h3⟩
        rcases Nat.lt_or_ge b j with q | q
        · exact ⟨b, q, h2, h3⟩
        · have e : b = j := by omega
          subst e
          exact absurd (by omega) hne
    · simp (disch := omega) only [n_or, forall_eq, forall_eq', n_inT, n_cl, n_lt, n_le, n_eq, n_eq0, n_lt0, n_ge0, n_gt0, n_le0, n_em, n_me, n_add, n_mul, n_00, n_s01, n_1z, n_0z, Nat.one_ne_zero, eq_self, ne_eq, true_and, and_true, true_implies, false_implies, implies_true, not_true_eq_false, not_false_eq_true, false_and, and_false, or_false, false_or, or_true, true_or]
      refine hih _ _ (by omega) ⟨rfl, _, rfl, or_lt10 hm (nbz_lt o _), fun k => ?_⟩
      rw [Nat.testBit_or, Bool.or_eq_true, hbits k, tb_nbz hb]
      constructor
      · rintro (⟨b, h1, h2⟩ | h1)
        · exact ⟨b, by omega, h2⟩
        · exact ⟨j, by omega, by omega, h1⟩
      · rintro ⟨b, h1, h2, h3⟩
        rcases Nat.lt_or_ge b j with q | q
        · exact Or.inl ⟨b, q, h2, h3⟩
        · have e : b = j := by omega
          subst e
          exact Or.inr h3
theorem s_X9_volumeOf {τ : St} {o : Nat → Nat} {n : Nat} {Q : Int32 → Prop} (hb : OB o) (hl : LR τ o) (hn : n < 10) (hQ : Q (nI (vol o n))) : wp_X9_volumeOf τ (nI n) Q := by
  have hll := zl_len o hb.2 2048
  refine LP2_nat (zl o 2048).length (fun j x y => y = nI j ∧ x = nI (sumN (fun a => if o ((zl o 2048).getD a 0) = n + 1 then zsz ((zl o 2048).getD a 0) else 0) j)) ?_ 0 _ _ (Nat.zero_le _) ⟨rfl, rfl⟩
  rintro ih j _ _ hj ⟨rfl, rfl⟩ hih
  unfold wp_X9_volumeOf_4
  rw [hl.1]
  simp (disch := omega) only [forall_eq, forall_eq', n_inT, n_cl, n_lt, n_le, n_eq, n_eq0, n_lt0, n_ge0, n_gt0, n_le0, n_em, n_me, n_add, n_mul, n_00, n_s01, n_1z, n_0z, Nat.one_ne_zero, eq_self, ne_eq, true_and, and_true, true_implies, false_implies, implies_true, not_true_eq_false, not_false_eq_true, false_and, and_false, or_false, false_or, or_true, true_or]
  refine ⟨fun h => ?_, fun h => ?_⟩
  · have e := sum_zl o (fun z => if o z = n + 1 then zsz z else 0) 2048
    rw [show j = (zl o 2048).length by omega, e]
    have e2 : sumN (fun z => if o z ≠ 0 then (if o z = n + 1 then zsz z else 0) else 0) 2048 = vol o n := sumN_congr 2048 (fun z _ => by
      by_cases h0 : o z = 0
      · simp [h0]
      · simp [h0])
    rw [e2]; exact hQ
  · obtain ⟨z1, z2, z3, z4⟩ := za_ok hb (show j < (zl o 2048).length by omega)
    obtain ⟨-, hw, -, -, h5, h6⟩ := hl.2 j (by omega)
    obtain ⟨-, -, -, -, -, hsz⟩ := geo_box _ z1 z2
    rw [hw, h5, h6, n_mul, n_eq (by omega) (by omega)]
    simp (disch := omega) only [forall_eq, forall_eq', n_inT, n_cl, n_lt, n_le, n_eq, n_eq0, n_lt0, n_ge0, n_gt0, n_le0, n_em, n_me, n_add, n_mul, n_00, n_s01, n_1z, n_0z, Nat.one_ne_zero, eq_self, ne_eq, true_and, and_true, true_implies, false_implies, implies_true, not_true_eq_false, not_false_eq_true, false_and, and_false, or_false, false_or, or_true, true_or]
    refine ⟨fun hne => hih _ _ (by omega) ⟨rfl, ?_⟩, fun he => hih _ _ (by omega) ⟨rfl, ?_⟩⟩
    · show _ = nI (_ + (if o ((zl o 2048).getD j 0) = n + 1 then zsz ((zl o 2048).getD j 0) else 0))
      rw [if_neg (by omega)]
    · show _ = nI (_ + (if o ((zl o 2048).getD j 0) = n + 1 then zsz ((zl o 2048).getD j 0) else 0))
      rw [if_pos (by omega), zsz, ← hsz]
theorem s_X9_zonesOf {τ : St} {o : Nat → Nat} {n : Nat} {Q : Int32 → Prop} (hb : OB o) (hl : LR τ o) (hn : n < 10) (hQ : Q (nI (cnt o n))) : wp_X9_zonesOf τ (nI n) Q := by
  have hll := zl_len o hb.2 2048
  refine LP2_nat (zl o 2048).length (fun j x y => y = nI j ∧ x = nI (sumN (fun a => if o ((zl o 2048).getD a 0) = n + 1 then 1 else 0) j)) ?_ 0 _ _ (Nat.zero_le _) ⟨rfl, rfl⟩
  rintro ih j _ _ hj ⟨rfl, rfl⟩ hih
  unfold wp_X9_zonesOf_4
  rw [hl.1]
  simp (disch := omega) only [forall_eq, forall_eq', n_inT, n_cl, n_lt, n_le, n_eq, n_eq0, n_lt0, n_ge0, n_gt0, n_le0, n_em, n_me, n_add, n_mul, n_00, n_s01, n_1z, n_0z, Nat.one_ne_zero, eq_self, ne_eq, true_and, and_true, true_implies, false_implies, implies_true, not_true_eq_false, not_false_eq_true, false_and, and_false, or_false, false_or, or_true, true_or]
  refine ⟨fun h => ?_, fun h => ?_⟩
  · have e := sum_zl o (fun z => if o z = n + 1 then 1 else 0) 2048
    rw [show j = (zl o 2048).length by omega, e]
    have e2 : sumN (fun z => if o z ≠ 0 then (if o z = n + 1 then 1 else 0) else 0) 2048 = cnt o n := sumN_congr 2048 (fun z _ => by
      by_cases h0 : o z = 0
      · simp [h0]
      · simp [h0])
    rw [e2]; exact hQ
  · obtain ⟨z1, z2, z3, z4⟩ := za_ok hb (show j < (zl o 2048).length by omega)
    obtain ⟨-, hw, -⟩ := hl.2 j (by omega)
    rw [hw, n_eq (by omega) (by omega)]
    refine ⟨fun hne => hih _ _ (by omega) ⟨rfl, ?_⟩, fun he => hih _ _ (by omega) ⟨rfl, ?_⟩⟩
    · show _ = nI (_ + (if o ((zl o 2048).getD j 0) = n + 1 then 1 else 0))
      rw [if_neg (by omega)]
    · show _ = nI (_ + (if o ((zl o 2048).getD j 0) = n + 1 then 1 else 0))
      rw [if_pos (by omega)]
theorem s_X9_placeInList {τ : St} {o : Nat → Nat} {z : Nat} {Q : Int32 → Prop} (hb : OB o) (hl : LR τ o) (hz : z < 2048) (ho : o z ≠ 0) (hQ : ∀ i, i < (zl o 2048).length → (zl o 2048).getD i 0 = z → Q (nI i)) : wp_X9_placeInList τ (nI z) Q := by
  have hll := zl_len o hb.2 2048
  refine LP1_nat (zl o 2048).length (fun j y => y = nI j ∧ ∀ b, b < j → (zl o 2048).getD b 0 ≠ z) ?_ 0 _ (Nat.zero_le _) ⟨rfl, fun b h => absurd h (by omega)⟩
  rintro ih j _ hj ⟨rfl, hn⟩ hih
  unfold wp_X9_placeInList_2
  rw [hl.1]
  simp (disch := omega) only [forall_eq, forall_eq', n_inT, n_cl, n_lt, n_le, n_eq, n_eq0, n_lt0, n_ge0, n_gt0, n_le0, n_em, n_me, n_add, n_mul, n_00, n_s01, n_1z, n_0z, Nat.one_ne_zero, eq_self, ne_eq, true_and, and_true, true_implies, false_implies, implies_true, not_true_eq_false, not_false_eq_true, false_and, and_false, or_false, false_or, or_true, true_or]
  refine ⟨fun h => ?_, fun h => ?_⟩
  · obtain ⟨i, hi, e⟩ := zl_idx (o := o) (n := 2048) hz ho
    exact absurd e (hn i (by omega))
  · obtain ⟨z1, z2, z3, z4⟩ := za_ok hb (show j < (zl o 2048).length by omega)
    obtain ⟨hw, -⟩ := hl.2 j (by omega)
    rw [hw, n_eq (by omega) (by omega)]
    refine ⟨fun hne => hih _ (by omega) ⟨rfl, fun b hbj => ?_⟩, fun he => hQ j (by omega) he⟩
    rcases Nat.lt_or_ge b j with q | q
    · exact hn b q
    · rw [show b = j by omega]; exact hne
/-- of a set that of the least value, of several the least -/
def lst (v : Nat → Nat) (m : Nat) : Nat → Option Nat
  | 0 => none
  | n + 1 => match lst v m n with
    | none => if m.testBit n then some n else none
    | some b => if m.testBit n = true ∧ v n < v b then some n else some b
def nO : Option Nat → Int32
  | none => -1
  | some n => nI n
theorem lst_lt {v : Nat → Nat} {m : Nat} : ∀ n b, lst v m n = some b → b < n ∧ m.testBit b = true
  | 0, b, h => by simp [lst] at h
  | n + 1, b, h => by
    unfold lst at h
    cases e : lst v m n with
    | none =>
      rw [e] at h
      dsimp only at h
      split at h
      · cases h; exact ⟨by omega, by assumption⟩
      · cases h
    | some c =>
      rw [e] at h
      dsimp only at h
      have := lst_lt n c e
      split at h
      · cases h; exact ⟨by omega, by rename_i q; exact q.1⟩
      · cases h; exact ⟨by omega, this.2⟩
theorem lst_none {v : Nat → Nat} {m : Nat} : ∀ n, lst v m n = none → ∀ b, b < n → m.testBit b = false
  | 0, _, b, hb => absurd hb (by omega)
  | n + 1, h, b, hb => by
    unfold lst at h
    cases e : lst v m n with
    | none =>
      rw [e] at h
      dsimp only at h
      split at h
      · cases h
      · rcases Nat.lt_or_ge b n with q | q
        · exact lst_none n e b q
        · rw [show b = n by omega]
          rename_i q2
          simpa using q2
    | some c =>
      rw [e] at h
      dsimp only at h
      split at h <;> cases h
theorem s_X9_leastOf {τ : St} {o : Nat → Nat} {m : Nat} {Q : Int32 → Prop} (hb : OB o) (hl : LR τ o) (hm : m < 1024) (hQ : Q (nO (lst (vol o) m 10))) : wp_X9_leastOf τ (nI m) Q := by
  refine LP2_nat 10 (fun j x y => y = nI j ∧ x = nO (lst (vol o) m j)) ?_ 0 _ _ (Nat.zero_le _) ⟨rfl, rfl⟩
  rintro ih j _ _ hj ⟨rfl, rfl⟩ hih
  unfold wp_X9_leastOf_4
  simp (disch := omega) only [forall_eq, forall_eq', n_inT, n_cl, n_lt, n_le, n_eq, n_eq0, n_lt0, n_ge0, n_gt0, n_le0, n_em, n_me, n_add, n_mul, n_00, n_s01, n_1z, n_0z, Nat.one_ne_zero, eq_self, ne_eq, true_and, and_true, true_implies, false_implies, implies_true, not_true_eq_false, not_false_eq_true, false_and, and_false, or_false, false_or, or_true, true_or]
  refine ⟨fun h => by have e : j = 10 := (by omega); subst e; exact hQ, fun h => ?_⟩
  rw [n_bit0 (by omega) (by omega)]
  refine ⟨fun hbit => ?_, fun hbit => hih _ _ (by omega) ⟨rfl, ?_⟩⟩
  · have hbt : m.testBit j = true := by simpa using hbit
    cases e : lst (vol o) m j with
    | none =>
      refine ⟨fun _ => hih _ _ (by omega) ⟨rfl, ?_⟩, fun q => absurd rfl q⟩
      simp [lst, e, hbt, nO]
    | some b =>
      obtain ⟨hbl, -⟩ := lst_lt j b e
      refine ⟨fun q => absurd q (by rw [nO, n_em (by omega)]; exact not_false), fun _ => ?_⟩
      refine s_X9_volumeOf hb hl (by omega) (s_X9_volumeOf hb hl (by omega) ?_)
      have v1 := vol_lt o b
      have v2 := vol_lt o j
      simp (disch := omega) only [forall_eq, forall_eq', n_inT, n_cl, n_lt, n_le, n_eq, n_eq0, n_lt0, n_ge0, n_gt0, n_le0, n_em, n_me, n_add, n_mul, n_00, n_s01, n_1z, n_0z, Nat.one_ne_zero, eq_self, ne_eq, true_and, and_true, true_implies, false_implies, implies_true, not_true_eq_false, not_false_eq_true, false_and, and_false, or_false, false_or, or_true, true_or]
      refine ⟨fun q => hih _ _ (by omega) ⟨rfl, ?_⟩, fun q => hih _ _ (by omega) ⟨rfl, ?_⟩⟩
      · simp [lst, e, nO, show ¬ vol o j < vol o b by omega]
      · simp [lst, e, nO, hbt, show vol o j < vol o b by omega]
  · cases e : lst (vol o) m j with
    | none => simp [lst, e, hbit]
    | some b => simp [lst, e, hbit]
/-- to whom a zone would be handed, of those in a set -/
def heir (o : Nat → Nat) (z ups : Nat) : Option Nat :=
  if o (z ^^^ 1) ≠ 0 ∧ ups.testBit (o (z ^^^ 1) - 1) = true then some (o (z ^^^ 1) - 1) else
  match lst (vol o) (nbz o z &&& ups) 10 with
  | some b => some b
  | none => lst (vol o) ups 10
theorem xor1_lt {z : Nat} (h : z < 2048) : z ^^^ 1 < 2048 := Nat.xor_lt_two_pow (n := 11) h (by decide)
theorem bits_lt (st : Nat → Nat) (s : Nat) : bits st s < 1024 := bm_1024 _
theorem s_X9_heirOf {σ : St} {r z n : Nat} {Q : Int32 → St → Prop} (hf : RowOK (σ 245)) (hob : OB (gow (σ 245) r)) (hr : r < gR (σ 245)) (hz : z < 2048) (ho : gow (σ 245) r z ≠ 0) (hn : n < 10)
    (hQ : ∀ τ, Lf σ τ → Q (nO (heir (gow (σ 245) r) z (clr (bits (gst (σ 245)) 1) n))) τ) : wp_X9_heirOf σ (nI r) (nI z) (nI n) Q := by
  unfold wp_X9_heirOf
  refine s_X9_laysList hf hob hr (fun τ hL hl => ?_)
  have hown : OB (gow (σ 245) r) ∧ True := ⟨hob, trivial⟩
  have hRk : RowOK (τ 245) := by rw [hL.m]; exact hf
  refine s_X9_bitsOf hRk (by decide) ?_
  rw [hL.m, n_clr (by omega)]
  generalize hups : clr (bits (gst (σ 245)) 1) n = ups
  have hul : ups < 1024 := by rw [← hups]; exact Nat.lt_of_le_of_lt (clr_le _ _) (bits_lt _ _)
  have hQ := hQ τ hL
  rw [hups] at hQ
  generalize hoo : gow (σ 245) r = o at *
  simp (disch := omega) only [forall_eq, forall_eq', n_inT, n_cl, n_lt, n_le, n_eq, n_eq0, n_lt0, n_ge0, n_gt0, n_le0, n_em, n_me, n_add, n_mul, n_00, n_s01, n_1z, n_0z, Nat.one_ne_zero, eq_self, ne_eq, true_and, and_true, true_implies, false_implies, implies_true, not_true_eq_false, not_false_eq_true, false_and, and_false, or_false, false_or, or_true, true_or]
  have h57 : ∀ x, x = (match lst (vol o) (nbz o z &&& ups) 10 with | some b => some b | none => lst (vol o) ups 10) → Q (nO x) τ → wp_X9_heirOf_57 τ (nI z) (nI ups) Q := by
    intro x hx hq
    unfold wp_X9_heirOf_57
    refine s_X9_placeInList hown.1 hl hz ho (fun i hi ei => s_X9_besideZone hown.1 hl hi ?_)
    rw [ei, n_and]
    refine s_X9_leastOf hown.1 hl (Nat.lt_of_le_of_lt Nat.and_le_left (nbz_lt o z)) ?_
    cases e : lst (vol o) (nbz o z &&& ups) 10 with
    | none =>
      rw [e] at hx
      refine ⟨fun _ => s_X9_leastOf hown.1 hl hul (by rw [hx] at hq; exact hq), fun q => absurd rfl q⟩
    | some b =>
      rw [e] at hx
      obtain ⟨hbl, -⟩ := lst_lt 10 b e
      refine ⟨fun q => absurd q (by rw [nO, n_em (by omega)]; exact not_false), fun _ => by rw [hx] at hq; exact hq⟩
  refine ⟨fun h1 => ?_, fun h1 => ?_⟩
  · have hz1 : z = 1 := by
      rcases Nat.eq_zero_or_pos z with q | q
      · rw [q] at ho; exact absurd hown.1.2 ho
      · omega
    unfold wp_X9_heirOf_35
    refine ⟨fun _ => h57 _ rfl ?_, fun q => absurd rfl q⟩
    subst hz1
    unfold heir at hQ
    rw [if_neg (by rw [show (1 : Nat) ^^^ 1 = 0 by decide]; exact fun q => q.1 hown.1.2)] at hQ
    exact hQ
  · rw [n_xor]
    have hxl := xor1_lt hz
    have hob := hown.1.1 _ hxl
    refine s_X9_ownerOf hRk (by rw [hL.m]; exact hr) hxl ?_
    rw [hL.m, hoo]
    unfold wp_X9_heirOf_35
    rw [nm_iff (by omega)]
    refine ⟨fun h0 => h57 _ rfl ?_, fun h0 => ?_⟩
    · unfold heir at hQ
      rw [if_neg (fun q => q.1 h0)] at hQ
      exact hQ
    · rw [n_sub (by omega), n_bit1 (by omega) (by omega)]
      refine ⟨fun hb => h57 _ rfl ?_, fun hb => ?_⟩
      · unfold heir at hQ
        rw [if_neg (fun q => hb q.2)] at hQ
        exact hQ
      · unfold heir at hQ
        rw [if_pos ⟨h0, hb⟩] at hQ
        exact hQ
