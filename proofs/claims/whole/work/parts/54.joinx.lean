/-! both sides let a node in -/
theorem zd10 {z : Nat} (h1 : 1 ≤ z) (hz : z < 2048) : zd z = 10 ↔ 1024 ≤ z := by
  have h := zd_pow h1
  have hle := zd_le hz h1
  constructor
  · intro e; rw [e] at h; omega
  · intro e
    rcases Nat.lt_or_ge (zd z) 10 with q | q
    · have : 2 ^ (zd z + 1) ≤ 2 ^ 10 := Nat.pow_le_pow_right (by decide) (by omega)
      omega
    · omega
theorem cnt31 (st : Nat → Nat) (s : Nat) : cntS st s 10 ≤ 10 := cntS_le st s 10
theorem s_X1_letIn {σ : St} {a n px py x y : Nat} {f : Nat → Int32} {Q : Int32 → St → Prop} (h : NetRep σ a f) (hf : Good f) (hx : x < 1000) (hy : y < 1000) (hpx : px < 100) (hpy : py < 100) (hn : n < 10) (hn0 : gst f n = 0) (hl : ∀ m, m < n → gst f m ≠ 0) (hd : ¬ jdeep f x y (gR f))
    (hQ : ∀ τ, Nf a σ τ → NetRep τ a (jrow f n px py x y) → Q (nI n) τ) : wp_X1_letIn σ a (nI px) (nI py) (nI x) (nI y) Q := by
  obtain ⟨e1, e2, e3, e4, e5, e6, e7, e8, e9, e10, e11⟩ := jrow_acc hf (px := px) (py := py) hn hn0 hpx hpy hd
  have hR := hf.1.2.2.2.2.1.2.2
  unfold wp_X1_letIn
  refine s_X1_leastNodeAway h hf.1 hn hn0 hl ?_
  refine ⟨fun _ => ?_, fun q => absurd q (by rw [n_em (by omega)]; exact not_false)⟩
  simp (disch := omega) only [forall_eq, forall_eq', n_inT, n_cl, n_lt, n_le, n_eq, n_eq0, n_lt0, n_ge0, n_gt0, n_le0, n_em, n_me, n_add, n_mul, n_00, n_s01, n_1z, n_0z, Nat.one_ne_zero, eq_self, ne_eq, true_and, and_true, true_implies, false_implies, implies_true, not_true_eq_false, not_false_eq_true, false_and, and_false, or_false, false_or, or_true, true_or]
  have k1 : ∀ b, a + 9 ≤ b → su (su (su σ (a + 2) n (nI 1)) (a + 3) n (nI px)) (a + 4) n (nI py) b = σ b := fun b hb => by rw [su_ne (by omega), su_ne (by omega), su_ne (by omega)]
  have k2 : Nf a σ (su (su (su σ (a + 2) n (nI 1)) (a + 3) n (nI px)) (a + 4) n (nI py)) := (((Nf.rf a σ).su (by omega) (by omega)).su (by omega) (by omega)).su (by omega) (by omega)
  have k3 : ∀ b, b ≠ a + 2 → b ≠ a + 3 → b ≠ a + 4 → su (su (su σ (a + 2) n (nI 1)) (a + 3) n (nI px)) (a + 4) n (nI py) b = σ b := fun b b1 b2 b3 => by rw [su_ne b3, su_ne b2, su_ne b1]
  have k4 : ∀ j, su (su (su σ (a + 2) n (nI 1)) (a + 3) n (nI px)) (a + 4) n (nI py) (a + 2) j = if j = n then nI 1 else σ (a + 2) j := fun j => by rw [su_ne (by omega), su_ne (by omega), su_at]
  have k5 : ∀ j, su (su (su σ (a + 2) n (nI 1)) (a + 3) n (nI px)) (a + 4) n (nI py) (a + 3) j = if j = n then nI px else σ (a + 3) j := fun j => by rw [su_ne (by omega), su_at, su_ne (by omega)]
  have k6 : ∀ j, su (su (su σ (a + 2) n (nI 1)) (a + 3) n (nI px)) (a + 4) n (nI py) (a + 4) j = if j = n then nI py else σ (a + 4) j := fun j => by rw [su_at, su_ne (by omega), su_ne (by omega)]
  generalize su (su (su σ (a + 2) n (nI 1)) (a + 3) n (nI px)) (a + 4) n (nI py) = σ1 at *
  refine LP2_nat (gR f) (fun i τ z => z = nI i ∧ Nf a σ τ ∧ (∀ b, b < a + 9 → τ b = σ1 b) ∧ (∀ r, r < i → SpRep τ (a + 1 + 8 + 4 * r) (jg f n x y r)) ∧ ∀ r, i ≤ r → r < gR f → SpRep τ (a + 1 + 8 + 4 * r) (gow f r)) ?_ 0 _ _ (Nat.zero_le _) ⟨rfl, k2, fun _ _ => rfl, fun r hr => absurd hr (by omega), fun r _ hr => (h.sp r hr).congr (k1 _ (by omega)) (k1 _ (by omega)) (k1 _ (by omega))⟩
  rintro ih i τ _ hi ⟨rfl, hN, hlo, hS1, hS2⟩ hih
  unfold wp_X1_letIn_41
  rw [show τ a 9 = nI (gR f) by rw [hlo a (by omega), k3 a (by omega) (by omega) (by omega)]; exact h.re]
  simp (disch := omega) only [forall_eq, forall_eq', n_inT, n_cl, n_lt, n_le, n_eq, n_eq0, n_lt0, n_ge0, n_gt0, n_le0, n_em, n_me, n_add, n_mul, n_00, n_s01, n_1z, n_0z, Nat.one_ne_zero, eq_self, ne_eq, true_and, and_true, true_implies, false_implies, implies_true, not_true_eq_false, not_false_eq_true, false_and, and_false, or_false, false_or, or_true, true_or]
  refine ⟨fun q => ?_, fun q => ⟨n_in (by omega) (by decide), ?_⟩⟩
  · have ei : i = gR f := by omega
    subst ei
    have hj : ∀ j, j ≠ a + 2 → j ≠ a + 3 → j ≠ a + 4 → j < a + 9 → τ j = σ j := fun j b1 b2 b3 b4 => by rw [hlo j b4, k3 j b1 b2 b3]
    refine hQ τ hN ⟨?_, ?_, fun m hm => ?_, fun m hm hne => ?_, fun m hm hne => ?_, ?_, ?_, ?_, ?_, fun r hr => ?_⟩
    · rw [e5, hj a (by omega) (by omega) (by omega) (by omega)]; exact h.re
    · rw [e4, hj a (by omega) (by omega) (by omega) (by omega)]; exact h.ma
    · rw [e1, hlo _ (by omega), k4]
      by_cases c : m = n
      · rw [if_pos c, c, setO_same]
      · rw [if_neg c, setO_ne c]; exact h.st m hm
    · rw [e2, hlo _ (by omega), k5]
      rw [e1] at hne
      by_cases c : m = n
      · rw [if_pos c, c, setO_same]
      · rw [setO_ne c] at hne
        rw [if_neg c, setO_ne c]; exact h.px m hm hne
    · rw [e3, hlo _ (by omega), k6]
      rw [e1] at hne
      by_cases c : m = n
      · rw [if_pos c, c, setO_same]
      · rw [setO_ne c] at hne
        rw [if_neg c, setO_ne c]; exact h.py m hm hne
    · rw [e4, e6, hj _ (by omega) (by omega) (by omega) (by omega)]; exact h.mx
    · rw [e4, e7, hj _ (by omega) (by omega) (by omega) (by omega)]; exact h.my
    · rw [e8, e9, hj _ (by omega) (by omega) (by omega) (by omega)]; exact h.va
    · rw [hj _ (by omega) (by omega) (by omega) (by omega)]
      have : hm (jrow f n px py x y) = hm f := by funext k; unfold hm; rw [e10]
      rw [this]; exact h.hd
    · rw [e5] at hr
      rw [e11 r hr]; exact hS1 r hr
  · have hir : i < gR f := by omega
    have hX : (x + 11 * i) % 32 < 32 := Nat.mod_lt _ (by decide)
    have hY : (y + 7 * i) % 32 < 32 := Nat.mod_lt _ (by decide)
    have hgo : ∀ τ', Spf (a + 1 + 8 + 4 * i) τ τ' → SpRep τ' (a + 1 + 8 + 4 * i) (jg f n x y i) → ih τ' (nI (i + 1)) := by
      intro τ' hS' hR'
      refine hih _ _ hir ⟨rfl, hN.tr (hS'.nf (by omega)), fun b hb => ?_, fun r hr => ?_, fun r hr hr' => ?_⟩
      · rw [hS' b (by omega) (by omega) (by omega)]; exact hlo b hb
      · by_cases c : r = i
        · rw [c]; exact hR'
        · exact (hS1 r (by omega)).congr (hS' _ (by omega) (by omega) (by omega)) (hS' _ (by omega) (by omega) (by omega)) (hS' _ (by omega) (by omega) (by omega))
      · exact (hS2 r (by omega) hr').congr (hS' _ (by omega) (by omega) (by omega)) (hS' _ (by omega) (by omega) (by omega)) (hS' _ (by omega) (by omega) (by omega))
    unfold jg at hgo
    by_cases e : cntS (gst f) 0 10 = 10
    · rw [if_pos e] at hgo
      have h0 := fun z => hf.no ((cntS_some _).mp e) hir z
      exact s_X4_split0 (hS2 i (Nat.le_refl _) hir) h0 (n_and31 _) hX (n_and31 _) hY hn hgo
    · rw [if_neg e] at hgo
      have hs : some1 (gst f) := Classical.byContradiction fun q => e ((cntS_some _).mpr q)
      have hz : zat (gow f i) (cc x y i) < 1024 := by
        rcases Nat.lt_or_ge (zat (gow f i) (cc x y i)) 1024 with q | q
        · exact q
        · exact absurd ⟨i, hir, q⟩ hd
      refine s_X4_split (hS2 i (Nat.le_refl _) hir) (hf.pt hs hir) (n_and31 _) hX (n_and31 _) hY hn hz (fun z q => ?_) hgo
      rcases Nat.lt_or_ge z 2048 with c | c
      · exact (hf.2 i hir).1.2.2.2 z n c q hn0
      · rw [gow_hi c] at q; omega
theorem s_X9_turned {σ : St} {x d : Nat} {Q : Int32 → Prop} (h : x + d < 2 ^ 31) (hQ : Q (nI ((x + d) % 32))) : wp_X9_turned σ (nI x) (nI d) Q := by
  unfold wp_X9_turned
  rw [n_add, n_mod32 h]
  exact hQ
theorem s_X9_join0_171 {σ : St} {n px py x y : Nat} {t : Int32} {f : Nat → Int32} {Q : Int32 → St → Prop} (hf : Good f) (hσ : σ 245 = f) (hj : σ 244 28 = nI n) (hx : x < 1000) (hy : y < 1000) (hn : n < 10) (hn0 : gst f n = 0) (hd : ¬ jdeep f x y (gR f)) (ht : cntS (gst f) 0 10 = 10 ∧ t = nI 1 ∨ cntS (gst f) 0 10 ≠ 10 ∧ t = nI 0)
    (hQ : ∀ τ, Mf σ τ → τ 245 = jrow f n px py x y → τ 244 28 = nI n → Q (nI 0) τ) : ∃ n9 : Nat, LP2 (wp_X9_join0_171 (nI px) (nI py) (nI x) (nI y) t Q) n9 σ (nI 0) := by
  have hR := hf.1.2.2.2.2.1.2.2
  have hgb : ∀ r, r < gR f → (∀ z, z < 2048 → jg f n x y r z ≤ 10) ∧ ∀ z, 2048 ≤ z → jg f n x y r z = 0 := fun r hr => ⟨(jg_ok hf hn hn0 hr hd).1.1.1.1, (jg_ok hf hn hn0 hr hd).2⟩
  refine LP2_nat (gR f) (fun i τ z => z = nI i ∧ Mf σ τ ∧ τ 244 28 = nI n ∧ τ 245 = updA f (jg f n x y) i) ?_ 0 _ _ (Nat.zero_le _) ⟨rfl, Mf.rf σ, hj, hσ⟩
  rintro ih i τ _ hi ⟨rfl, hM, hj', h245⟩ hih
  have hRow := hf.1.updA (g := jg f n x y) i (by omega) (fun r hr => (hgb r (by omega)).1)
  have h37 : τ 245 37 = nI (gR f) := by rw [h245, updA_lo _ _ (by decide)]; exact hf.1.2.2.2.2.1.1
  unfold wp_X9_join0_171
  rw [h37]
  simp (disch := omega) only [forall_eq, forall_eq', n_inT, n_cl, n_lt, n_le, n_eq, n_eq0, n_lt0, n_ge0, n_gt0, n_le0, n_em, n_me, n_add, n_mul, n_00, n_s01, n_1z, n_0z, Nat.one_ne_zero, eq_self, ne_eq, true_and, and_true, true_implies, false_implies, implies_true, not_true_eq_false, not_false_eq_true, false_and, and_false, or_false, false_or, or_true, true_or]
  refine ⟨fun q => ?_, fun q => ?_⟩
  · have ei : i = gR f := by omega
    subst ei
    unfold wp_X9_join0_233
    rw [hj']
    simp (disch := omega) only [Nat.zero_add, forall_eq, forall_eq', n_inT, n_cl, n_lt, n_le, n_eq, n_eq0, n_lt0, n_ge0, n_gt0, n_le0, n_em, n_me, n_add, n_mul, n_00, n_s01, n_1z, n_0z, Nat.one_ne_zero, eq_self, ne_eq, true_and, and_true, true_implies, false_implies, implies_true, not_true_eq_false, not_false_eq_true, false_and, and_false, or_false, false_or, or_true, true_or]
    rw [show su τ 245 n (nI 1) 244 28 = nI n by rw [su_ne (by decide)]; exact hj']
    simp (disch := omega) only [forall_eq, forall_eq', n_inT, n_cl, n_lt, n_le, n_eq, n_eq0, n_lt0, n_ge0, n_gt0, n_le0, n_em, n_me, n_add, n_mul, n_00, n_s01, n_1z, n_0z, Nat.one_ne_zero, eq_self, ne_eq, true_and, and_true, true_implies, false_implies, implies_true, not_true_eq_false, not_false_eq_true, false_and, and_false, or_false, false_or, or_true, true_or]
    rw [show su (su τ 245 n (nI 1)) 245 (10 + n) (nI px) 244 28 = nI n by rw [su_ne (by decide), su_ne (by decide)]; exact hj']
    simp (disch := omega) only [forall_eq, forall_eq', n_inT, n_cl, n_lt, n_le, n_eq, n_eq0, n_lt0, n_ge0, n_gt0, n_le0, n_em, n_me, n_add, n_mul, n_00, n_s01, n_1z, n_0z, Nat.one_ne_zero, eq_self, ne_eq, true_and, and_true, true_implies, false_implies, implies_true, not_true_eq_false, not_false_eq_true, false_and, and_false, or_false, false_or, or_true, true_or]
    refine hQ _ ⟨fun b hb => ?_, fun j hj => ?_⟩ ?_ ?_
    · rw [su_ne (by omega), su_ne (by omega), su_ne (by omega)]; exact hM.1 b hb
    · rw [su_ne (by decide), su_ne (by decide), su_ne (by decide)]; exact hM.2 j hj
    · funext j
      unfold jrow
      rw [su_at, su_at, su_at, upd_at, upd_at, upd_at, h245]
    · rw [su_ne (by decide), su_ne (by decide), su_ne (by decide)]; exact hj'
  · have hir : i < gR f := by omega
    have hgow : gow (τ 245) i = gow f i := by
      rw [h245, gow_updA f _ i (fun r hr => hgb r (by omega)), if_neg (by omega)]
    have hgst : gst (τ 245) = gst f := by rw [h245, gst_updA]
    have hgR : gR (τ 245) = gR f := by rw [h245, gR_updA]
    have hself : τ 245 = updO (updA f (jg f n x y) i) i (gow f i) := by
      have := updO_self hRow (r := i) (by rw [gR_updA]; exact hir)
      rw [← h245, hgow] at this
      rw [← h245]
      exact this.symm
    refine ⟨fun e => ?_, fun e => ?_⟩
    · rcases ht with ⟨t1, t2⟩ | ⟨t1, t2⟩
      · rw [t2] at e; exact absurd e (by decide)
      · have hs : some1 (gst f) := Classical.byContradiction fun q => t1 ((cntS_some _).mpr q)
        refine s_X9_turned (by omega) (s_X9_turned (by omega) ?_)
        have hz : zat (gow f i) (cc x y i) < 1024 := by
          rcases Nat.lt_or_ge (zat (gow f i) (cc x y i)) 1024 with q | q
          · exact q
          · exact absurd ⟨i, hir, q⟩ hd
        refine s_X9_parts (f := updA f (jg f n x y) i) (o := gow f i) (n := n) ⟨by rw [h245]; exact hRow, by rw [hgow, hgst]; exact (hf.2 i hir).1⟩ (by rw [hgR]; exact hir) (hf.pt hs hir) (Nat.mod_lt _ (by decide)) (Nat.mod_lt _ (by decide)) hn hz (by rw [hgst]; exact hs) hself hgow hj' (fun τ' hB hτ' => ?_)
        refine hih _ _ hir ⟨rfl, hM.tr hB.mf, by rw [hB.2 28 (by omega)]; exact hj', ?_⟩
        rw [hτ', updA, jg, if_neg t1, cc]
    · rcases ht with ⟨t1, t2⟩ | ⟨t1, t2⟩
      · rw [hj']
        refine s_X9_owns (v := n + 1) (f := updA f (jg f n x y) i) (o := gow f i) (by omega) (by decide) (n_add n 1) ?_ hself
        refine hih _ _ hir ⟨rfl, hM.sr _, by rw [sr_ne (by decide)]; exact hj', ?_⟩
        rw [sr_same, updA, jg, if_pos t1]
      · rw [t2] at e; exact absurd rfl e
theorem s_X9_join0_73 {σ : St} {n px py x y : Nat} {t : Int32} {f : Nat → Int32} {Q : Int32 → St → Prop} (hf : Good f) (hσ : σ 245 = f) (hj : σ 244 28 = nI n) (hx : x < 1000) (hy : y < 1000) (hn : n < 10) (hn0 : gst f n = 0) (ht : cntS (gst f) 0 10 = 10 ∧ t = nI 1 ∨ cntS (gst f) 0 10 ≠ 10 ∧ t = nI 0)
    (h2 : jdeep f x y (gR f) → ∀ τ, Mf σ τ → τ 245 = f → Q (nI 2) τ) (h3 : ¬ jdeep f x y (gR f) → jdead f x y (gR f) → ∀ τ, Mf σ τ → τ 245 = f → Q (nI 3) τ)
    (h0 : ¬ jdeep f x y (gR f) → ¬ jdead f x y (gR f) → ∀ τ, Mf σ τ → τ 245 = jrow f n px py x y → τ 244 28 = nI n → Q (nI 0) τ) : ∃ n9 : Nat, LP3 (wp_X9_join0_73 (nI px) (nI py) (nI x) (nI y) t Q) n9 σ (nI 0) (nI 0) := by
  have hR := hf.1.2.2.2.2.1.2.2
  have fin : ∀ τ, Mf σ τ → τ 244 28 = nI n → τ 245 = f → ∀ c, (c = 0 ∧ ¬ jdeep f x y (gR f) ∧ ¬ jdead f x y (gR f) ∨ c = 2 ∧ jdeep f x y (gR f) ∨ c = 3 ∧ ¬ jdeep f x y (gR f) ∧ jdead f x y (gR f)) → wp_X9_join0_160 τ (nI px) (nI py) (nI x) (nI y) t (nI c) Q := by
    intro τ hM hj' h245 c hc
    unfold wp_X9_join0_160
    rcases hc with ⟨rfl, c1, c2⟩ | ⟨rfl, c1⟩ | ⟨rfl, c1, c2⟩
    · refine ⟨fun _ => s_X9_join0_171 hf h245 hj' hx hy hn hn0 c1 ht (fun τ' hM' => h0 c1 c2 τ' (hM.tr hM')), fun q => absurd (by decide) q⟩
    · exact ⟨fun q => absurd q (by decide), fun _ => h2 c1 τ hM h245⟩
    · exact ⟨fun q => absurd q (by decide), fun _ => h3 c1 c2 τ hM h245⟩
  have h37 : f 37 = nI (gR f) := hf.1.2.2.2.2.1.1
  rcases ht with ⟨t1, t2⟩ | ⟨t1, t2⟩
  · have hs := (cntS_some _).mp t1
    have nod : ¬ jdeep f x y (gR f) := by
      rintro ⟨r, hr, q⟩
      rw [zat_none (fun z => hf.no hs hr z)] at q
      omega
    have nodd : ¬ jdead f x y (gR f) := by
      rintro ⟨r, hr, p, q, -⟩
      rw [hf.no hs hr] at q
      omega
    refine LP3_nat 0 (fun _ τ z w => τ = σ ∧ z = nI 0 ∧ w = nI 0) ?_ 0 _ _ _ (Nat.le_refl _) ⟨rfl, rfl, rfl⟩
    rintro ih i τ _ _ hi ⟨rfl, rfl, rfl⟩ hih
    unfold wp_X9_join0_73
    rw [hσ, h37]
    refine ⟨fun q => fin τ (Mf.rf τ) hj hσ 0 (Or.inl ⟨rfl, nod, nodd⟩), fun _ => ⟨fun _ => fin τ (Mf.rf τ) hj hσ 0 (Or.inl ⟨rfl, nod, nodd⟩), fun q => ?_⟩⟩
    rw [t2] at q; exact absurd q (by decide)
  · have hs : some1 (gst f) := Classical.byContradiction fun q => t1 ((cntS_some _).mpr q)
    refine LP3_nat (gR f) (fun i τ z w => w = nI i ∧ Mf σ τ ∧ τ 244 28 = nI n ∧ τ 245 = f ∧ ∃ c, z = nI c ∧ (c = 0 ∧ ¬ jdeep f x y i ∧ ¬ jdead f x y i ∨ c = 2 ∧ jdeep f x y i ∨ c = 3 ∧ ¬ jdeep f x y i ∧ jdead f x y i)) ?_ 0 _ _ _ (Nat.zero_le _) ⟨rfl, Mf.rf σ, hj, hσ, 0, rfl, Or.inl ⟨rfl, fun ⟨r, q, _⟩ => absurd q (by omega), fun ⟨r, q, _⟩ => absurd q (by omega)⟩⟩
    rintro ih i τ _ _ hi ⟨rfl, hM, hj', h245, c, rfl, hc⟩ hih
    unfold wp_X9_join0_73
    rw [h245, h37]
    simp (disch := omega) only [forall_eq, forall_eq', n_inT, n_cl, n_lt, n_le, n_eq, n_eq0, n_lt0, n_ge0, n_gt0, n_le0, n_em, n_me, n_add, n_mul, n_00, n_s01, n_1z, n_0z, Nat.one_ne_zero, eq_self, ne_eq, true_and, and_true, true_implies, false_implies, implies_true, not_true_eq_false, not_false_eq_true, false_and, and_false, or_false, false_or, or_true, true_or]
    refine ⟨fun q => ?_, fun q => ⟨fun e => absurd t2 e, fun _ => ?_⟩⟩
    · rw [show i = gR f by omega] at hc
      exact fin τ hM hj' h245 c hc
    · have hir : i < gR f := by omega
      have hzl := zat_lt (o := gow f i) (cc_lt x y i).2
      obtain ⟨d, hdl, ed, hne⟩ := zat_some (hf.pt hs hir).2.1 (cc_lt x y i).1 (cc_lt x y i).2
      rw [← ed] at hne
      have hz1 := PT.pos (hf.2 i hir).1.1 hne
      have hbz := (hf.2 i hir).1.1.1 _ hzl
      obtain ⟨p, hp⟩ : ∃ p, gow f i (zat (gow f i) (cc x y i)) = p + 1 := ⟨gow f i (zat (gow f i) (cc x y i)) - 1, by omega⟩
      have hpl : p < 10 := by omega
      refine s_X9_turned (by omega) (s_X9_turned (by omega) ?_)
      refine s_X9_zoneAt (by rw [h245]; exact hf.g0 hir) (by rw [h245]; exact hir) (Nat.mod_lt _ (by decide)) (Nat.mod_lt _ (by decide)) (fun q => absurd hs (by rw [← h245]; exact q)) (fun _ τ' hB => ?_)
      rw [h245, ← cc]
      refine s_X9_depthOf hz1 hzl ?_
      have hzd := zd_le hzl hz1
      have hM' : Mf σ τ' := hM.tr hB.bm.mf
      have hj2 : τ' 244 28 = nI n := by rw [hB.2 28 (by omega)]; exact hj'
      have h245' : τ' 245 = f := by rw [hB.m, h245]
      have dsu : jdeep f x y (i + 1) ↔ (jdeep f x y i ∨ 1024 ≤ zat (gow f i) (cc x y i)) := by
        constructor
        · rintro ⟨r, hr, q⟩
          by_cases e : r = i
          · right; rw [← e]; exact q
          · left; exact ⟨r, by omega, q⟩
        · rintro (⟨r, hr, q⟩ | q)
          · exact ⟨r, by omega, q⟩
          · exact ⟨i, by omega, q⟩
      have esu : jdead f x y (i + 1) ↔ (jdead f x y i ∨ gst f p = 2) := by
        constructor
        · rintro ⟨r, hr, p', q, q'⟩
          by_cases e : r = i
          · right; rw [e, hp] at q; rw [show p = p' by omega]; exact q'
          · left; exact ⟨r, by omega, p', q, q'⟩
        · rintro (⟨r, hr, p', q, q'⟩ | q)
          · exact ⟨r, by omega, p', q, q'⟩
          · exact ⟨i, by omega, p, hp, q⟩
      rw [n_eq (by omega) (by decide), zd10 hz1 hzl]
      refine ⟨fun nd => ?_, fun yd => ?_⟩
      · unfold wp_X9_join0_130
        rw [n_eq0 (by rcases hc with ⟨rfl, -⟩ | ⟨rfl, -⟩ | ⟨rfl, -⟩ <;> decide)]
        refine ⟨fun c0 => ?_, fun c0 => ?_⟩
        · rw [n_add]
          refine fun _ ez => ez ▸ hih _ _ _ hir ⟨rfl, hM', hj2, h245', c, rfl, ?_⟩
          rw [dsu, esu]
          rcases hc with ⟨rfl, -⟩ | ⟨rfl, c1⟩ | ⟨rfl, c1, c2⟩
          · exact absurd rfl c0
          · exact Or.inr (Or.inl ⟨rfl, Or.inl c1⟩)
          · exact Or.inr (Or.inr ⟨rfl, fun q => q.elim c1 nd, Or.inl c2⟩)
        · subst c0
          have hc' : ¬ jdeep f x y i ∧ ¬ jdead f x y i := by
            rcases hc with ⟨-, c1⟩ | ⟨q, -⟩ | ⟨q, -⟩
            · exact c1
            · omega
            · omega
          refine s_X9_ownerOf (by rw [h245']; exact hf.1) (by rw [h245']; exact hir) hzl ?_
          rw [h245', hp, n_sub (by omega), Nat.add_sub_cancel]
          refine s_X9_isState (by rw [h245']; exact hf.1) hpl (by decide) (fun q => ?_) (fun q => ?_)
          · refine ⟨fun e => absurd e (by decide), fun _ => ?_⟩
            rw [n_add]
            refine fun _ ez => ez ▸ hih _ _ _ hir ⟨rfl, hM', hj2, h245', 3, rfl, Or.inr (Or.inr ⟨rfl, ?_, ?_⟩)⟩
            · rw [dsu]; exact fun q => q.elim hc'.1 nd
            · rw [esu]; rw [h245'] at q; exact Or.inr q
          · refine ⟨fun _ => ?_, fun e => absurd rfl e⟩
            rw [n_add]
            refine fun _ ez => ez ▸ hih _ _ _ hir ⟨rfl, hM', hj2, h245', 0, rfl, Or.inl ⟨rfl, ?_, ?_⟩⟩
            · rw [dsu]; exact fun q => q.elim hc'.1 nd
            · rw [esu]; rw [h245'] at q; exact fun q2 => q2.elim hc'.2 q
      · unfold wp_X9_join0_130
        refine ⟨fun _ => ?_, fun e => absurd e (by decide)⟩
        rw [n_add]
        refine fun _ ez => ez ▸ hih _ _ _ hir ⟨rfl, hM', hj2, h245', 2, rfl, Or.inr (Or.inl ⟨rfl, ?_⟩)⟩
        rw [dsu]; exact Or.inr yd
theorem s_X9_join0 {σ : St} {n px py x y : Nat} {f : Nat → Int32} {Q : Int32 → St → Prop} (hf : Good f) (hσ : σ 245 = f) (hx : x < 1000) (hy : y < 1000) (hn : n < 10) (hn0 : gst f n = 0) (hl : ∀ m, m < n → gst f m ≠ 0)
    (h2 : jdeep f x y (gR f) → ∀ τ, Mf σ τ → τ 245 = f → Q (nI 2) τ) (h3 : ¬ jdeep f x y (gR f) → jdead f x y (gR f) → ∀ τ, Mf σ τ → τ 245 = f → Q (nI 3) τ)
    (h0 : ¬ jdeep f x y (gR f) → ¬ jdead f x y (gR f) → ∀ τ, Mf σ τ → τ 245 = jrow f n px py x y → τ 244 28 = nI n → Q (nI 0) τ) : wp_X9_join0 σ (nI px) (nI py) (nI x) (nI y) Q := by
  unfold wp_X9_join0
  simp (disch := omega) only [forall_eq, forall_eq', n_inT, n_cl, n_lt, n_le, n_eq, n_eq0, n_lt0, n_ge0, n_gt0, n_le0, n_em, n_me, n_add, n_mul, n_00, n_s01, n_1z, n_0z, Nat.one_ne_zero, eq_self, ne_eq, true_and, and_true, true_implies, false_implies, implies_true, not_true_eq_false, not_false_eq_true, false_and, and_false, or_false, false_or, or_true, true_or]
  refine LP1_nat n (fun i τ => Mf σ τ ∧ τ 245 = f ∧ τ 244 28 = nI i) ?_ 0 _ (Nat.zero_le _) ⟨⟨fun b hb => su_ne (by omega), fun j hj => by rw [su_at, if_neg (by omega)]⟩, by rw [su_ne (by decide)]; exact hσ, by rw [su_at, if_pos rfl]⟩
  rintro ih i τ hi ⟨hM, h245, h28⟩ hih
  unfold wp_X9_join0_5
  rw [h28]
  simp (disch := omega) only [forall_eq, forall_eq', n_inT, n_cl, n_lt, n_le, n_eq, n_eq0, n_lt0, n_ge0, n_gt0, n_le0, n_em, n_me, n_add, n_mul, n_00, n_s01, n_1z, n_0z, Nat.one_ne_zero, eq_self, ne_eq, true_and, and_true, true_implies, false_implies, implies_true, not_true_eq_false, not_false_eq_true, false_and, and_false, or_false, false_or, or_true, true_or]
  refine ⟨fun q => absurd q (by omega), fun _ => s_X9_isState (by rw [h245]; exact hf.1) (by omega) (by decide) (fun q => ?_) (fun q => ?_)⟩
  · rw [h245] at q
    have ei : i = n := by
      rcases Nat.lt_or_ge i n with c | c
      · exact absurd q (hl i c)
      · omega
    subst ei
    refine ⟨fun _ => ?_, fun e => absurd e (by decide)⟩
    unfold wp_X9_join0_39
    rw [h28]
    simp (disch := omega) only [forall_eq, forall_eq', n_inT, n_cl, n_lt, n_le, n_eq, n_eq0, n_lt0, n_ge0, n_gt0, n_le0, n_em, n_me, n_add, n_mul, n_00, n_s01, n_1z, n_0z, Nat.one_ne_zero, eq_self, ne_eq, true_and, and_true, true_implies, false_implies, implies_true, not_true_eq_false, not_false_eq_true, false_and, and_false, or_false, false_or, or_true, true_or]
    refine ⟨fun _ => s_X9_countOf (by rw [h245]; exact hf.1) (by decide) ?_, fun e => absurd e (by omega)⟩
    have := cnt31 (gst f) 0
    rw [h245, n_eq (by omega) (by decide)]
    exact ⟨fun e => s_X9_join0_73 hf h245 h28 hx hy hn hn0 (Or.inr ⟨e, rfl⟩) (fun a τ' hM' => h2 a τ' (hM.tr hM')) (fun a b τ' hM' => h3 a b τ' (hM.tr hM')) (fun a b τ' hM' => h0 a b τ' (hM.tr hM')), fun e => s_X9_join0_73 hf h245 h28 hx hy hn hn0 (Or.inl ⟨e, rfl⟩) (fun a τ' hM' => h2 a τ' (hM.tr hM')) (fun a b τ' hM' => h3 a b τ' (hM.tr hM')) (fun a b τ' hM' => h0 a b τ' (hM.tr hM'))⟩
  · rw [h245] at q
    refine ⟨fun e => absurd rfl e, fun _ => hih _ ?_ ⟨⟨fun b hb => ?_, fun j hj => ?_⟩, ?_, ?_⟩⟩
    · rcases Nat.lt_or_ge i n with c | c
      · exact c
      · rw [show i = n by omega] at q; exact absurd hn0 q
    · rw [su_ne (by omega)]; exact hM.1 b hb
    · rw [su_at, if_neg (by omega)]; exact hM.2 j hj
    · rw [su_ne (by decide)]; exact h245
    · rw [su_at, if_pos rfl]
theorem s_X9_join0_no {σ : St} {x1 x2 x3 x4 : Int32} {f : Nat → Int32} {Q : Int32 → St → Prop} (hf : Good f) (hσ : σ 245 = f) (hl : ∀ m, m < 10 → gst f m ≠ 0)
    (h1 : ∀ τ, Mf σ τ → τ 245 = f → Q (nI 1) τ) : wp_X9_join0 σ x1 x2 x3 x4 Q := by
  unfold wp_X9_join0
  simp (disch := omega) only [forall_eq, forall_eq', n_inT, n_cl, n_lt, n_le, n_eq, n_eq0, n_lt0, n_ge0, n_gt0, n_le0, n_em, n_me, n_add, n_mul, n_00, n_s01, n_1z, n_0z, Nat.one_ne_zero, eq_self, ne_eq, true_and, and_true, true_implies, false_implies, implies_true, not_true_eq_false, not_false_eq_true, false_and, and_false, or_false, false_or, or_true, true_or]
  refine LP1_nat 10 (fun i τ => Mf σ τ ∧ τ 245 = f ∧ τ 244 28 = nI i) ?_ 0 _ (Nat.zero_le _) ⟨⟨fun b hb => su_ne (by omega), fun j hj => by rw [su_at, if_neg (by omega)]⟩, by rw [su_ne (by decide)]; exact hσ, by rw [su_at, if_pos rfl]⟩
  rintro ih i τ hi ⟨hM, h245, h28⟩ hih
  unfold wp_X9_join0_5
  rw [h28]
  simp (disch := omega) only [forall_eq, forall_eq', n_inT, n_cl, n_lt, n_le, n_eq, n_eq0, n_lt0, n_ge0, n_gt0, n_le0, n_em, n_me, n_add, n_mul, n_00, n_s01, n_1z, n_0z, Nat.one_ne_zero, eq_self, ne_eq, true_and, and_true, true_implies, false_implies, implies_true, not_true_eq_false, not_false_eq_true, false_and, and_false, or_false, false_or, or_true, true_or]
  refine ⟨fun q => ?_, fun q => s_X9_isState (by rw [h245]; exact hf.1) (by omega) (by decide) (fun q2 => ?_) (fun q2 => ?_)⟩
  · have ei : i = 10 := by omega
    subst ei
    unfold wp_X9_join0_39
    rw [h28]
    exact ⟨fun e => absurd rfl e, fun _ => h1 τ hM h245⟩
  · rw [h245] at q2; exact absurd q2 (hl i (by omega))
  · refine ⟨fun e => absurd rfl e, fun _ => hih _ (by omega) ⟨⟨fun b hb => ?_, fun j hj => ?_⟩, ?_, ?_⟩⟩
    · rw [su_ne (by omega)]; exact hM.1 b hb
    · rw [su_at, if_neg (by omega)]; exact hM.2 j hj
    · rw [su_ne (by decide)]; exact h245
    · rw [su_at, if_pos rfl]
