/-! NET, LANDMARK, who may go -/
def nrow (f : Nat → Int32) (R : Nat) : Nat → Int32 := fun j => if j = 37 then nI R else if j < 6682 then nI 0 else f j
theorem nrow_0 {f : Nat → Int32} {R j : Nat} (h : j ≠ 37) (hj : j < 6682) : nrow f R j = nI 0 := by unfold nrow; rw [if_neg h, if_pos hj]
theorem cl0 : Int32.toNatClampNeg (nI 0) = 0 := by decide
theorem nrow_acc (f : Nat → Int32) {R : Nat} (hR : R ≤ 3) : (∀ n, gst (nrow f R) n = 0) ∧ gK (nrow f R) = 0 ∧ gR (nrow f R) = R ∧ (∀ k, gsd (nrow f R) k = 0) ∧ (∀ r k, ghd (nrow f R) r k = 0) ∧ (∀ r, r < 3 → gow (nrow f R) r = zro) := by
  refine ⟨fun n => ?_, ?_, ?_, fun k => ?_, fun r k => ?_, fun r hr => ?_⟩
  · unfold gst; split
    · rw [nrow_0 (by omega) (by omega), cl0]
    · rfl
  · unfold gK; rw [nrow_0 (by omega) (by omega), cl0]
  · unfold gR nrow; rw [if_pos rfl, n_cl (by omega)]
  · unfold gsd; split
    · rw [nrow_0 (by omega) (by omega), cl0]
    · rfl
  · unfold ghd; split
    · rw [nrow_0 (by omega) (by omega), cl0]
    · rfl
  · funext z; unfold gow zro; split
    · rw [nrow_0 (by omega) (by omega), cl0]
    · rfl
theorem zro_own {st : Nat → Nat} (h : ∀ n, st n = 0) : OwnOK zro st := by
  refine ⟨⟨⟨fun z _ => Nat.zero_le _, rfl⟩, ?_, fun z j _ _ q => absurd rfl q, fun z n _ q => by unfold zro at q; omega⟩, fun n _ q => absurd (h n) q⟩
  rintro ⟨n, hn, q⟩
  exact absurd (h n) q
theorem nrow_good (f : Nat → Int32) {R : Nat} (h1 : 1 ≤ R) (hR : R ≤ 3) : Good (nrow f R) := by
  obtain ⟨e1, e2, e3, e4, e5, e6⟩ := nrow_acc f hR
  refine ⟨⟨fun n hn => ?_, fun n _ q => absurd (e1 n) q, ?_, fun i hi => by rw [e2] at hi; omega, ?_, fun k hk => ?_, fun k _ q => by rw [e4] at q; omega, fun r hr k hk => ?_, fun r hr z hz => ?_⟩, fun r hr => ?_⟩
  · rw [e1, nrow_0 (by omega) (by omega)]; exact ⟨rfl, by decide⟩
  · rw [e2, nrow_0 (by omega) (by omega)]; exact ⟨rfl, by decide⟩
  · rw [e3]; exact ⟨by unfold nrow; rw [if_pos rfl], h1, hR⟩
  · rw [e4, nrow_0 (by omega) (by omega)]; exact ⟨rfl, by decide⟩
  · rw [e5, nrow_0 (by omega) (by omega)]; exact ⟨rfl, by decide, fun _ => rfl, fun _ => rfl⟩
  · rw [e3] at hr
    rw [e6 r (by omega), nrow_0 (by omega) (by omega)]; rfl
  · rw [e3] at hr
    rw [e6 r (by omega)]
    exact zro_own e1
theorem s_X1_startAnew {σ : St} {a R : Nat} {f : Nat → Int32} {Q : Int32 → St → Prop} (h1 : 1 ≤ R) (hR : R ≤ 3) (hQ : ∀ τ, Nf a σ τ → NetRep τ a (nrow f R) → Q (nI R) τ) : wp_X1_startAnew σ a (nI R) Q := by
  obtain ⟨e1, e2, e3, e4, e5, e6⟩ := nrow_acc f hR
  unfold wp_X1_startAnew
  intro σ1 hσ1 σ2 hσ2
  have k1 : Nf a σ σ2 := by rw [hσ2, hσ1]; exact ((Nf.rf a σ).su (by omega) (by omega)).su (by omega) (by omega)
  have k8 : σ2 a 8 = nI 0 := by rw [hσ2, su_at, if_pos rfl]
  have k9 : σ2 a 9 = nI R := by rw [hσ2, su_at, if_neg (by decide), hσ1, su_at, if_pos rfl]
  refine LP2_nat 3 (fun i τ z => z = nI i ∧ Nf a σ τ ∧ τ a = σ2 a ∧ ∀ r, r < i → SpRep τ (a + 1 + 8 + 4 * r) zro) ?_ 0 _ _ (Nat.zero_le _) ⟨rfl, k1, rfl, fun r hr => absurd hr (by omega)⟩
  rintro ih i τ _ hi ⟨rfl, hN, ha, hS⟩ hih
  unfold wp_X1_startAnew_12
  simp (disch := omega) only [forall_eq, forall_eq', n_inT, n_cl, n_lt, n_le, n_eq, n_eq0, n_lt0, n_ge0, n_gt0, n_le0, n_em, n_me, n_add, n_mul, n_00, n_s01, n_1z, n_0z, Nat.one_ne_zero, eq_self, ne_eq, true_and, and_true, true_implies, false_implies, implies_true, not_true_eq_false, not_false_eq_true, false_and, and_false, or_false, false_or, or_true, true_or]
  refine ⟨fun q => ?_, fun q => ⟨n_in (by omega) (by decide), ?_⟩⟩
  · have ei : i = 3 := by omega
    subst ei
    unfold wp_X1_startAnew_32
    refine s_J7_fill (by decide) (fun τ1 a1 b1 => s_J7_fill (by decide) (fun τ2 a2 b2 => s_J7_fill (by decide) (fun τ3 a3 b3 => ?_)))
    have hj : ∀ j, j ≠ a + 2 → j ≠ a + 7 → j ≠ a + 8 → τ3 j = τ j := fun j c1 c2 c3 => by rw [a3 j c3, a2 j c2, a1 j c1]
    have h9 : τ3 a 9 = nI R := by rw [hj a (by omega) (by omega) (by omega), ha, k9]
    rw [h9]
    refine hQ τ3 (fun b hb => by rw [hj b (by omega) (by omega) (by omega)]; exact hN b hb) ⟨?_, ?_, fun n hn => ?_, fun n _ q => absurd (e1 n) q, fun n _ q => absurd (e1 n) q, fun i hi => by rw [e2] at hi; omega, fun i hi => by rw [e2] at hi; omega, fun k hk => ?_, fun k hk => ?_, fun r hr => ?_⟩
    · rw [e3]; exact h9
    · rw [e2, hj a (by omega) (by omega) (by omega), ha, k8]
    · rw [e1, a3 _ (by omega), a2 _ (by omega), b1 n hn]
    · rw [e4, if_neg (by decide), a3 _ (by omega), b2 k hk]
    · rw [b3 k hk]
      have : hm (nrow f R) k = 0 := by unfold hm; simp [bm, e5]
      rw [this]
    · rw [e3] at hr
      rw [e6 r (by omega)]
      exact (hS r (by omega)).congr (hj _ (by omega) (by omega) (by omega)) (hj _ (by omega) (by omega) (by omega)) (hj _ (by omega) (by omega) (by omega))
  · refine s_X4_clear (fun τ' hS' hR' => ?_)
    refine hih _ _ (by omega) ⟨rfl, hN.tr (hS'.nf (by omega)), by rw [hS' a (by omega) (by omega) (by omega)]; exact ha, fun r hr => ?_⟩
    by_cases c : r = i
    · rw [c]; exact hR'
    · exact (hS r (by omega)).congr (hS' _ (by omega) (by omega) (by omega)) (hS' _ (by omega) (by omega) (by omega)) (hS' _ (by omega) (by omega) (by omega))
theorem s_X9_clearsAll {σ : St} {R : Nat} {f : Nat → Int32} {Q : St → Prop} (hσ : σ 245 = f) (hQ : ∀ τ, Mf σ τ → τ 245 = nrow f R → Q τ) : wp_X9_clearsAll σ (nI R) Q := by
  refine LP2_nat 6682 (fun i τ z => z = nI i ∧ Mf σ τ ∧ ∀ j, τ 245 j = if j < i then nI 0 else f j) ?_ 0 _ _ (Nat.zero_le _) ⟨rfl, Mf.rf σ, fun j => by rw [if_neg (by omega), hσ]⟩
  rintro ih i τ _ hi ⟨rfl, hM, hrow⟩ hih
  unfold wp_X9_clearsAll_2
  simp (disch := omega) only [forall_eq, forall_eq', n_inT, n_cl, n_lt, n_le, n_eq, n_eq0, n_lt0, n_ge0, n_gt0, n_le0, n_em, n_me, n_add, n_mul, n_00, n_s01, n_1z, n_0z, Nat.one_ne_zero, eq_self, ne_eq, true_and, and_true, true_implies, false_implies, implies_true, not_true_eq_false, not_false_eq_true, false_and, and_false, or_false, false_or, or_true, true_or]
  refine ⟨fun q => ?_, fun q => ⟨n_in (by omega) (by decide), hih _ _ (by omega) ⟨rfl, ⟨fun b hb => by rw [su_ne (by omega)]; exact hM.1 b hb, fun j hj => by rw [su_ne (by decide)]; exact hM.2 j hj⟩, fun j => ?_⟩⟩⟩
  · refine hQ _ ⟨fun b hb => by rw [su_ne (by omega)]; exact hM.1 b hb, fun j hj => by rw [su_ne (by decide)]; exact hM.2 j hj⟩ ?_
    funext j
    rw [su_at, hrow j, show i = 6682 by omega]
    rfl
  · rw [su_at, hrow j]
    by_cases c : j = i
    · rw [if_pos c, if_pos (by omega)]
    · rw [if_neg c]
      by_cases c2 : j < i
      · rw [if_pos c2, if_pos (by omega)]
      · rw [if_neg c2, if_neg (by omega)]
/-- one landmark more -/
def krow (f : Nat → Int32) (x y : Nat) : Nat → Int32 := upd (upd (upd f (31 + gK f) (nI x)) (34 + gK f) (nI y)) 30 (nI (gK f + 1))
theorem krow_lo {f : Nat → Int32} {x y j : Nat} (h1 : j ≠ 30) (h2 : j ≠ 31 + gK f) (h3 : j ≠ 34 + gK f) : krow f x y j = f j := by unfold krow; rw [upd_ne' h1, upd_ne' h3, upd_ne' h2]
theorem krow_acc {f : Nat → Int32} (hK : gK f < 3) {x y : Nat} (hx : x < 100) (hy : y < 100) : gst (krow f x y) = gst f ∧ gpx (krow f x y) = gpx f ∧ gpy (krow f x y) = gpy f ∧ gK (krow f x y) = gK f + 1 ∧ gR (krow f x y) = gR f ∧ gmx (krow f x y) = setO (gmx f) (gK f) x ∧ gmy (krow f x y) = setO (gmy f) (gK f) y ∧ gsd (krow f x y) = gsd f ∧ gva (krow f x y) = gva f ∧ ghd (krow f x y) = ghd f ∧ gow (krow f x y) = gow f := by
  unfold krow
  refine ⟨?_, ?_, ?_, ?_, ?_, ?_, ?_, ?_, ?_, ?_, ?_⟩
  · rw [gst_upd (by omega), gst_upd (by omega), gst_upd (by omega)]
  · rw [gpx_upd (by omega), gpx_upd (by omega), gpx_upd (by omega)]
  · rw [gpy_upd (by omega), gpy_upd (by omega), gpy_upd (by omega)]
  · unfold gK; rw [upd_at, if_pos rfl]; exact n_cl (by unfold gK at hK; omega)
  · rw [gR_upd (by omega), gR_upd (by omega), gR_upd (by omega)]
  · rw [gmx_upd (by omega), gmx_upd (by omega)]
    funext m; unfold gmx setO
    rw [upd_at]
    by_cases e : m = gK f
    · rw [if_pos e, if_pos (by omega), if_pos (by omega), n_cl (by omega)]
    · have e2 : ¬ 31 + m = 31 + gK f := by omega
      rw [if_neg e, if_neg e2]
  · rw [gmy_upd (by omega)]
    funext m; unfold gmy setO
    rw [upd_at]
    by_cases e : m = gK f
    · rw [if_pos e, if_pos (by omega), if_pos (by omega), n_cl (by omega)]
    · have e2 : ¬ 34 + m = 34 + gK f := by omega
      rw [if_neg e, if_neg e2]
      by_cases c : m < 3
      · show _ = if m < 3 then (f (34 + m)).toNatClampNeg else 0
        rw [if_pos c, if_pos c, upd_ne' (by omega)]
      · show _ = if m < 3 then (f (34 + m)).toNatClampNeg else 0
        rw [if_neg c, if_neg c]
  · rw [gsd_upd (by omega), gsd_upd (by omega), gsd_upd (by omega)]
  · rw [gva_upd (by omega), gva_upd (by omega), gva_upd (by omega)]
  · rw [ghd_upd (by omega), ghd_upd (by omega), ghd_upd (by omega)]
  · rw [gow_upd (by omega), gow_upd (by omega), gow_upd (by omega)]
theorem krow_good {f : Nat → Int32} (hf : Good f) (hK : gK f < 3) {x y : Nat} (hx : x < 100) (hy : y < 100) : Good (krow f x y) := by
  obtain ⟨e1, e2, e3, e4, e5, e6, e7, e8, e9, e10, e11⟩ := krow_acc hK hx hy
  obtain ⟨h1, h2, h3, h4, h5, h6, h7, h8, h9⟩ := hf.1
  refine ⟨⟨fun m hm => ?_, fun m hm q => ?_, ?_, fun i hi => ?_, ?_, fun k hk => ?_, fun k hk q => ?_, fun r hr k hk => ?_, fun r hr z hz => ?_⟩, fun r hr => ?_⟩
  · rw [e1, krow_lo (by omega) (by omega) (by omega)]; exact h1 m hm
  · rw [e1] at q
    rw [e2, e3, krow_lo (by omega) (by omega) (by omega), krow_lo (by omega) (by omega) (by omega)]; exact h2 m hm q
  · rw [e4]
    exact ⟨by unfold krow; rw [upd_at, if_pos rfl], by omega⟩
  · rw [e4] at hi
    rw [e6, e7]
    by_cases c : i = gK f
    · rw [c, setO_same, setO_same]
      unfold krow
      refine ⟨⟨?_, hx⟩, ?_, hy⟩
      · rw [upd_ne' (by omega), upd_ne' (by omega), upd_at, if_pos rfl]
      · rw [upd_ne' (by omega), upd_at, if_pos rfl]
    · rw [setO_ne c, setO_ne c, krow_lo (by omega) (by omega) (by omega), krow_lo (by omega) (by omega) (by omega)]
      exact h4 i (by omega)
  · rw [e5, krow_lo (by omega) (by omega) (by omega)]; exact h5
  · rw [e8, krow_lo (by omega) (by omega) (by omega)]; exact h6 k hk
  · rw [e8] at q
    rw [e9, krow_lo (by omega) (by omega) (by omega)]; exact h7 k hk q
  · rw [e8, e10, e5, krow_lo (by omega) (by omega) (by omega)]; exact h8 r hr k hk
  · rw [e5] at hr
    rw [e11, krow_lo (by omega) (by omega) (by omega)]; exact h9 r hr z hz
  · rw [e5] at hr
    rw [e11, e1]; exact hf.2 r hr
theorem s_X1_addLandmark {σ : St} {a x y : Nat} {f : Nat → Int32} {Q : Int32 → St → Prop} (h : NetRep σ a f) (hf : Good f) (hK : gK f < 3) (hx : x < 100) (hy : y < 100)
    (hQ : ∀ τ, Nf a σ τ → NetRep τ a (krow f x y) → Q (nI (gK f + 1)) τ) : wp_X1_addLandmark σ a (nI x) (nI y) Q := by
  obtain ⟨e1, e2, e3, e4, e5, e6, e7, e8, e9, e10, e11⟩ := krow_acc hK hx hy
  have hR := hf.1.2.2.2.2.1.2.2
  unfold wp_X1_addLandmark
  rw [h.ma]
  refine ⟨fun q => absurd q (by rw [n_le (by decide) (by omega)]; omega), fun _ => ⟨n_in hK (by decide), ?_⟩⟩
  rw [n_cl (by omega)]
  intro σ1 hσ1
  have g1 : σ1 a 8 = nI (gK f) := by rw [hσ1, su_ne (by omega)]; exact h.ma
  rw [g1, n_cl (by omega)]
  refine ⟨n_in hK (by decide), fun σ2 hσ2 σ3 hσ3 => ?_⟩
  have g2 : σ2 a 8 = nI (gK f) := by rw [hσ2, su_ne (by omega)]; exact g1
  rw [g2, n_add] at hσ3
  have j1 : ∀ b, b ≠ a → b ≠ a + 5 → b ≠ a + 6 → σ3 b = σ b := fun b c1 c2 c3 => by rw [hσ3, su_ne c1, hσ2, su_ne c3, hσ1, su_ne c2]
  have j2 : ∀ j, σ3 a j = if j = 8 then nI (gK f + 1) else σ a j := fun j => by rw [hσ3, su_at, hσ2, su_ne (by omega), hσ1, su_ne (by omega)]
  have j5 : ∀ j, σ3 (a + 5) j = if j = gK f then nI x else σ (a + 5) j := fun j => by rw [hσ3, su_ne (by omega), hσ2, su_ne (by omega), hσ1, su_at]
  have j6 : ∀ j, σ3 (a + 6) j = if j = gK f then nI y else σ (a + 6) j := fun j => by rw [hσ3, su_ne (by omega), hσ2, su_at, hσ1, su_ne (by omega)]
  rw [j2, if_pos rfl]
  refine hQ σ3 (fun b hb => j1 b (by omega) (by omega) (by omega)) ⟨?_, ?_, ?_, ?_, ?_, fun i hi => ?_, fun i hi => ?_, ?_, ?_, fun r hr => ?_⟩
  · rw [e5, j2, if_neg (by decide)]; exact h.re
  · rw [e4, j2, if_pos rfl]
  · rw [e1, j1 _ (by omega) (by omega) (by omega)]; exact h.st
  · rw [e1, e2, j1 _ (by omega) (by omega) (by omega)]; exact h.px
  · rw [e1, e3, j1 _ (by omega) (by omega) (by omega)]; exact h.py
  · rw [e4] at hi
    rw [e6, j5]
    by_cases c : i = gK f
    · rw [if_pos c, c, setO_same]
    · rw [if_neg c, setO_ne c]; exact h.mx i (by omega)
  · rw [e4] at hi
    rw [e7, j6]
    by_cases c : i = gK f
    · rw [if_pos c, c, setO_same]
    · rw [if_neg c, setO_ne c]; exact h.my i (by omega)
  · rw [e8, e9, j1 _ (by omega) (by omega) (by omega)]; exact h.va
  · rw [j1 _ (by omega) (by omega) (by omega), hm_congr e10]; exact h.hd
  · rw [e5] at hr
    rw [e11]
    exact (h.sp r hr).congr (j1 _ (by omega) (by omega) (by omega)) (j1 _ (by omega) (by omega) (by omega)) (j1 _ (by omega) (by omega) (by omega))
theorem s_X9_landmark0 {σ : St} {x y : Nat} {f : Nat → Int32} {Q : Int32 → St → Prop} (hf : Good f) (hσ : σ 245 = f)
    (h10 : gK f = 3 → Q (nI 10) σ) (hQ : gK f < 3 → ∀ τ, Mf σ τ → τ 245 = krow f x y → Q (nI 0) τ) : wp_X9_landmark0 σ (nI x) (nI y) Q := by
  have hK := hf.1.2.2.1
  unfold wp_X9_landmark0
  rw [hσ, hK.1, n_eq (by omega) (by decide), n_add, n_cl (by omega)]
  refine ⟨fun c => ⟨n_in (by omega) (by decide), fun σ1 hσ1 => ?_⟩, h10⟩
  have g1 : σ1 245 30 = nI (gK f) := by rw [hσ1, su_at, if_neg (by omega), hσ]; exact hK.1
  rw [g1, n_add, n_cl (by omega)]
  refine ⟨n_in (by omega) (by decide), fun σ2 hσ2 σ3 hσ3 => ?_⟩
  have g2 : σ2 245 30 = nI (gK f) := by rw [hσ2, su_at, if_neg (by omega)]; exact g1
  rw [g2, n_add] at hσ3
  refine hQ (by omega) σ3 ⟨fun b hb => by rw [hσ3, su_ne (by omega), hσ2, su_ne (by omega), hσ1, su_ne (by omega)], fun j hj => by rw [hσ3, su_ne (by decide), hσ2, su_ne (by decide), hσ1, su_ne (by decide)]⟩ ?_
  funext j
  rw [hσ3, su_at, hσ2, su_at, hσ1, su_at, hσ]
  unfold krow
  rw [upd_at, upd_at, upd_at]
/-! who may go -/
theorem z10 {m : Nat} (h : m < 1024) : m = 0 ↔ ∀ j, j < 10 → m.testBit j = false := by
  constructor
  · rintro rfl j _; exact Nat.zero_testBit j
  · intro q; exact nat_ext10 h (by decide) (fun j hj => by rw [q j hj, Nat.zero_testBit])
def oth (st : Nat → Nat) (s p : Nat) : Nat := clr (bits st s) p
theorem oth_lt (st : Nat → Nat) (s p : Nat) : oth st s p < 1024 := Nat.lt_of_le_of_lt (clr_le _ _) (bits_lt _ _)
theorem oth_0 (st : Nat → Nat) (s p : Nat) : oth st s p = 0 ↔ ∀ m, m < 10 → m ≠ p → st m ≠ s := by
  rw [z10 (oth_lt st s p)]
  unfold oth
  constructor
  · intro h m hm hne e
    have := h m hm
    rw [tb_clr (by have := bits_lt st s; omega), tb_bits] at this
    have hne' : ¬ p = m := fun q => hne q.symm
    simp [hm, e, hne'] at this
  · intro h m hm
    rw [tb_clr (by have := bits_lt st s; omega), tb_bits]
    by_cases e : p = m
    · simp [e]
    · have := h m hm (fun q => e q.symm)
      simp [this]
theorem rest_oth (st : Nat → Nat) (p : Nat) : rest st p = oth st 1 p := rfl
def mgB (st : Nat → Nat) (p : Nat) : Bool := decide (rest st p ≠ 0) || (List.range 10).all (fun m => decide (m = p ∨ st m = 0))
theorem mgB_iff {st : Nat → Nat} {p : Nat} : mgB st p = true ↔ mayGo st p := by
  unfold mgB mayGo
  rw [Bool.or_eq_true, decide_eq_true_eq, List.all_eq_true]
  simp only [List.mem_range, decide_eq_true_eq]
  constructor
  · rintro (h | h) q m hm hne
    · exact absurd q h
    · rcases h m hm with t | t
      · exact absurd t hne
      · exact t
  · intro h
    by_cases q : rest st p = 0
    · right
      intro m hm
      by_cases e : m = p
      · exact Or.inl e
      · exact Or.inr (h q m hm e)
    · exact Or.inl q
theorem mgB_no {st : Nat → Nat} (h2 : ∀ n, n < 10 → st n ≤ 2) {p : Nat} : mgB st p = false ↔ oth st 1 p = 0 ∧ oth st 2 p ≠ 0 := by
  rw [Bool.eq_false_iff]
  constructor
  · intro h
    have h1 : rest st p = 0 := Classical.byContradiction fun q => h (mgB_iff.mpr (fun t => absurd t q))
    refine ⟨h1, fun q => h (mgB_iff.mpr (fun _ m hm hne => ?_))⟩
    have a1 := (oth_0 st 1 p).mp h1 m hm hne
    have a2 := (oth_0 st 2 p).mp q m hm hne
    have := h2 m hm
    omega
  · rintro ⟨h1, h3⟩ h
    refine h3 ((oth_0 st 2 p).mpr (fun m hm hne => ?_))
    rw [mgB_iff.mp h h1 m hm hne]
    decide
theorem s_X1_refusalOfHanding {σ : St} {a p : Nat} {f : Nat → Int32} {Q : Int32 → Prop} (h : NetRep σ a f) (hf : RowOK f) (hp : p < 10) (hQ : Q (nI (if mgB (gst f) p then 0 else 6))) : wp_X1_refusalOfHanding σ a (nI p) Q := by
  have h2 : ∀ n, n < 10 → gst f n ≤ 2 := fun n hn => (hf.1 n hn).2
  unfold wp_X1_refusalOfHanding
  refine s_X1_nodesThatAre h.st h2 (by decide) (s_X1_nodesThatAre h.st h2 (by decide) ?_)
  have b1 := bits_lt (gst f) 1
  have b2 := bits_lt (gst f) 2
  have bo : bits (gst f) 1 ||| bits (gst f) 2 < 1024 := Nat.or_lt_two_pow (n := 10) b1 b2
  rw [n_or, n_clr (by omega)]
  intro x hx
  rw [hx]
  have hol : clr (bits (gst f) 1 ||| bits (gst f) 2) p < 1024 := Nat.lt_of_le_of_lt (clr_le _ _) bo
  have e0 : clr (bits (gst f) 1 ||| bits (gst f) 2) p = 0 ↔ oth (gst f) 1 p = 0 ∧ oth (gst f) 2 p = 0 := by
    rw [z10 hol, oth_0, oth_0]
    constructor
    · intro q
      have key : ∀ m, m < 10 → m ≠ p → gst f m ≠ 1 ∧ gst f m ≠ 2 := fun m hm hne => by
        have := q m hm
        rw [tb_clr (by omega), Nat.testBit_or, tb_bits, tb_bits] at this
        have hne' : ¬ p = m := fun q => hne q.symm
        refine ⟨fun e => ?_, fun e => ?_⟩
        · simp [hm, e, hne'] at this
        · simp [hm, e, hne'] at this
      exact ⟨fun m hm hne => (key m hm hne).1, fun m hm hne => (key m hm hne).2⟩
    · rintro ⟨q1, q2⟩ m hm
      rw [tb_clr (by omega), Nat.testBit_or, tb_bits, tb_bits]
      by_cases e : p = m
      · simp [e]
      · have c1 := q1 m hm (fun q => e q.symm)
        have c2 := q2 m hm (fun q => e q.symm)
        simp [c1, c2]
  have e1 : clr (bits (gst f) 1 ||| bits (gst f) 2) p &&& bits (gst f) 1 = oth (gst f) 1 p := by
    refine nat_ext10 (Nat.lt_of_le_of_lt Nat.and_le_left hol) (oth_lt _ _ _) (fun m hm => ?_)
    unfold oth
    rw [Nat.testBit_and, tb_clr (by omega), tb_clr (by omega), Nat.testBit_or]
    cases (bits (gst f) 1).testBit m <;> simp
  rw [n_eq0 (by omega), e0]
  refine ⟨fun c => ?_, fun c => s_X1_nodesThatAre h.st h2 (by decide) ?_⟩
  · rw [if_pos] at hQ
    · exact hQ
    · cases e : mgB (gst f) p with
      | true => rfl
      | false => exact absurd c.2 ((mgB_no h2).mp e).2
  · have hol1 := oth_lt (gst f) 1 p
    rw [n_and, e1, n_eq0 (by omega)]
    refine ⟨fun c2 => ?_, fun c2 => ?_⟩
    · rw [if_pos] at hQ
      · exact hQ
      · cases e : mgB (gst f) p with
        | true => rfl
        | false => exact absurd ((mgB_no h2).mp e).1 c2
    · rw [if_neg] at hQ
      · exact hQ
      · rw [(mgB_no h2).mpr ⟨c2, fun q => c ⟨c2, q⟩⟩]; decide
theorem s_X9_hasOther {σ : St} {p s : Nat} {f : Nat → Int32} {Q : Int32 → Prop} (hσ : σ 245 = f) (hf : RowOK f) (hp : p < 10) (hs : s ≤ 2) (h0 : oth (gst f) s p = 0 → Q (nI 0)) (h1 : oth (gst f) s p ≠ 0 → Q (nI 1)) : wp_X9_hasOther σ (nI p) (nI s) Q := by
  unfold wp_X9_hasOther
  refine s_X9_bitsOf (by rw [hσ]; exact hf) hs ?_
  have := oth_lt (gst f) s p
  rw [hσ, n_clr (by omega), show clr (bits (gst f) s) p = oth (gst f) s p from rfl, n_eq0 (by omega)]
  exact ⟨h0, h1⟩
theorem s_X9_leave0 {σ : St} {p : Nat} {f : Nat → Int32} {Q : Int32 → St → Prop} (hf : Good f) (hσ : σ 245 = f) (hp : p < 10)
    (h4 : gst f p ≠ 1 → Q (nI 4) σ) (h6 : gst f p = 1 → mgB (gst f) p = false → Q (nI 6) σ) (hQ : gst f p = 1 → mgB (gst f) p = true → ∀ τ, Mf σ τ → τ 245 = lrow f p → Q (nI 0) τ) : wp_X9_leave0 σ (nI p) Q := by
  have h2 : ∀ n, n < 10 → gst f n ≤ 2 := fun n hn => (hf.1.1 n hn).2
  have go : gst f p = 1 → mgB (gst f) p = true → wp_X9_leave0_32 σ (nI p) Q := fun e m => by
    unfold wp_X9_leave0_32
    exact s_X9_goesAway hf hσ hp (by omega) (mgB_iff.mp m) (hQ e m)
  unfold wp_X9_leave0
  refine s_X9_isState (by rw [hσ]; exact hf.1) hp (by decide) (fun e => ?_) (fun e => ?_)
  · rw [hσ] at e
    refine ⟨fun _ => s_X9_hasOther hσ hf.1 hp (by decide) (fun c => ?_) (fun c => ?_), fun t => absurd t (by decide)⟩
    · refine ⟨fun t => absurd rfl t, fun _ => s_X9_hasOther hσ hf.1 hp (by decide) (fun c2 => ?_) (fun c2 => ?_)⟩
      · refine ⟨fun _ => go e ?_, fun t => absurd rfl t⟩
        cases em : mgB (gst f) p with
        | true => rfl
        | false => exact absurd c2 ((mgB_no h2).mp em).2
      · exact ⟨fun t => absurd t (by decide), fun _ => h6 e ((mgB_no h2).mpr ⟨c, c2⟩)⟩
    · refine ⟨fun _ => go e ?_, fun t => absurd t (by decide)⟩
      cases em : mgB (gst f) p with
      | true => rfl
      | false => exact absurd ((mgB_no h2).mp em).1 c
  · rw [hσ] at e
    exact ⟨fun t => absurd rfl t, fun _ => h4 e⟩
theorem s_X9_notice0 {σ : St} {p : Nat} {f : Nat → Int32} {Q : Int32 → St → Prop} (hf : Good f) (hσ : σ 245 = f) (hp : p < 10)
    (h5 : gst f p ≠ 2 → Q (nI 5) σ) (h6 : gst f p = 2 → mgB (gst f) p = false → Q (nI 6) σ) (hQ : gst f p = 2 → mgB (gst f) p = true → ∀ τ, Mf σ τ → τ 245 = lrow f p → Q (nI 0) τ) : wp_X9_notice0 σ (nI p) Q := by
  have h2 : ∀ n, n < 10 → gst f n ≤ 2 := fun n hn => (hf.1.1 n hn).2
  have go : gst f p = 2 → mgB (gst f) p = true → wp_X9_notice0_31 σ (nI p) Q := fun e m => by
    unfold wp_X9_notice0_31
    exact s_X9_goesAway hf hσ hp (by omega) (mgB_iff.mp m) (hQ e m)
  unfold wp_X9_notice0
  refine s_X9_isState (by rw [hσ]; exact hf.1) hp (by decide) (fun e => ?_) (fun e => ?_)
  · rw [hσ] at e
    refine ⟨fun _ => s_X9_countOf (by rw [hσ]; exact hf.1) (by decide) ?_, fun t => absurd t (by decide)⟩
    have hc := cnt31 (gst f) 1
    have e1 : cntS (gst f) 1 10 = 0 ↔ oth (gst f) 1 p = 0 := by
      rw [oth_0, ← pc_bits _ _ 10 (by decide)]
      have hz : pc (bits (gst f) 1) 10 = 0 ↔ ∀ m, m < 10 → gst f m ≠ 1 := by
        have key : ∀ n, n ≤ 10 → (pc (bits (gst f) 1) n = 0 ↔ ∀ m, m < n → gst f m ≠ 1) := by
          intro n
          induction n with
          | zero => intro _; exact ⟨fun _ m hm => absurd hm (by omega), fun _ => rfl⟩
          | succ n ih =>
            intro hn
            unfold pc
            rw [tb_bits]
            have ih := ih (by omega)
            have hn' : n < 10 := by omega
            constructor
            · intro q m hm e
              rcases Nat.lt_or_ge m n with t | t
              · exact ih.mp (by omega) m t e
              · rw [show m = n by omega] at e
                simp [hn', e] at q
            · intro q
              have q1 := ih.mpr (fun m hm => q m (by omega))
              have q2 := q n (by omega)
              simp [q2, q1]
        exact key 10 (by decide)
      rw [hz]
      constructor
      · exact fun q m hm _ => q m hm
      · intro q m hm
        by_cases c : m = p
        · rw [c, e]; decide
        · exact q m hm c
    rw [hσ, n_eq0 (by omega), e1]
    refine ⟨fun c => go e ?_, fun c => s_X9_hasOther hσ hf.1 hp (by decide) (fun c2 => ?_) (fun c2 => ?_)⟩
    · cases em : mgB (gst f) p with
      | true => rfl
      | false => exact absurd ((mgB_no h2).mp em).1 c
    · refine ⟨fun _ => go e ?_, fun t => absurd rfl t⟩
      cases em : mgB (gst f) p with
      | true => rfl
      | false => exact absurd c2 ((mgB_no h2).mp em).2
    · exact ⟨fun t => absurd t (by decide), fun _ => h6 e ((mgB_no h2).mpr ⟨c, c2⟩)⟩
  · rw [hσ] at e
    exact ⟨fun t => absurd rfl t, fun _ => h5 e⟩
