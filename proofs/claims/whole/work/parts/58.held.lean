/-! KEYS: where they lie, and by whom they are held -/
def pnt (k r : Nat) : Nat := (k + 1) * (397 + 214 * r) % 1024
def ptc (k r : Nat) : Nat := cn (pnt k r % 32) (pnt k r / 32)
def kp (f : Nat → Int32) (k r : Nat) : Nat := gow f r (zat (gow f r) (ptc k r))
theorem pnt_lt (k r : Nat) : pnt k r < 1024 := Nat.mod_lt _ (by decide)
theorem pnt_y (k r : Nat) : pnt k r / 32 < 32 := by have := pnt_lt k r; omega
theorem ptc_lt (k r : Nat) : 1024 ≤ ptc k r ∧ ptc k r < 2048 := cn_lt (Nat.mod_lt _ (by decide)) (pnt_y k r)
theorem n_and1023 (a : Nat) : nI a &&& nI 1023 = nI (a % 1024) := by
  rw [n_and]
  congr 1
  exact Nat.and_two_pow_sub_one_eq_mod a 10
theorem s_X1_pointX {σ : St} {k r : Nat} {Q : Int32 → Prop} (hQ : Q (nI (pnt k r % 32))) : wp_X1_pointX σ (nI k) (nI r) Q := by
  unfold wp_X1_pointX wp_X1_pointOf
  rw [n_add, n_mul, n_add, n_mul, n_and1023]
  show Q (nI _ &&& nI 31)
  rw [n_and31]
  exact hQ
theorem s_X1_pointY {σ : St} {k r : Nat} {Q : Int32 → Prop} (hQ : Q (nI (pnt k r / 32))) : wp_X1_pointY σ (nI k) (nI r) Q := by
  unfold wp_X1_pointY wp_X1_pointOf
  rw [n_add, n_mul, n_add, n_mul, n_and1023]
  show Q (nI _ / nI 32)
  rw [n_div (by omega) (by decide) (by decide)]
  exact hQ
theorem pnt_b {k r : Nat} (hk : k < 100) (hr : r < 3) : (k + 1) * (397 + 214 * r) < 2 ^ 31 := by
  have h1 : (k + 1) * (397 + 214 * r) ≤ 100 * 1000 := Nat.mul_le_mul (by omega) (by omega)
  omega
theorem s_X9_pointX {σ : St} {k r : Nat} {Q : Int32 → Prop} (hk : k < 100) (hr : r < 3) (hQ : Q (nI (pnt k r % 32))) : wp_X9_pointX σ (nI k) (nI r) Q := by
  unfold wp_X9_pointX wp_X9_pointOf
  have := pnt_lt k r
  rw [n_add, n_mul, n_add, n_mul, n_rem (pnt_b hk hr) (by decide) (by decide), ← pnt]
  show Q (nI (pnt k r) - nI (pnt k r) / nI 32 * nI 32)
  rw [n_mod32 (by omega)]
  exact hQ
theorem s_X9_pointY {σ : St} {k r : Nat} {Q : Int32 → Prop} (hk : k < 100) (hr : r < 3) (hQ : Q (nI (pnt k r / 32))) : wp_X9_pointY σ (nI k) (nI r) Q := by
  unfold wp_X9_pointY wp_X9_pointOf
  have := pnt_lt k r
  rw [n_add, n_mul, n_add, n_mul, n_rem (pnt_b hk hr) (by decide) (by decide), ← pnt]
  show Q (nI (pnt k r) / nI 32)
  rw [n_div (by omega) (by decide) (by decide)]
  exact hQ
theorem s_X9_keeperOf {σ : St} {k r : Nat} {Q : Int32 → St → Prop} (hf : G0 (σ 245) r) (hr : r < gR (σ 245)) (hk : k < 100)
    (hQ : ∀ τ, Bx σ τ → Q (nI (kp (σ 245) k r) - nI 1) τ) : wp_X9_keeperOf σ (nI k) (nI r) Q := by
  have hR := hf.1.2.2.2.2.1.2.2
  unfold wp_X9_keeperOf
  refine s_X9_pointX hk (by omega) (s_X9_pointY hk (by omega) ?_)
  exact s_X9_nodeAt hf hr (Nat.mod_lt _ (by decide)) (pnt_y k r) hQ
theorem kp_le {f : Nat → Int32} {r : Nat} (h : OB (gow f r)) (k : Nat) : kp f k r ≤ 10 := h.1 _ (zat_lt (ptc_lt k r).2)
/-- the keeper of a key's point is up -/
def can (f : Nat → Int32) (k r : Nat) : Bool := decide (kp f k r ≠ 0 ∧ gst f (kp f k r - 1) = 1)
theorem s_X9_canHold {σ : St} {k r : Nat} {Q : Int32 → St → Prop} (hf : G0 (σ 245) r) (hr : r < gR (σ 245)) (hk : k < 100)
    (h1 : can (σ 245) k r = true → ∀ τ, Bx σ τ → Q (nI 1) τ) (h0 : can (σ 245) k r = false → ∀ τ, Bx σ τ → Q (nI 0) τ) : wp_X9_canHold σ (nI k) (nI r) Q := by
  have hkl := kp_le hf.2.1 k
  unfold wp_X9_canHold
  refine s_X9_keeperOf hf hr hk (fun τ hB => ?_)
  rw [nm_iff (by omega)]
  refine ⟨fun e => h0 (by unfold can; simp [e]) τ hB, fun e => ?_⟩
  rw [n_sub (by omega)]
  refine s_X9_isState (by rw [hB.m]; exact hf.1) (by omega) (by decide) (fun q => ?_) (fun q => ?_)
  · rw [hB.m] at q
    exact ⟨fun t => absurd t (by decide), fun _ => h1 (by unfold can; simp [e, q]) τ hB⟩
  · rw [hB.m] at q
    exact ⟨fun _ => h0 (by unfold can; simp [q]) τ hB, fun t => absurd rfl t⟩
theorem tb_hm (f : Nat → Int32) (k r : Nat) : (hm f k).testBit r = (decide (r < 3) && decide (ghd f r k = 1)) := by
  unfold hm
  rw [tb_bm]
  rfl
theorem hm_lt (f : Nat → Int32) (k : Nat) : hm f k < 8 := by
  unfold hm bm bm bm bm
  split <;> split <;> split <;> decide
theorem s_X9_isHeld {σ : St} {k r : Nat} {Q : Int32 → Prop} (hf : RowOK (σ 245)) (hr : r < 3) (hk : k < 100) (h1 : ghd (σ 245) r k = 1 → Q (nI 1)) (h0 : ghd (σ 245) r k ≠ 1 → Q (nI 0)) : wp_X9_isHeld σ (nI k) (nI r) Q := by
  have a1 := hf.2.2.2.2.2.1 k hk
  have a2 := hf.2.2.2.2.2.2.2.1 r hr k hk
  unfold wp_X9_isHeld
  simp (disch := omega) only [forall_eq, forall_eq', n_inT, n_cl, n_lt, n_le, n_eq, n_eq0, n_lt0, n_ge0, n_gt0, n_le0, n_em, n_me, n_add, n_mul, n_00, n_s01, n_1z, n_0z, Nat.one_ne_zero, eq_self, ne_eq, true_and, and_true, true_implies, false_implies, implies_true, not_true_eq_false, not_false_eq_true, false_and, and_false, or_false, false_or, or_true, true_or]
  rw [a1.1, a2.1, n_eq (by omega) (by decide), n_eq (by omega) (by decide)]
  refine ⟨fun q => h0 (fun t => ?_), fun _ => ⟨h0, h1⟩⟩
  have := a2.2.2.1 (by omega)
  omega
theorem s_X9_heldIn {σ : St} {k : Nat} {Q : Int32 → Prop} (hf : RowOK (σ 245)) (hk : k < 100) (hQ : Q (nI (hm (σ 245) k))) : wp_X9_heldIn σ (nI k) Q := by
  obtain ⟨hR1, hR0, hR⟩ := hf.2.2.2.2.1
  refine LP2_nat (gR (σ 245)) (fun i x y => x = nI (bm (fun r => ghd (σ 245) r k == 1) i) ∧ y = nI i) ?_ 0 _ _ (Nat.zero_le _) ⟨rfl, rfl⟩
  rintro ih i _ _ hi ⟨rfl, rfl⟩ hih
  unfold wp_X9_heldIn_4
  rw [hR1]
  simp (disch := omega) only [forall_eq, forall_eq', n_inT, n_cl, n_lt, n_le, n_eq, n_eq0, n_lt0, n_ge0, n_gt0, n_le0, n_em, n_me, n_add, n_mul, n_00, n_s01, n_1z, n_0z, Nat.one_ne_zero, eq_self, ne_eq, true_and, and_true, true_implies, false_implies, implies_true, not_true_eq_false, not_false_eq_true, false_and, and_false, or_false, false_or, or_true, true_or]
  refine ⟨fun q => ?_, fun q => s_X9_isHeld hf (by omega) hk (fun e => ?_) (fun e => ?_)⟩
  · have ei : i = gR (σ 245) := by omega
    have : bm (fun r => ghd (σ 245) r k == 1) i = hm (σ 245) k := by
      refine nat_ext10 ?_ (by have := hm_lt (σ 245) k; omega) (fun m hm' => ?_)
      · exact Nat.lt_of_lt_of_le (lt_of_tb (k := 3) (fun j hj => by rw [tb_bm]; simp; omega)) (by decide)
      · rw [tb_hm, tb_bm]
        by_cases c : m < i
        · rw [show decide (m < i) = true by simp [c], show decide (m < 3) = true by simp; omega]
          rfl
        · by_cases c3 : m < 3
          · have := (hf.2.2.2.2.2.2.2.1 m c3 k hk).2.2.2 (by omega)
            simp [c, this]
          · simp [c, c3]
    rw [this]; exact hQ
  · simp (disch := omega) only [n_one, n_or, Nat.or_zero, forall_eq, forall_eq', n_inT, n_cl, n_lt, n_le, n_eq, n_eq0, n_lt0, n_ge0, n_gt0, n_le0, n_em, n_me, n_add, n_mul, n_00, n_s01, n_1z, n_0z, Nat.one_ne_zero, eq_self, ne_eq, true_and, and_true, true_implies, false_implies, implies_true, not_true_eq_false, not_false_eq_true, false_and, and_false, or_false, false_or, or_true, true_or]
    exact hih _ _ (by omega) ⟨by simp [bm, e], rfl⟩
  · simp (disch := omega) only [n_one, n_or, Nat.or_zero, forall_eq, forall_eq', n_inT, n_cl, n_lt, n_le, n_eq, n_eq0, n_lt0, n_ge0, n_gt0, n_le0, n_em, n_me, n_add, n_mul, n_00, n_s01, n_1z, n_0z, Nat.one_ne_zero, eq_self, ne_eq, true_and, and_true, true_implies, false_implies, implies_true, not_true_eq_false, not_false_eq_true, false_and, and_false, or_false, false_or, or_true, true_or]
    exact hih _ _ (by omega) ⟨by simp [bm, e], rfl⟩
theorem s_X1_isHeld {σ : St} {a k r : Nat} {v : Nat} {Q : Int32 → Prop} (hv : σ (a + 8) k = nI v) (hl : v < 8) (hk : k < 100) (hr : r < 3) (h1 : v.testBit r = true → Q (nI 1)) (h0 : v.testBit r = false → Q (nI 0)) : wp_X1_isHeld σ a (nI k) (nI r) Q := by
  unfold wp_X1_isHeld
  simp (disch := omega) only [forall_eq, forall_eq', n_inT, n_cl, n_lt, n_le, n_eq, n_eq0, n_lt0, n_ge0, n_gt0, n_le0, n_em, n_me, n_add, n_mul, n_00, n_s01, n_1z, n_0z, Nat.one_ne_zero, eq_self, ne_eq, true_and, and_true, true_implies, false_implies, implies_true, not_true_eq_false, not_false_eq_true, false_and, and_false, or_false, false_or, or_true, true_or]
  rw [hv, n_bit0 (by omega) (by omega)]
  exact ⟨h0, fun q => h1 (by cases e : v.testBit r with | true => rfl | false => exact absurd e q)⟩
/-- the copies rewritten -/
def hrow (f : Nat → Int32) (h : Nat → Nat → Nat) : Nat → Int32 := fun j => if 238 ≤ j ∧ j < 538 then nI (h ((j - 238) / 100) ((j - 238) % 100)) else f j
theorem hrow_lo {f : Nat → Int32} {h : Nat → Nat → Nat} {j : Nat} (hj : j < 238 ∨ 538 ≤ j) : hrow f h j = f j := by unfold hrow; rw [if_neg (by omega)]
theorem hrow_at {f : Nat → Int32} {h : Nat → Nat → Nat} {r k : Nat} (hr : r < 3) (hk : k < 100) : hrow f h (238 + 100 * r + k) = nI (h r k) := by
  unfold hrow
  rw [if_pos (by omega), show (238 + 100 * r + k - 238) / 100 = r by omega, show (238 + 100 * r + k - 238) % 100 = k by omega]
theorem hrow_acc (f : Nat → Int32) (h : Nat → Nat → Nat) (hb : ∀ r k, r < 3 → k < 100 → h r k ≤ 1) : gst (hrow f h) = gst f ∧ gpx (hrow f h) = gpx f ∧ gpy (hrow f h) = gpy f ∧ gK (hrow f h) = gK f ∧ gR (hrow f h) = gR f ∧ gmx (hrow f h) = gmx f ∧ gmy (hrow f h) = gmy f ∧ gsd (hrow f h) = gsd f ∧ gva (hrow f h) = gva f ∧ (∀ r k, r < 3 → k < 100 → ghd (hrow f h) r k = h r k) ∧ gow (hrow f h) = gow f := by
  refine ⟨?_, ?_, ?_, ?_, ?_, ?_, ?_, ?_, ?_, fun r k hr hk => ?_, ?_⟩
  · funext n; unfold gst; split
    · rw [hrow_lo (by omega)]
    · rfl
  · funext n; unfold gpx; split
    · rw [hrow_lo (by omega)]
    · rfl
  · funext n; unfold gpy; split
    · rw [hrow_lo (by omega)]
    · rfl
  · unfold gK; rw [hrow_lo (by omega)]
  · unfold gR; rw [hrow_lo (by omega)]
  · funext n; unfold gmx; split
    · rw [hrow_lo (by omega)]
    · rfl
  · funext n; unfold gmy; split
    · rw [hrow_lo (by omega)]
    · rfl
  · funext n; unfold gsd; split
    · rw [hrow_lo (by omega)]
    · rfl
  · funext n; unfold gva; split
    · rw [hrow_lo (by omega)]
    · rfl
  · unfold ghd
    have := hb r k hr hk
    rw [if_pos ⟨hr, hk⟩, hrow_at hr hk, n_cl (by omega)]
  · funext r n; unfold gow; split
    · rw [hrow_lo (by omega)]
    · rfl
theorem hrow_ok {f : Nat → Int32} (hf : RowOK f) {h : Nat → Nat → Nat} (hb : ∀ r k, r < 3 → k < 100 → h r k ≤ 1) (h0 : ∀ r k, r < 3 → k < 100 → gsd f k = 0 → h r k = 0) (hR : ∀ r k, r < 3 → k < 100 → gR f ≤ r → h r k = 0) : RowOK (hrow f h) := by
  obtain ⟨e1, e2, e3, e4, e5, e6, e7, e8, e9, e10, e11⟩ := hrow_acc f h hb
  obtain ⟨h1, h2, h3, h4, h5, h6, h7, h8, h9⟩ := hf
  unfold RowOK
  rw [e1, e2, e3, e4, e5, e6, e7, e8, e9, e11]
  refine ⟨fun m hm => ?_, fun m hm q => ?_, ?_, fun i hi => ?_, ?_, fun k hk => ?_, fun k hk => ?_, fun r hr k hk => ?_, fun r hr z hz => ?_⟩
  · rw [hrow_lo (by omega)]; exact h1 m hm
  · rw [hrow_lo (by omega), hrow_lo (by omega)]; exact h2 m hm q
  · rw [hrow_lo (by omega)]; exact h3
  · have := h3.2
    rw [hrow_lo (by omega), hrow_lo (by omega)]; exact h4 i hi
  · rw [hrow_lo (by omega)]; exact h5
  · rw [hrow_lo (by omega)]; exact h6 k hk
  · rw [hrow_lo (by omega)]; exact h7 k hk
  · rw [e10 r k hr hk, hrow_at hr hk]
    exact ⟨rfl, hb r k hr hk, h0 r k hr hk, hR r k hr hk⟩
  · rw [hrow_lo (by omega)]; exact h9 r hr z hz
theorem hrow_self {f : Nat → Int32} (hf : RowOK f) : hrow f (ghd f) = f := by
  funext j
  unfold hrow
  by_cases c : 238 ≤ j ∧ j < 538
  · rw [if_pos c]
    have := (hf.2.2.2.2.2.2.2.1 ((j - 238) / 100) (by omega) ((j - 238) % 100) (Nat.mod_lt _ (by decide))).1
    rw [← this, show 238 + 100 * ((j - 238) / 100) + (j - 238) % 100 = j by omega]
  · rw [if_neg c]
theorem hrow_set (f : Nat → Int32) (h : Nat → Nat → Nat) {r k v : Nat} (hr : r < 3) (hk : k < 100) : upd (hrow f h) (238 + 100 * r + k) (nI v) = hrow f (fun r' k' => if r' = r ∧ k' = k then v else h r' k') := by
  funext j
  rw [upd_at]
  unfold hrow
  by_cases c : j = 238 + 100 * r + k
  · have e : (j - 238) / 100 = r ∧ (j - 238) % 100 = k := by omega
    rw [if_pos c, if_pos (by omega)]
    show nI v = nI (if _ then v else _)
    rw [if_pos e]
  · rw [if_neg c]
    by_cases c2 : 238 ≤ j ∧ j < 538
    · have e : ¬ ((j - 238) / 100 = r ∧ (j - 238) % 100 = k) := by omega
      rw [if_pos c2, if_pos c2]
      show nI _ = nI (if _ then v else _)
      rw [if_neg e]
    · rw [if_neg c2, if_neg c2]
theorem hrow_congr {f : Nat → Int32} {h g : Nat → Nat → Nat} (e : ∀ r k, r < 3 → k < 100 → h r k = g r k) : hrow f h = hrow f g := by
  funext j
  unfold hrow
  by_cases c : 238 ≤ j ∧ j < 538
  · rw [if_pos c, if_pos c, e _ _ (by omega) (Nat.mod_lt _ (by decide))]
  · rw [if_neg c, if_neg c]
