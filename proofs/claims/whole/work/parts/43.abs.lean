/-! THE STATE, read off the reference's row -/
def gst (f : Nat → Int32) (n : Nat) : Nat := if n < 10 then (f n).toNatClampNeg else 0
def gpx (f : Nat → Int32) (n : Nat) : Nat := if n < 10 then (f (10 + n)).toNatClampNeg else 0
def gpy (f : Nat → Int32) (n : Nat) : Nat := if n < 10 then (f (20 + n)).toNatClampNeg else 0
def gK (f : Nat → Int32) : Nat := (f 30).toNatClampNeg
def gmx (f : Nat → Int32) (i : Nat) : Nat := if i < 3 then (f (31 + i)).toNatClampNeg else 0
def gmy (f : Nat → Int32) (i : Nat) : Nat := if i < 3 then (f (34 + i)).toNatClampNeg else 0
def gR (f : Nat → Int32) : Nat := (f 37).toNatClampNeg
def gsd (f : Nat → Int32) (k : Nat) : Nat := if k < 100 then (f (38 + k)).toNatClampNeg else 0
def gva (f : Nat → Int32) (k : Nat) : Nat := if k < 100 then (f (138 + k)).toNatClampNeg else 0
def ghd (f : Nat → Int32) (r k : Nat) : Nat := if r < 3 ∧ k < 100 then (f (238 + 100 * r + k)).toNatClampNeg else 0
def gow (f : Nat → Int32) (r z : Nat) : Nat := if z < 2048 then (f (538 + 2048 * r + z)).toNatClampNeg else 0
theorem gow_hi {f : Nat → Int32} {r z : Nat} (h : 2048 ≤ z) : gow f r z = 0 := if_neg (by omega)
def RowOK (f : Nat → Int32) : Prop :=
  (∀ n, n < 10 → f n = nI (gst f n) ∧ gst f n ≤ 2) ∧
  (∀ n, n < 10 → gst f n ≠ 0 → (f (10 + n) = nI (gpx f n) ∧ gpx f n < 100) ∧ f (20 + n) = nI (gpy f n) ∧ gpy f n < 100) ∧
  (f 30 = nI (gK f) ∧ gK f ≤ 3) ∧ (∀ i, i < gK f → (f (31 + i) = nI (gmx f i) ∧ gmx f i < 100) ∧ f (34 + i) = nI (gmy f i) ∧ gmy f i < 100) ∧
  (f 37 = nI (gR f) ∧ 1 ≤ gR f ∧ gR f ≤ 3) ∧
  (∀ k, k < 100 → f (38 + k) = nI (gsd f k) ∧ gsd f k ≤ 1) ∧ (∀ k, k < 100 → gsd f k = 1 → f (138 + k) = nI (gva f k) ∧ gva f k < 1000) ∧
  (∀ r, r < 3 → ∀ k, k < 100 → f (238 + 100 * r + k) = nI (ghd f r k) ∧ ghd f r k ≤ 1 ∧ (gsd f k = 0 → ghd f r k = 0) ∧ (gR f ≤ r → ghd f r k = 0)) ∧
  (∀ r, r < gR f → ∀ z, z < 2048 → f (538 + 2048 * r + z) = nI (gow f r z))
/-- somebody is not away -/
def some1 (st : Nat → Nat) : Prop := ∃ n, n < 10 ∧ st n ≠ 0
def chain (o : Nat → Nat) : Prop := ∀ z j, z < 2048 → 1 ≤ j → o z ≠ 0 → o (z / 2 ^ j) = 0
def covers1 (o : Nat → Nat) : Prop := ∀ c, 1024 ≤ c → c < 2048 → ∃ d, d ≤ 10 ∧ o (c / 2 ^ d) ≠ 0
def OwnP (o st : Nat → Nat) : Prop := OB o ∧ (some1 st → covers1 o) ∧ chain o ∧ (∀ z n, z < 2048 → o z = n + 1 → st n ≠ 0)
def OwnOK (o st : Nat → Nat) : Prop := OwnP o st ∧ (∀ n, n < 10 → st n ≠ 0 → ∃ z, z < 2048 ∧ o z = n + 1)
def Good (f : Nat → Int32) : Prop := RowOK f ∧ ∀ r, r < gR f → OwnOK (gow f r) (gst f)
def G0 (f : Nat → Int32) (r : Nat) : Prop := RowOK f ∧ OwnP (gow f r) (gst f)
theorem Good.g0 {f : Nat → Int32} (h : Good f) {r : Nat} (hr : r < gR f) : G0 f r := ⟨h.1, (h.2 r hr).1⟩
theorem OwnP.none {o st : Nat → Nat} (h : OwnP o st) (hn : ¬ some1 st) {z : Nat} (hz : z < 2048) : o z = 0 := by
  cases e : o z with
  | zero => rfl
  | succ n => exact absurd ⟨n, by have := h.1.1 z hz; omega, h.2.2.2 z n hz e⟩ hn
/-! the zone of a cell -/
theorem zatF_or (o : Nat → Nat) (c : Nat) : ∀ d, (∃ i, i ≤ d ∧ zatF o c d = c / 2 ^ i ∧ o (c / 2 ^ i) ≠ 0) ∨ (zatF o c d = 0 ∧ ∀ i, i ≤ d → o (c / 2 ^ i) = 0)
  | 0 => by
    by_cases h : o c = 0
    · refine Or.inr ⟨by simp [zatF, h], fun i hi => ?_⟩
      rw [show i = 0 by omega, Nat.pow_zero, Nat.div_one]; exact h
    · exact Or.inl ⟨0, Nat.le_refl _, by simp [zatF, h], by simpa using h⟩
  | d + 1 => by
    by_cases h : o (c / 2 ^ (d + 1)) = 0
    · rcases zatF_or o c d with ⟨i, h1, h2, h3⟩ | ⟨h1, h2⟩
      · exact Or.inl ⟨i, by omega, by simp only [zatF]; rw [if_neg (by simpa using h)]; exact h2, h3⟩
      · refine Or.inr ⟨by simp only [zatF]; rw [if_neg (by simpa using h)]; exact h1, fun i hi => ?_⟩
        rcases Nat.lt_or_ge d i with q | q
        · rw [show i = d + 1 by omega]; exact h
        · exact h2 i q
    · exact Or.inl ⟨d + 1, Nat.le_refl _, by simp only [zatF]; rw [if_pos h], h⟩
theorem zat_some {o : Nat → Nat} (hc : covers1 o) {c : Nat} (h1 : 1024 ≤ c) (h2 : c < 2048) : ∃ i, i ≤ 10 ∧ zat o c = c / 2 ^ i ∧ o (c / 2 ^ i) ≠ 0 := by
  rcases zatF_or o c 10 with h | ⟨-, h⟩
  · exact h
  · obtain ⟨d, hd, hn⟩ := hc c h1 h2
    exact absurd (h d hd) hn
theorem shr_pos {c i : Nat} (h1 : 1024 ≤ c) (hi : i ≤ 10) : 1 ≤ c / 2 ^ i := (Nat.le_div_iff_mul_le (Nat.two_pow_pos i)).mpr (by
  have : 2 ^ i ≤ 2 ^ 10 := Nat.pow_le_pow_right (by decide) hi
  omega)
/-- an owned zone above a cell is the cell's -/
theorem zat_eq {o : Nat → Nat} (hc : chain o) {c i : Nat} (h1 : 1024 ≤ c) (h2 : c < 2048) (hi : i ≤ 10) (ho : o (c / 2 ^ i) ≠ 0) : zat o c = c / 2 ^ i := by
  rcases zatF_or o c 10 with ⟨d, hd, e, hn⟩ | ⟨-, h⟩
  · rw [zat, e]
    rcases Nat.lt_trichotomy d i with q | q | q
    · have := hc (c / 2 ^ d) (i - d) (shr_lt h2) (by omega) hn
      rw [Nat.div_div_eq_div_mul, ← Nat.pow_add, show d + (i - d) = i by omega] at this
      exact absurd this ho
    · rw [q]
    · have := hc (c / 2 ^ i) (d - i) (shr_lt h2) (by omega) ho
      rw [Nat.div_div_eq_div_mul, ← Nat.pow_add, show i + (d - i) = d by omega] at this
      exact absurd this hn
  · exact absurd (h i hi) ho
/-! what the reference may scribble on -/
def Bx (σ τ : St) : Prop := (∀ b, b ≠ 244 → τ b = σ b) ∧ ∀ j, j < 13 ∨ 16 < j → τ 244 j = σ 244 j
def Sc (σ τ : St) : Prop := (∀ b, b < 244 ∨ (244 < b ∧ b < 250) ∨ 257 < b → τ b = σ b) ∧ ∀ j, j < 13 → τ 244 j = σ 244 j
theorem Bx.rf (σ : St) : Bx σ σ := ⟨fun _ _ => rfl, fun _ _ => rfl⟩
theorem Bx.tr {σ τ ρ : St} (h1 : Bx σ τ) (h2 : Bx τ ρ) : Bx σ ρ := ⟨fun b hb => (h2.1 b hb).trans (h1.1 b hb), fun j hj => (h2.2 j hj).trans (h1.2 j hj)⟩
theorem Sc.rf (σ : St) : Sc σ σ := ⟨fun _ _ => rfl, fun _ _ => rfl⟩
theorem Sc.tr {σ τ ρ : St} (h1 : Sc σ τ) (h2 : Sc τ ρ) : Sc σ ρ := ⟨fun b hb => (h2.1 b hb).trans (h1.1 b hb), fun j hj => (h2.2 j hj).trans (h1.2 j hj)⟩
theorem Bx.sc {σ τ : St} (h : Bx σ τ) : Sc σ τ := ⟨fun b hb => h.1 b (by omega), fun j hj => h.2 j (Or.inl hj)⟩
theorem Bx.bxs (σ : St) (k : Nat) : Bx σ (bxs σ k) := ⟨fun b hb => sr_ne hb, fun j hj => by
  show sr σ 244 (bxr (σ 244) k) 244 j = _
  rw [sr_same]; simp only [bxr]; rw [if_neg (by omega), if_neg (by omega), if_neg (by omega), if_neg (by omega)]⟩
theorem Bx.m {σ τ : St} (h : Bx σ τ) : τ 245 = σ 245 := h.1 245 (by decide)
theorem Sc.m {σ τ : St} (h : Sc σ τ) : τ 245 = σ 245 := h.1 245 (by omega)
/-! the reference: reads -/
theorem s_X9_isState {σ : St} {n s : Nat} {Q : Int32 → Prop} (hf : RowOK (σ 245)) (hn : n < 10) (hs : s ≤ 2) (h1 : gst (σ 245) n = s → Q (nI 1)) (h0 : gst (σ 245) n ≠ s → Q (nI 0)) : wp_X9_isState σ (nI n) (nI s) Q := by
  have h := hf.1 n hn
  unfold wp_X9_isState
  simp (disch := omega) only [forall_eq, forall_eq', n_inT, n_cl, n_lt, n_le, n_eq, n_eq0, n_lt0, n_ge0, n_gt0, n_le0, n_em, n_me, n_add, n_mul, n_00, n_s01, n_1z, n_0z, Nat.one_ne_zero, eq_self, ne_eq, true_and, and_true, true_implies, false_implies, implies_true, not_true_eq_false, not_false_eq_true, false_and, and_false, or_false, false_or, or_true, true_or]
  rw [Nat.zero_add, h.1]
  simp (disch := omega) only [forall_eq, forall_eq', n_inT, n_cl, n_lt, n_le, n_eq, n_eq0, n_lt0, n_ge0, n_gt0, n_le0, n_em, n_me, n_add, n_mul, n_00, n_s01, n_1z, n_0z, Nat.one_ne_zero, eq_self, ne_eq, true_and, and_true, true_implies, false_implies, implies_true, not_true_eq_false, not_false_eq_true, false_and, and_false, or_false, false_or, or_true, true_or]
  exact ⟨h0, h1⟩
def bits (st : Nat → Nat) (s : Nat) : Nat := bm (fun n => st n == s) 10
def cntS (st : Nat → Nat) (s : Nat) : Nat → Nat
  | 0 => 0
  | n + 1 => cntS st s n + (if st n = s then 1 else 0)
theorem cntS_le (st : Nat → Nat) (s : Nat) : ∀ n, cntS st s n ≤ n
  | 0 => Nat.le_refl _
  | n + 1 => by unfold cntS; have := cntS_le st s n; split <;> omega
theorem cntS_all {st : Nat → Nat} {s : Nat} : ∀ n, cntS st s n = n ↔ ∀ j, j < n → st j = s
  | 0 => by simp [cntS]
  | n + 1 => by
    have h1 := cntS_le st s n
    have h2 := cntS_all (st := st) (s := s) n
    unfold cntS
    by_cases e : st n = s
    · rw [if_pos e]
      constructor
      · intro h j hj
        rcases Nat.lt_or_ge j n with q | q
        · exact h2.mp (by omega) j q
        · rw [show j = n by omega]; exact e
      · intro h
        have := h2.mpr (fun j hj => h j (by omega))
        omega
    · rw [if_neg e]
      constructor
      · intro h; omega
      · intro h; exact absurd (h n (by omega)) e
theorem cntS_some (st : Nat → Nat) : cntS st 0 10 = 10 ↔ ¬ some1 st := by
  rw [cntS_all]
  constructor
  · rintro h ⟨n, hn, h2⟩; exact h2 (h n hn)
  · intro h j hj
    exact Classical.byContradiction fun q => h ⟨j, hj, q⟩
theorem s_X9_countOf {σ : St} {s : Nat} {Q : Int32 → Prop} (hf : RowOK (σ 245)) (hs : s ≤ 2) (hQ : Q (nI (cntS (gst (σ 245)) s 10))) : wp_X9_countOf σ (nI s) Q := by
  refine LP2_nat 10 (fun i x y => x = nI (cntS (gst (σ 245)) s i) ∧ y = nI i) ?_ 0 _ _ (Nat.zero_le _) ⟨rfl, rfl⟩
  rintro ih i _ _ hi ⟨rfl, rfl⟩ hih
  unfold wp_X9_countOf_4
  simp (disch := omega) only [forall_eq, forall_eq', n_inT, n_cl, n_lt, n_le, n_eq, n_eq0, n_lt0, n_ge0, n_gt0, n_le0, n_em, n_me, n_add, n_mul, n_00, n_s01, n_1z, n_0z, Nat.one_ne_zero, eq_self, ne_eq, true_and, and_true, true_implies, false_implies, implies_true, not_true_eq_false, not_false_eq_true, false_and, and_false, or_false, false_or, or_true, true_or]
  refine ⟨fun h => by rw [show i = 10 by omega]; exact hQ, fun h => s_X9_isState hf (by omega) hs (fun e => ?_) (fun e => ?_)⟩
  · simp (disch := omega) only [forall_eq, forall_eq', n_inT, n_cl, n_lt, n_le, n_eq, n_eq0, n_lt0, n_ge0, n_gt0, n_le0, n_em, n_me, n_add, n_mul, n_00, n_s01, n_1z, n_0z, Nat.one_ne_zero, eq_self, ne_eq, true_and, and_true, true_implies, false_implies, implies_true, not_true_eq_false, not_false_eq_true, false_and, and_false, or_false, false_or, or_true, true_or]
    exact hih _ _ (by omega) ⟨by simp [cntS, e], rfl⟩
  · simp (disch := omega) only [forall_eq, forall_eq', n_inT, n_cl, n_lt, n_le, n_eq, n_eq0, n_lt0, n_ge0, n_gt0, n_le0, n_em, n_me, n_add, n_mul, n_00, n_s01, n_1z, n_0z, Nat.one_ne_zero, eq_self, ne_eq, true_and, and_true, true_implies, false_implies, implies_true, not_true_eq_false, not_false_eq_true, false_and, and_false, or_false, false_or, or_true, true_or]
    exact hih _ _ (by omega) ⟨by simp [cntS, e], rfl⟩
theorem s_X9_bitsOf {σ : St} {s : Nat} {Q : Int32 → Prop} (hf : RowOK (σ 245)) (hs : s ≤ 2) (hQ : Q (nI (bits (gst (σ 245)) s))) : wp_X9_bitsOf σ (nI s) Q := by
  refine LP2_nat 10 (fun i x y => x = nI (bm (fun n => gst (σ 245) n == s) i) ∧ y = nI i) ?_ 0 _ _ (Nat.zero_le _) ⟨rfl, rfl⟩
  rintro ih i _ _ hi ⟨rfl, rfl⟩ hih
  unfold wp_X9_bitsOf_4
  simp (disch := omega) only [forall_eq, forall_eq', n_inT, n_cl, n_lt, n_le, n_eq, n_eq0, n_lt0, n_ge0, n_gt0, n_le0, n_em, n_me, n_add, n_mul, n_00, n_s01, n_1z, n_0z, Nat.one_ne_zero, eq_self, ne_eq, true_and, and_true, true_implies, false_implies, implies_true, not_true_eq_false, not_false_eq_true, false_and, and_false, or_false, false_or, or_true, true_or]
  refine ⟨fun h => by rw [show i = 10 by omega]; exact hQ, fun h => s_X9_isState hf (by omega) hs (fun e => ?_) (fun e => ?_)⟩
  · simp (disch := omega) only [n_one, n_or, Nat.or_zero, forall_eq, forall_eq', n_inT, n_cl, n_lt, n_le, n_eq, n_eq0, n_lt0, n_ge0, n_gt0, n_le0, n_em, n_me, n_add, n_mul, n_00, n_s01, n_1z, n_0z, Nat.one_ne_zero, eq_self, ne_eq, true_and, and_true, true_implies, false_implies, implies_true, not_true_eq_false, not_false_eq_true, false_and, and_false, or_false, false_or, or_true, true_or]
    exact hih _ _ (by omega) ⟨by simp [bm, e], rfl⟩
  · simp (disch := omega) only [n_one, n_or, Nat.or_zero, forall_eq, forall_eq', n_inT, n_cl, n_lt, n_le, n_eq, n_eq0, n_lt0, n_ge0, n_gt0, n_le0, n_em, n_me, n_add, n_mul, n_00, n_s01, n_1z, n_0z, Nat.one_ne_zero, eq_self, ne_eq, true_and, and_true, true_implies, false_implies, implies_true, not_true_eq_false, not_false_eq_true, false_and, and_false, or_false, false_or, or_true, true_or]
    exact hih _ _ (by omega) ⟨by simp [bm, e], rfl⟩
theorem s_X9_ownerOf {σ : St} {r z : Nat} {Q : Int32 → Prop} (hf : RowOK (σ 245)) (hr : r < gR (σ 245)) (hz : z < 2048) (hQ : Q (nI (gow (σ 245) r z) - nI 1)) : wp_X9_ownerOf σ (nI r) (nI z) Q := by
  have hR := hf.2.2.2.2.1.2.2
  have h := hf.2.2.2.2.2.2.2.2 r hr z hz
  unfold wp_X9_ownerOf
  simp (disch := omega) only [forall_eq, forall_eq', n_inT, n_cl, n_lt, n_le, n_eq, n_eq0, n_lt0, n_ge0, n_gt0, n_le0, n_em, n_me, n_add, n_mul, n_00, n_s01, n_1z, n_0z, Nat.one_ne_zero, eq_self, ne_eq, true_and, and_true, true_implies, false_implies, implies_true, not_true_eq_false, not_false_eq_true, false_and, and_false, or_false, false_or, or_true, true_or]
  rw [h]
  exact hQ
/-- the node of an owner's number -/
theorem nm_0 {n : Nat} : nI n - nI 1 = (-1) ↔ n % 4294967296 = 0 := by
  rw [n_m1]
  constructor
  · intro h
    have h2 := congrArg (fun x => x + nI 1) h
    simp only [Int32.sub_add_cancel, n_add] at h2
    have h3 := congrArg (fun x : Int32 => x.toBitVec.toNat) h2
    simpa [n_bv] using h3
  · intro h
    have : nI n = nI 0 := by
      apply n_ext
      rw [n_bv, n_bv]
      apply BitVec.eq_of_toNat_eq
      simpa using h
    rw [this]; decide
theorem nm_iff {n : Nat} (h : n < 2 ^ 31) : nI n - nI 1 = (-1) ↔ n = 0 := by rw [nm_0, Nat.mod_eq_of_lt (by omega)]
theorem s_X9_halfWith {σ : St} {X Y i : Nat} {Q : Int32 → St → Prop} (hX : X < 32) (hY : Y < 32) (hi : i < 10) (hQ : Q (nI (cn X Y / 2 ^ (10 - (i + 1)))) (bxs σ (2 * (cn X Y / 2 ^ (10 - i))))) : wp_X9_halfWith σ (nI (cn X Y / 2 ^ (10 - i))) (nI X) (nI Y) Q := by
  obtain ⟨-, hzd, hp, hlt⟩ := cn_in X Y i hX hY (by omega)
  obtain ⟨-, hzd', -, hlt'⟩ := cn_in X Y (i + 1) hX hY (by omega)
  have hhalf : cn X Y / 2 ^ (10 - (i + 1)) / 2 = cn X Y / 2 ^ (10 - i) := by
    rw [Nat.div_div_eq_div_mul, ← Nat.pow_succ]; congr 2; omega
  generalize hz : cn X Y / 2 ^ (10 - i) = z at *
  generalize hz' : cn X Y / 2 ^ (10 - (i + 1)) = z' at *
  have hz2 : 2 * z < 2048 := by
    have : zd z < 10 := by omega
    have := (zd_lt (n := 10) hp).mp this
    omega
  obtain ⟨b1, b2, b3, b4, -, -⟩ := geo_box (2 * z) hz2 (by omega)
  have hin : inb (2 * z) X Y ↔ z' = 2 * z := by
    rw [inb_iff hz2 (by omega) hX hY, (zd_dbl hp).1, hzd, hz']
  unfold wp_X9_halfWith wp_X9_halfAt
  simp (disch := omega) only [forall_eq, forall_eq', n_inT, n_cl, n_lt, n_le, n_eq, n_eq0, n_lt0, n_ge0, n_gt0, n_le0, n_em, n_me, n_add, n_mul, n_00, n_s01, n_1z, n_0z, Nat.one_ne_zero, eq_self, ne_eq, true_and, and_true, true_implies, false_implies, implies_true, not_true_eq_false, not_false_eq_true, false_and, and_false, or_false, false_or, or_true, true_or]
  rw [Nat.add_zero]
  refine s_X9_boxes (by omega) hz2 ?_
  unfold wp_X9_isInBox
  have e13 : bxs σ (2 * z) 244 13 = nI (zx (2 * z)) := by simp [sr_same, bxr]
  have e14 : bxs σ (2 * z) 244 14 = nI (zy (2 * z)) := by simp [sr_same, bxr]
  have e15 : bxs σ (2 * z) 244 15 = nI (zw (2 * z)) := by simp [sr_same, bxr]
  have e16 : bxs σ (2 * z) 244 16 = nI (zh (2 * z)) := by simp [sr_same, bxr]
  rw [e13, e14, e15, e16, n_add, n_add, n_sub (by omega), n_sub (by omega)]
  refine s_X9_isInN (by omega) (by omega) (by omega) (fun hx => ?_) (fun hx => ?_)
  · refine ⟨fun h => absurd h (by decide), fun _ => s_X9_isInN (by omega) (by omega) (by omega) (fun hy => ?_) (fun hy => ?_)⟩
    · have e : z' = 2 * z := hin.mp ⟨hx.1, by omega, hy.1, by omega⟩
      rw [e] at hQ
      exact ⟨fun h => absurd h (by decide), fun _ => ⟨fun h => absurd h (by decide), fun _ => hQ⟩⟩
    · have e : ¬ z' = 2 * z := fun q => hy (by have := hin.mpr q; unfold inb at this; omega)
      rw [show z' = 2 * z + 1 by omega] at hQ
      exact ⟨fun _ => ⟨fun _ => hQ, fun h => absurd rfl h⟩, fun h => absurd rfl h⟩
  · have e : ¬ z' = 2 * z := fun q => hx (by have := hin.mpr q; unfold inb at this; omega)
    rw [show z' = 2 * z + 1 by omega] at hQ
    exact ⟨fun _ => ⟨fun _ => hQ, fun h => absurd rfl h⟩, fun h => absurd rfl h⟩
theorem s_X9_zoneAt {σ : St} {r X Y : Nat} {Q : Int32 → St → Prop} (hf : G0 (σ 245) r) (hr : r < gR (σ 245)) (hX : X < 32) (hY : Y < 32)
    (h0 : ¬ some1 (gst (σ 245)) → Q (-1) σ) (h1 : some1 (gst (σ 245)) → ∀ τ, Bx σ τ → Q (nI (zat (gow (σ 245) r) (cn X Y))) τ) : wp_X9_zoneAt σ (nI r) (nI X) (nI Y) Q := by
  unfold wp_X9_zoneAt
  refine s_X9_countOf hf.1 (by decide) ?_
  have hcl := cntS_le (gst (σ 245)) 0 10
  simp (disch := omega) only [forall_eq, forall_eq', n_inT, n_cl, n_lt, n_le, n_eq, n_eq0, n_lt0, n_ge0, n_gt0, n_le0, n_em, n_me, n_add, n_mul, n_00, n_s01, n_1z, n_0z, Nat.one_ne_zero, eq_self, ne_eq, true_and, and_true, true_implies, false_implies, implies_true, not_true_eq_false, not_false_eq_true, false_and, and_false, or_false, false_or, or_true, true_or]
  rw [cntS_some]
  refine ⟨fun h => ?_, h0⟩
  have hs : some1 (gst (σ 245)) := Classical.not_not.mp h
  have hown := hf.2
  obtain ⟨hc1, hc2⟩ := cn_lt hX hY
  have hcov := hown.2.1 hs
  generalize hc : cn X Y = c at *
  generalize ho : gow (σ 245) r = o at *
  have e0 : nI 1 = nI (c / 2 ^ (10 - 0)) := by
    congr 1
    rw [Nat.div_eq_of_lt_le (k := 1)] <;> omega
  rw [e0]
  refine LP2_nat 10 (fun i τ x => Bx σ τ ∧ x = nI (c / 2 ^ (10 - i)) ∧ ∀ j, j < i → o (c / 2 ^ (10 - j)) = 0) ?_ 0 _ _ (Nat.zero_le _) ⟨Bx.rf σ, rfl, fun j hj => absurd hj (by omega)⟩
  rintro ih i τ _ hi ⟨hB, rfl, hz⟩ hih
  have hsl : c / 2 ^ (10 - i) < 2048 := shr_lt hc2
  have hob := hown.1.1 _ hsl
  unfold wp_X9_zoneAt_15
  refine s_X9_ownerOf (by rw [hB.m]; exact hf.1) (by rw [hB.m]; exact hr) hsl ?_
  rw [hB.m, ho, nm_iff (by omega)]
  refine ⟨fun h => ?_, fun h => ?_⟩
  · rw [← zat_eq hown.2.2.1 hc1 hc2 (by omega) h]
    exact h1 hs τ hB
  · rcases Nat.lt_or_ge i 10 with q | q
    · rw [← hc]
      refine s_X9_halfWith hX hY q ?_
      rw [hc]
      refine hih _ _ q ⟨hB.tr (Bx.bxs τ _), rfl, fun j hj => ?_⟩
      rcases Nat.lt_or_ge j i with q2 | q2
      · exact hz j q2
      · rw [show j = i by omega]; exact h
    · exfalso
      obtain ⟨d, hd, hn⟩ := hcov c hc1 hc2
      rcases Nat.lt_or_ge (10 - d) i with q2 | q2
      · have := hz (10 - d) q2
        rw [show 10 - (10 - d) = d by omega] at this
        exact hn this
      · rw [show 10 - i = d by omega] at h
        exact hn h
theorem s_X9_nodeAt {σ : St} {r X Y : Nat} {Q : Int32 → St → Prop} (hf : G0 (σ 245) r) (hr : r < gR (σ 245)) (hX : X < 32) (hY : Y < 32)
    (hQ : ∀ τ, Bx σ τ → Q (nI (gow (σ 245) r (zat (gow (σ 245) r) (cn X Y))) - nI 1) τ) : wp_X9_nodeAt σ (nI r) (nI X) (nI Y) Q := by
  have hzl : zat (gow (σ 245) r) (cn X Y) < 2048 := zatF_lt (cn_lt hX hY).2 10
  unfold wp_X9_nodeAt
  refine s_X9_zoneAt hf hr hX hY (fun hn => ?_) (fun hs τ hB => ?_)
  · refine ⟨fun h => absurd rfl h, fun _ => ?_⟩
    have := hQ σ (Bx.rf σ)
    rw [hf.2.none hn hzl, n_s01] at this
    exact this
  · refine ⟨fun _ => s_X9_ownerOf (by rw [hB.m]; exact hf.1) (by rw [hB.m]; exact hr) hzl (by rw [hB.m]; exact hQ τ hB), fun h => ?_⟩
    exact absurd h (by rw [n_em (by omega)]; exact not_false)
