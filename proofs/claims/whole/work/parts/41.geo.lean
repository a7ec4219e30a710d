/-! GEOMETRY: a zone number's depth, box, cells -/
def zd (k : Nat) : Nat := Nat.log2 k
def eob (s : Nat) : Nat :=
  let b := s &&& 341
  let b := (b ||| b / 2) &&& 307
  let b := (b ||| b / 4) &&& 271
  (b ||| b / 16) &&& 31
def zx (k : Nat) : Nat := eob (k * 2 ^ (10 - zd k) / 2)
def zy (k : Nat) : Nat := eob (k * 2 ^ (10 - zd k))
def zw (k : Nat) : Nat := 32 / 2 ^ ((zd k + 1) / 2)
def zh (k : Nat) : Nat := 32 / 2 ^ (zd k / 2)
def spN (x : Nat) : Nat := [0, 1, 4, 5, 16, 17, 20, 21, 64, 65, 68, 69, 80, 81, 84, 85, 256, 257, 260, 261, 272, 273, 276, 277, 320, 321, 324, 325, 336, 337, 340, 341].getD x 0
/-- the number of a cell -/
def cn (x y : Nat) : Nat := 1024 + 2 * spN x + spN y
/-- is a cell in a zone's box -/
def inb (k x y : Nat) : Prop := zx k ≤ x ∧ x < zx k + zw k ∧ zy k ≤ y ∧ y < zy k + zh k
theorem allR {n : Nat} {p : Nat → Bool} (h : (List.range n).all p = true) {k : Nat} (hk : k < n) : p k = true := List.all_eq_true.mp h k (List.mem_range.mpr hk)
theorem geo_rec : ∀ k, k < 2048 → 2 ≤ k → zd k = zd (k / 2) + 1 ∧ zx k = (if zd (k / 2) % 2 = 0 then zx (k / 2) + k % 2 * (zw (k / 2) / 2) else zx (k / 2)) ∧ zy k = (if zd (k / 2) % 2 = 0 then zy (k / 2) else zy (k / 2) + k % 2 * (zh (k / 2) / 2)) ∧
    zw k = (if zd (k / 2) % 2 = 0 then zw (k / 2) / 2 else zw (k / 2)) ∧ zh k = (if zd (k / 2) % 2 = 0 then zh (k / 2) else zh (k / 2) / 2) := by
  intro k h1 h2
  have h := allR (n := 2048) (p := fun k => decide (k < 2) || decide (zd k = zd (k / 2) + 1 ∧ zx k = (if zd (k / 2) % 2 = 0 then zx (k / 2) + k % 2 * (zw (k / 2) / 2) else zx (k / 2)) ∧ zy k = (if zd (k / 2) % 2 = 0 then zy (k / 2) else zy (k / 2) + k % 2 * (zh (k / 2) / 2)) ∧
    zw k = (if zd (k / 2) % 2 = 0 then zw (k / 2) / 2 else zw (k / 2)) ∧ zh k = (if zd (k / 2) % 2 = 0 then zh (k / 2) else zh (k / 2) / 2))) (by decide +kernel) h1
  simp only [Bool.or_eq_true, decide_eq_true_eq] at h
  rcases h with h | h
  · omega
  · exact h
theorem geo_box : ∀ k, k < 2048 → 1 ≤ k → 1 ≤ zw k ∧ 1 ≤ zh k ∧ zx k + zw k ≤ 32 ∧ zy k + zh k ≤ 32 ∧ zd k ≤ 10 ∧ zw k * zh k = 1024 / 2 ^ zd k := by
  intro k h1 h2
  have h := allR (n := 2048) (p := fun k => decide (k < 1) || decide (1 ≤ zw k ∧ 1 ≤ zh k ∧ zx k + zw k ≤ 32 ∧ zy k + zh k ≤ 32 ∧ zd k ≤ 10 ∧ zw k * zh k = 1024 / 2 ^ zd k)) (by decide +kernel) h1
  simp only [Bool.or_eq_true, decide_eq_true_eq] at h
  rcases h with h | h
  · omega
  · exact h
theorem zd_1 : zd 1 = 0 := by decide +kernel
theorem zx_1 : zx 1 = 0 := by decide +kernel
theorem zy_1 : zy 1 = 0 := by decide +kernel
theorem zw_1 : zw 1 = 32 := by decide +kernel
theorem zh_1 : zh 1 = 32 := by decide +kernel
theorem zd_lt {k n : Nat} (hk : 1 ≤ k) : zd k < n ↔ k < 2 ^ n := Nat.log2_lt (by omega)
theorem zd_le {k : Nat} (hk : k < 2048) (h1 : 1 ≤ k) : zd k ≤ 10 := (geo_box k hk h1).2.2.2.2.1
theorem zd_pow {k : Nat} (hk : 1 ≤ k) : 2 ^ zd k ≤ k ∧ k < 2 ^ (zd k + 1) := ⟨Nat.log2_self_le (by omega), (zd_lt hk).mp (Nat.lt_succ_self _)⟩
theorem zd_mono {a b : Nat} (ha : 1 ≤ a) (h : a ≤ b) : zd a ≤ zd b := by
  have h1 := zd_pow ha
  have h2 := zd_pow (k := b) (by omega)
  rcases Nat.lt_or_ge (zd b) (zd a) with q | q
  · exfalso
    have : 2 ^ (zd b + 1) ≤ 2 ^ zd a := Nat.pow_le_pow_right (by decide) q
    omega
  · exact q
theorem zd_eq {k d : Nat} (h1 : 2 ^ d ≤ k) (h2 : k < 2 ^ (d + 1)) : zd k = d := by
  have hk : 1 ≤ k := Nat.le_trans Nat.one_le_two_pow h1
  have h3 := (zd_lt hk).mpr h2
  rcases Nat.lt_or_ge (zd k) d with q | q
  · have := (zd_lt hk).mp q; omega
  · omega
theorem zd_dbl {k : Nat} (hk : 1 ≤ k) : zd (2 * k) = zd k + 1 ∧ zd (2 * k + 1) = zd k + 1 := by
  have h := zd_pow hk
  rw [Nat.pow_succ] at h
  exact ⟨zd_eq (by rw [Nat.pow_succ]; omega) (by rw [Nat.pow_succ, Nat.pow_succ]; omega), zd_eq (by rw [Nat.pow_succ]; omega) (by rw [Nat.pow_succ, Nat.pow_succ]; omega)⟩
theorem cn_in : ∀ x y d, x < 32 → y < 32 → d ≤ 10 → inb (cn x y / 2 ^ (10 - d)) x y ∧ zd (cn x y / 2 ^ (10 - d)) = d ∧ 1 ≤ cn x y / 2 ^ (10 - d) ∧ cn x y / 2 ^ (10 - d) < 2048 := by
  intro x y d hx hy hd
  have h := allR (n := 32) (p := fun x => (List.range 32).all fun y => (List.range 11).all fun d => let k := cn x y / 2 ^ (10 - d); decide (zx k ≤ x) && decide (x < zx k + zw k) && decide (zy k ≤ y) && decide (y < zy k + zh k) && decide (zd k = d) && decide (1 ≤ k) && decide (k < 2048)) (by decide +kernel) hx
  have h2 := allR (allR h hy) (show d < 11 by omega)
  simp only [Bool.and_eq_true, decide_eq_true_eq] at h2
  obtain ⟨⟨⟨⟨⟨⟨a1, a2⟩, a3⟩, a4⟩, a5⟩, a6⟩, a7⟩ := h2
  exact ⟨⟨a1, a2, a3, a4⟩, a5, a6, a7⟩
theorem in_cn : ∀ k x y, k < 2048 → 1 ≤ k → inb k x y → cn x y / 2 ^ (10 - zd k) = k := by
  intro k x y hk h1 ⟨a1, a2, a3, a4⟩
  have h := allR (n := 2048) (p := fun k => decide (k < 1) || (List.range (zw k)).all fun i => (List.range (zh k)).all fun j => decide (cn (zx k + i) (zy k + j) / 2 ^ (10 - zd k) = k)) (by decide +kernel) hk
  simp only [Bool.or_eq_true, decide_eq_true_eq] at h
  rcases h with h | h
  · omega
  · have h2 := allR (allR h (show x - zx k < zw k by omega)) (show y - zy k < zh k by omega)
    rw [decide_eq_true_eq, show zx k + (x - zx k) = x by omega, show zy k + (y - zy k) = y by omega] at h2
    exact h2
theorem cn_lt {x y : Nat} (hx : x < 32) (hy : y < 32) : 1024 ≤ cn x y ∧ cn x y < 2048 := by
  have h := cn_in x y 10 hx hy (Nat.le_refl _)
  rw [Nat.sub_self, Nat.pow_zero, Nat.div_one] at h
  exact ⟨by unfold cn; omega, h.2.2.2⟩
theorem inb_iff {k x y : Nat} (hk : k < 2048) (h1 : 1 ≤ k) (hx : x < 32) (hy : y < 32) : inb k x y ↔ cn x y / 2 ^ (10 - zd k) = k := by
  refine ⟨in_cn k x y hk h1, fun h => ?_⟩
  have h2 := (cn_in x y (zd k) hx hy (zd_le hk h1)).1
  rw [h] at h2
  exact h2
/-- each number of a cell is a cell's -/
theorem cn_onto : ∀ c, c < 2048 → 1024 ≤ c → ∃ x y, x < 32 ∧ y < 32 ∧ cn x y = c := by
  intro c hc h1
  have h2 := geo_box c hc (by omega)
  have h3 : zd c = 10 := zd_eq (by omega) (by omega)
  have h4 := in_cn c (zx c) (zy c) hc (by omega) ⟨Nat.le_refl _, by omega, Nat.le_refl _, by omega⟩
  rw [h3, Nat.sub_self, Nat.pow_zero, Nat.div_one] at h4
  exact ⟨zx c, zy c, by omega, by omega, h4⟩
/-! side by side -/
def touchN (a w b v : Nat) : Bool := decide ((a + w) % 32 = b) || decide ((b + v) % 32 = a)
def meetN (a w b v : Nat) : Bool := decide (a < b + v) && decide (b < a + w)
def adj (k z : Nat) : Bool := (touchN (zx k) (zw k) (zx z) (zw z) && meetN (zy k) (zh k) (zy z) (zh z)) || (touchN (zy k) (zh k) (zy z) (zh z) && meetN (zx k) (zw k) (zx z) (zw z))
/-- the cells along a zone's sides -/
def rim (k x y : Nat) : Prop := (∃ i, i < zw k ∧ x = zx k + i ∧ (y = (zy k + 31) % 32 ∨ y = (zy k + zh k) % 32)) ∨ (∃ i, i < zh k ∧ y = zy k + i ∧ (x = (zx k + 31) % 32 ∨ x = (zx k + zw k) % 32))
theorem adj_rim {k z : Nat} (hk : k < 2048) (h1 : 1 ≤ k) (hz : z < 2048) (h2 : 1 ≤ z) (hap : ∀ x y, inb k x y → ¬ inb z x y) : adj k z = true ↔ ∃ x y, x < 32 ∧ y < 32 ∧ rim k x y ∧ inb z x y := by
  obtain ⟨bw, bh, bx, by', -, -⟩ := geo_box k hk h1
  obtain ⟨cw, ch, cx, cy, -, -⟩ := geo_box z hz h2
  simp only [adj, touchN, meetN, Bool.or_eq_true, Bool.and_eq_true, decide_eq_true_eq]
  unfold inb at hap ⊢
  unfold rim
  generalize zx k = X at *
  generalize zy k = Y at *
  generalize zw k = W at *
  generalize zh k = H at *
  generalize zx z = A at *
  generalize zy z = B at *
  generalize zw z = V at *
  generalize zh z = U at *
  constructor
  · rintro (⟨ht, hm⟩ | ⟨ht, hm⟩)
    · rcases ht with ht | ht
      · exact ⟨A, max Y B, by omega, by omega, Or.inr ⟨max Y B - Y, by omega, by omega, Or.inr ht.symm⟩, by omega, by omega, by omega, by omega⟩
      · exact ⟨A + V - 1, max Y B, by omega, by omega, Or.inr ⟨max Y B - Y, by omega, by omega, Or.inl (by omega)⟩, by omega, by omega, by omega, by omega⟩
    · rcases ht with ht | ht
      · exact ⟨max X A, B, by omega, by omega, Or.inl ⟨max X A - X, by omega, by omega, Or.inr ht.symm⟩, by omega, by omega, by omega, by omega⟩
      · exact ⟨max X A, B + U - 1, by omega, by omega, Or.inl ⟨max X A - X, by omega, by omega, Or.inl (by omega)⟩, by omega, by omega, by omega, by omega⟩
  · rintro ⟨x, y, hx, hy, hr, q1, q2, q3, q4⟩
    rcases hr with ⟨i, hi, rfl, hr | hr⟩ | ⟨i, hi, rfl, hr | hr⟩
    · right
      refine ⟨Or.inr ?_, by omega⟩
      by_cases h0 : Y = 0
      · omega
      · rcases Nat.lt_or_ge Y (B + U) with q | q
        · exact absurd ⟨q1, q2, by omega, q⟩ (hap (X + i) Y ⟨by omega, by omega, Nat.le_refl _, by omega⟩)
        · omega
    · right
      refine ⟨Or.inl ?_, by omega⟩
      by_cases h0 : Y + H = 32
      · omega
      · rcases Nat.lt_or_ge B (Y + H) with q | q
        · exact absurd ⟨q1, q2, by omega, by omega⟩ (hap (X + i) (Y + H - 1) ⟨by omega, by omega, by omega, by omega⟩)
        · omega
    · left
      refine ⟨Or.inr ?_, by omega⟩
      by_cases h0 : X = 0
      · omega
      · rcases Nat.lt_or_ge X (A + V) with q | q
        · exact absurd ⟨by omega, q, q3, q4⟩ (hap X (Y + i) ⟨Nat.le_refl _, by omega, by omega, by omega⟩)
        · omega
    · left
      refine ⟨Or.inl ?_, by omega⟩
      by_cases h0 : X + W = 32
      · omega
      · rcases Nat.lt_or_ge A (X + W) with q | q
        · exact absurd ⟨by omega, by omega, q3, q4⟩ (hap (X + W - 1) (Y + i) ⟨by omega, by omega, by omega, by omega⟩)
        · omega
/-- steps from p to one of those from f on, m many, going round -/
def stp (p f m : Nat) : Nat := if f ≤ p ∧ p < f + m then 0 else min ((f + 32 - p) % 32) ((p + 65 - f - m) % 32)
