/-! numbers: Int32 by Nat -/
theorem n_bv (a : Nat) : (nI a).toBitVec = BitVec.ofNat 32 a := rfl
theorem n_ext {x y : Int32} (h : x.toBitVec = y.toBitVec) : x = y := Int32.toBitVec_inj.mp h
theorem n_and (a b : Nat) : nI a &&& nI b = nI (a &&& b) := by
  apply n_ext
  show BitVec.ofNat 32 a &&& BitVec.ofNat 32 b = BitVec.ofNat 32 (a &&& b)
  apply BitVec.eq_of_toNat_eq
  simp only [BitVec.toNat_and, BitVec.toNat_ofNat]
  apply Nat.eq_of_testBit_eq
  intro i
  simp only [Nat.testBit_and, Nat.testBit_mod_two_pow]
  cases decide (i < 32) <;> simp
theorem n_or (a b : Nat) : nI a ||| nI b = nI (a ||| b) := by
  apply n_ext
  show BitVec.ofNat 32 a ||| BitVec.ofNat 32 b = BitVec.ofNat 32 (a ||| b)
  apply BitVec.eq_of_toNat_eq
  simp only [BitVec.toNat_or, BitVec.toNat_ofNat]
  apply Nat.eq_of_testBit_eq
  intro i
  simp only [Nat.testBit_or, Nat.testBit_mod_two_pow]
  cases decide (i < 32) <;> simp
theorem n_xor (a b : Nat) : nI a ^^^ nI b = nI (a ^^^ b) := by
  apply n_ext
  show BitVec.ofNat 32 a ^^^ BitVec.ofNat 32 b = BitVec.ofNat 32 (a ^^^ b)
  apply BitVec.eq_of_toNat_eq
  simp only [BitVec.toNat_xor, BitVec.toNat_ofNat]
  apply Nat.eq_of_testBit_eq
  intro i
  simp only [Nat.testBit_xor, Nat.testBit_mod_two_pow]
  cases decide (i < 32) <;> simp
theorem n_sl : ∀ n, n < 32 → ((nI n &&& 31).toBitVec.smod 32).toNat = n := by decide +kernel
theorem n_shl {a b : Nat} (hb : b < 32) (h : a * 2 ^ b < 2 ^ 32) : nI a <<< (nI b &&& 31) = nI (a * 2 ^ b) := pk_shlN _ b (n_sl b hb) h
theorem n_shr {a b : Nat} (ha : a < 2 ^ 31) (hb : b < 32) : nI a >>> (nI b &&& 31) = nI (a / 2 ^ b) := pk_shrN ha _ b (n_sl b hb)
theorem n_m1 : (-1 : Int32) = nI 4294967295 := by decide
theorem n_in {k n : Nat} (h : k < n) (hn : n < 2 ^ 31) : vp_in (nI k) n := vp_in_nI h hn
theorem n_inT {k n : Nat} (h : k < n) (hn : n < 2 ^ 31) : vp_in (nI k) n ↔ True := iff_true_intro (vp_in_nI h hn)
theorem n_cl {k : Nat} (h : k < 2 ^ 31) : Int32.toNatClampNeg (nI k) = k := nI_clamp h
theorem n_lt {a b : Nat} (ha : a < 2 ^ 31) (hb : b < 2 ^ 31) : nI a < nI b ↔ a < b := nI_ltI ha hb
theorem n_le {a b : Nat} (ha : a < 2 ^ 31) (hb : b < 2 ^ 31) : nI a ≤ nI b ↔ a ≤ b := nI_leI ha hb
theorem n_eq {a b : Nat} (ha : a < 2 ^ 31) (hb : b < 2 ^ 31) : nI a = nI b ↔ a = b := nI_eq ha hb
theorem n_eq0 {a : Nat} (ha : a < 2 ^ 31) : nI a = 0 ↔ a = 0 := by rw [← nI_0]; exact nI_eq ha (by decide)
theorem n_lt0 {a : Nat} (ha : a < 2 ^ 31) : nI a < 0 ↔ False := iff_false_intro (nI_pos ha)
theorem n_ge0 {a : Nat} (ha : a < 2 ^ 31) : 0 ≤ nI a ↔ True := iff_true_intro (nI_pos' ha)
theorem n_gt0 {a : Nat} (ha : a < 2 ^ 31) : 0 < nI a ↔ 0 < a := by rw [← nI_0]; exact nI_ltI (by decide) ha
theorem n_le0 {a : Nat} (ha : a < 2 ^ 31) : nI a ≤ 0 ↔ a = 0 := by rw [← nI_0, nI_leI ha (by decide)]; omega
theorem n_em {a : Nat} (ha : a < 2 ^ 31) : nI a = (-1) ↔ False := by
  refine iff_false_intro fun h => ?_
  have h1 := nI_toInt ha
  rw [h] at h1
  have h2 : (-1 : Int32).toInt = -1 := by decide
  omega
theorem n_me {a : Nat} (ha : a < 2 ^ 31) : (-1) = nI a ↔ False := by rw [eq_comm]; exact n_em ha
theorem n_add (a b : Nat) : nI a + nI b = nI (a + b) := nI_add a b
theorem n_sub {a b : Nat} (h : b ≤ a) : nI a - nI b = nI (a - b) := pk_sub h
theorem n_mul (a b : Nat) : nI a * nI b = nI (a * b) := pk_mul a b
theorem n_div {a d : Nat} (ha : a < 2 ^ 31) (h0 : 0 < d) (hd : d < 2 ^ 31) : nI a / nI d = nI (a / d) := pk_div ha h0 hd
theorem n_rem {a d : Nat} (ha : a < 2 ^ 31) (h0 : 0 < d) (hd : d < 2 ^ 31) : nI a - nI a / nI d * nI d = nI (a % d) := pk_rem ha h0 hd
theorem n_dec {a : Nat} (h : 0 < a) : nI a + (-1) = nI (a - 1) := by
  obtain ⟨b, rfl⟩ : ∃ b, a = b + 1 := ⟨a - 1, by omega⟩
  exact pk_m1 b
theorem n_00 : nI 0 + (-1) = -1 := by decide
theorem n_s01 : nI 0 - nI 1 = -1 := by decide
theorem n_m1a : (-1 : Int32) + nI 1 = nI 0 := by decide
theorem n_ltm1 : (-1 : Int32) < 0 := by decide
theorem n_max {a b : Nat} (ha : a < 2 ^ 31) (hb : b < 2 ^ 31) : imax (nI a) (nI b) = nI (max a b) := by
  unfold imax
  by_cases h : a < b
  · rw [if_pos (nI_lt h hb), Nat.max_eq_right (by omega)]
  · rw [if_neg (nI_nlt (by omega) ha), Nat.max_eq_left (by omega)]
theorem n_min {a b : Nat} (ha : a < 2 ^ 31) (hb : b < 2 ^ 31) : imin (nI a) (nI b) = nI (min a b) := by
  unfold imin
  by_cases h : b < a
  · rw [if_pos (nI_lt h ha), Nat.min_eq_right (by omega)]
  · rw [if_neg (nI_nlt (by omega) hb), Nat.min_eq_left (by omega)]
/-- a set without a member -/
def clr (m k : Nat) : Nat := m &&& (2 ^ k ^^^ 4294967295)
theorem n_clr {m k : Nat} (hk : k < 32) : nI m &&& ((nI 1 <<< (nI k &&& 31)) ^^^ (-1)) = nI (clr m k) := by
  rw [n_shl hk (by rw [Nat.one_mul]; exact Nat.pow_lt_pow_right (by decide) hk), Nat.one_mul, n_m1, n_xor, n_and, clr]
theorem n_one {k : Nat} (hk : k < 32) : nI 1 <<< (nI k &&& 31) = nI (2 ^ k) := by
  rw [n_shl hk (by rw [Nat.one_mul]; exact Nat.pow_lt_pow_right (by decide) hk), Nat.one_mul]
theorem tb_ones (j : Nat) : (4294967295 : Nat).testBit j = decide (j < 32) := by
  have h := Nat.testBit_two_pow_sub_one 32 j
  exact h
theorem tb_clr {m k j : Nat} (hm : m < 2 ^ 32) : (clr m k).testBit j = (m.testBit j && !decide (k = j)) := by
  unfold clr
  rw [Nat.testBit_and, Nat.testBit_xor, Nat.testBit_two_pow, tb_ones]
  by_cases hj : j < 32
  · by_cases hkj : k = j <;> simp [hj, hkj]
  · rw [Nat.testBit_lt_two_pow (Nat.lt_of_lt_of_le hm (Nat.pow_le_pow_right (by decide) (by omega)))]
    simp
theorem clr_le (m k : Nat) : clr m k ≤ m := Nat.and_le_left
/-- the bit k of a number -/
theorem n_bit {m k : Nat} (hm : m < 2 ^ 31) (hk : k < 32) : (nI m >>> (nI k &&& 31)) &&& nI 1 = nI (if m.testBit k then 1 else 0) := by
  rw [n_shr hm hk, n_and, Nat.and_one_is_mod]
  congr 1
  rw [Nat.testBit_eq_decide_div_mod_eq]
  have h := Nat.mod_two_eq_zero_or_one (m / 2 ^ k)
  rcases h with h | h <;> simp [h]
theorem n_bit0 {m k : Nat} (hm : m < 2 ^ 31) (hk : k < 32) : (nI m >>> (nI k &&& 31)) &&& nI 1 = 0 ↔ m.testBit k = false := by
  rw [n_bit hm hk]
  cases m.testBit k <;> decide
theorem n_bit1 {m k : Nat} (hm : m < 2 ^ 31) (hk : k < 32) : (nI m >>> (nI k &&& 31)) &&& nI 1 = nI 1 ↔ m.testBit k = true := by
  rw [n_bit hm hk]
  cases m.testBit k <;> decide
theorem lt_of_tb {n k : Nat} (h : ∀ j, k ≤ j → n.testBit j = false) : n < 2 ^ k := by
  apply Nat.lt_pow_two_of_testBit
  exact h
/-- the set of those below n that have p -/
def bm (p : Nat → Bool) : Nat → Nat
  | 0 => 0
  | n + 1 => if p n then bm p n ||| 2 ^ n else bm p n
theorem tb_bm (p : Nat → Bool) : ∀ n j, (bm p n).testBit j = (decide (j < n) && p j)
  | 0, j => by simp [bm]
  | n + 1, j => by
    unfold bm
    by_cases hp : p n
    · rw [if_pos hp, Nat.testBit_or, tb_bm p n j, Nat.testBit_two_pow]
      by_cases h1 : j = n
      · subst h1; simp [hp]
      · by_cases h2 : j < n
        · simp [h2, show j < n + 1 by omega, show n ≠ j by omega]
        · simp [h2, show ¬ j < n + 1 by omega, show n ≠ j by omega]
    · rw [if_neg hp, tb_bm p n j]
      by_cases h1 : j = n
      · subst h1; simp [hp]
      · by_cases h2 : j < n
        · simp [h2, show j < n + 1 by omega]
        · simp [h2, show ¬ j < n + 1 by omega]
theorem bm_lt (p : Nat → Bool) (n : Nat) : bm p n < 2 ^ n := lt_of_tb (fun j hj => by rw [tb_bm]; simp [show ¬ j < n by omega])
theorem bm_congr {p q : Nat → Bool} : ∀ n, (∀ j, j < n → p j = q j) → bm p n = bm q n
  | 0, _ => rfl
  | n + 1, h => by unfold bm; rw [h n (by omega), bm_congr n (fun j hj => h j (by omega))]
theorem bm_1024 (p : Nat → Bool) : bm p 10 < 1024 := bm_lt p 10
