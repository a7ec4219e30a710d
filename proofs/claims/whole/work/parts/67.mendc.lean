/-! the class mends -/
theorem n_not {m k : Nat} (hm : m < 1024) (hk : k < 1024) : nI m &&& (nI k ^^^ (-1)) = nI (m &&& (k ^^^ 4294967295)) := by
  rw [n_m1, n_xor, n_and]
theorem tb_not {m k j : Nat} (hm : m < 1024) : (m &&& (k ^^^ 4294967295)).testBit j = (m.testBit j && !k.testBit j) := by
  rw [Nat.testBit_and, Nat.testBit_xor, tb_ones]
  by_cases hj : j < 32
  · simp [hj]
  · have : m.testBit j = false := Nat.testBit_lt_two_pow (Nat.lt_of_lt_of_le hm (by
      have : (2 : Nat) ^ 10 ≤ 2 ^ j := Nat.pow_le_pow_right (by decide) (by omega)
      omega))
    simp [this]
theorem lck_pc {f : Nat → Int32} (hR : gR f ≤ 3) {k : Nat} (h : hm f k ≠ 0) : lck f k (gR f) = pc (wth f k &&& (hm f k ^^^ 4294967295)) 10 := by
  have hw := wth_lt hR k
  have key : ∀ n, n ≤ gR f → pc (wth f k &&& (hm f k ^^^ 4294967295)) n = lck f k n := by
    intro n
    induction n with
    | zero => intro _; rfl
    | succ n ih =>
      intro hn
      unfold pc lck
      rw [ih (by omega), tb_not (by omega), tb_hm]
      unfold wth
      rw [tb_bm]
      have h3 : n < 3 := by omega
      have hg : n < gR f := by omega
      cases e : can f k n <;> by_cases d : ghd f n k = 1 <;> simp [h, h3, hg, d]
  have top : ∀ n, gR f ≤ n → pc (wth f k &&& (hm f k ^^^ 4294967295)) n = lck f k (gR f) := by
    intro n hn
    induction n with
    | zero => rw [← key _ (Nat.le_refl _), show gR f = 0 by omega]
    | succ n ih =>
      by_cases e : gR f = n + 1
      · rw [← e, key _ (Nat.le_refl _)]
      · unfold pc
        rw [ih (by omega), tb_not (by omega)]
        unfold wth
        rw [tb_bm]
        have : ¬ n < gR f := by omega
        simp [this]
  exact (top 10 (by omega)).symm
