/-! KEYS: mended -/
def mdh (f : Nat → Int32) (r k : Nat) : Nat := if hm f k ≠ 0 ∧ r < gR f ∧ can f k r = true then 1 else ghd f r k
def mrow (f : Nat → Int32) : Nat → Int32 := hrow f (mdh f)
theorem hm_sd {f : Nat → Int32} (hf : RowOK f) {k : Nat} (hk : k < 100) (h : hm f k ≠ 0) : gsd f k = 1 := by
  have h6 := (hf.2.2.2.2.2.1 k hk).2
  rcases Nat.lt_or_ge (gsd f k) 1 with q | q
  · exfalso
    refine h (nat_ext10 (by have := hm_lt f k; omega) (by decide) (fun r _ => ?_))
    rw [tb_hm, Nat.zero_testBit]
    by_cases c : r < 3
    · rw [(ghd_ok hf c hk).2.1 (by omega)]; simp
    · simp [c]
  · omega
theorem mdh_ok {f : Nat → Int32} (hf : RowOK f) {r k : Nat} (hr : r < 3) (hk : k < 100) : mdh f r k ≤ 1 ∧ (gsd f k = 0 → mdh f r k = 0) ∧ (gR f ≤ r → mdh f r k = 0) := by
  have h := ghd_ok hf hr hk
  unfold mdh
  split
  · rename_i q
    refine ⟨by omega, fun t => ?_, fun t => by omega⟩
    have := hm_sd hf hk q.1
    omega
  · exact h
theorem mrow_good {f : Nat → Int32} (hf : Good f) : Good (mrow f) := by
  obtain ⟨z1, z2, z3, z4, z5, z6, z7, z8, z9, z10, z11⟩ := hrow_acc f (mdh f) (fun r k a b => (mdh_ok hf.1 a b).1)
  refine ⟨hG_ok hf.1 (fun r k a b => mdh_ok hf.1 a b), fun r hr => ?_⟩
  unfold mrow at *
  rw [z5] at hr
  rw [z11, z1]
  exact hf.2 r hr
/-- how many copies a key lacks, of the first n realities -/
def lck (f : Nat → Int32) (k : Nat) : Nat → Nat
  | 0 => 0
  | n + 1 => lck f k n + (if hm f k ≠ 0 ∧ ghd f n k ≠ 1 ∧ can f k n = true then 1 else 0)
theorem lck_le (f : Nat → Int32) (k : Nat) : ∀ n, lck f k n ≤ n
  | 0 => Nat.le_refl _
  | n + 1 => by
    have := lck_le f k n
    unfold lck
    split <;> omega
def lckA (f : Nat → Int32) : Nat → Nat
  | 0 => 0
  | k + 1 => lckA f k + lck f k (gR f)
