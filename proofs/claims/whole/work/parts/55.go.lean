/-! A NODE GOES AWAY -/
def rest (st : Nat → Nat) (p : Nat) : Nat := clr (bits st 1) p
theorem rest_lt (st : Nat → Nat) (p : Nat) : rest st p < 1024 := Nat.lt_of_le_of_lt (clr_le _ _) (bits_lt _ _)
theorem tb_bits (st : Nat → Nat) (s m : Nat) : (bits st s).testBit m = (decide (m < 10) && decide (st m = s)) := by
  unfold bits
  rw [tb_bm]
  rfl
theorem tb_rest (st : Nat → Nat) (p m : Nat) : (rest st p).testBit m = (decide (m < 10) && decide (st m = 1) && !decide (p = m)) := by
  unfold rest
  rw [tb_clr (by have := bits_lt st 1; omega), tb_bits]
theorem rest_p (st : Nat → Nat) (p : Nat) : (rest st p).testBit p = false := by rw [tb_rest]; simp
theorem rest_on {st : Nat → Nat} {p m : Nat} (h : (rest st p).testBit m = true) : m < 10 ∧ st m = 1 ∧ m ≠ p := by
  rw [tb_rest] at h
  simp only [Bool.and_eq_true, decide_eq_true_eq, Bool.not_eq_true', decide_eq_false_iff_not] at h
  exact ⟨h.1.1, h.1.2, fun q => h.2 q.symm⟩
theorem bits_set {st : Nat → Nat} {p v : Nat} (hv : v ≠ 1) : bits (setO st p v) 1 = rest st p := by
  refine nat_ext10 (bits_lt _ _) (rest_lt _ _) (fun m hm => ?_)
  rw [tb_bits, tb_rest]
  by_cases e : m = p
  · rw [e, setO_same]
    simp [hv]
  · rw [setO_ne e]
    have e2 : ¬ p = m := fun q => e q.symm
    simp [e2]
theorem s_J7_fill {σ : St} {a n : Nat} {v : Int32} {Q : St → Prop} (hn : n < 2 ^ 31) (hQ : ∀ τ, (∀ b, b ≠ a → τ b = σ b) → (∀ j, j < n → τ a j = v) → Q τ) : wp_J7_fill_53178 σ a n v Q := by
  unfold wp_J7_fill_53178
  simp (disch := omega) only [forall_eq, forall_eq', n_inT, n_cl, n_lt, n_le, n_eq, n_eq0, n_lt0, n_ge0, n_gt0, n_le0, n_em, n_me, n_add, n_mul, n_00, n_s01, n_1z, n_0z, Nat.one_ne_zero, eq_self, ne_eq, true_and, and_true, true_implies, false_implies, implies_true, not_true_eq_false, not_false_eq_true, false_and, and_false, or_false, false_or, or_true, true_or]
  refine LP2_nat n (fun i τ x => x = nI i ∧ (∀ b, b ≠ a → τ b = σ b) ∧ ∀ j, j < i → τ a j = v) ?_ 0 _ _ (Nat.zero_le _) ⟨rfl, fun _ _ => rfl, fun j hj => absurd hj (by omega)⟩
  rintro ih i τ _ hi ⟨rfl, h1, h2⟩ hih
  unfold wp_J7_fill_53178_5
  simp (disch := omega) only [forall_eq, forall_eq', n_inT, n_cl, n_lt, n_le, n_eq, n_eq0, n_lt0, n_ge0, n_gt0, n_le0, n_em, n_me, n_add, n_mul, n_00, n_s01, n_1z, n_0z, Nat.one_ne_zero, eq_self, ne_eq, true_and, and_true, true_implies, false_implies, implies_true, not_true_eq_false, not_false_eq_true, false_and, and_false, or_false, false_or, or_true, true_or]
  refine ⟨fun q => hQ τ h1 (by rw [show n = i by omega]; exact h2), fun q => ⟨n_in (by omega) hn, hih _ _ (by omega) ⟨rfl, fun b hb => by rw [su_ne hb]; exact h1 b hb, fun j hj => ?_⟩⟩⟩
  rw [su_at]
  by_cases e : j = i
  · rw [if_pos e]
  · rw [if_neg e]; exact h2 j (by omega)
theorem sumN_zero : ∀ n, sumN (fun _ => 0) n = 0
  | 0 => rfl
  | n + 1 => by unfold sumN; rw [sumN_zero n]
def zro : Nat → Nat := fun _ => 0
theorem vol_zro (m : Nat) : vol zro m = 0 := by
  unfold vol zro
  rw [show (fun z => if 0 = m + 1 then zsz z else 0) = fun _ => 0 by funext z; rw [if_neg (by omega)]]
  exact sumN_zero _
theorem cnt_zro (m : Nat) : cnt zro m = 0 := cnt_0.mpr (fun z _ q => by unfold zro at q; omega)
theorem s_X4_clear {σ : St} {s : Nat} {Q : St → Prop} (hQ : ∀ τ, Spf s σ τ → SpRep τ s zro → Q τ) : wp_X4_clear σ s Q := by
  unfold wp_X4_clear
  refine s_J7_fill (by decide) (fun τ1 a1 b1 => s_J7_fill (by decide) (fun τ2 a2 b2 => s_J7_fill (by decide) (fun τ3 a3 b3 => hQ τ3 (fun b c1 c2 c3 => ?_) ⟨fun j hj => ?_, fun m hm => ?_, fun m hm => ?_⟩)))
  · rw [a3 b c3, a2 b c2, a1 b c1]
  · rw [a3 _ (by omega), a2 _ (by omega), b1 j hj]; rfl
  · rw [a3 _ (by omega), b2 m hm, vol_zro]
  · rw [b3 m hm, cnt_zro]
def pc (m : Nat) : Nat → Nat
  | 0 => 0
  | n + 1 => pc m n + (if m.testBit n then 1 else 0)
theorem pc_bits (st : Nat → Nat) (s : Nat) : ∀ n, n ≤ 10 → pc (bits st s) n = cntS st s n
  | 0, _ => rfl
  | n + 1, h => by
    unfold pc cntS
    rw [pc_bits st s n (by omega), tb_bits]
    by_cases e : st n = s <;> simp [e]; omega
def bcI (x0 : Int32) : Int32 :=
  let a1 := x0 - (((Int32.toUInt32 x0 >>> (Int32.toUInt32 (nI 1) &&& Int32.toUInt32 31)).toInt32) &&& (nI 1431655765))
  let a2 := (a1 &&& (nI 858993459)) + (((Int32.toUInt32 a1 >>> (Int32.toUInt32 (nI 2) &&& Int32.toUInt32 31)).toInt32) &&& (nI 858993459))
  let a3 := (a2 + ((Int32.toUInt32 a2 >>> (Int32.toUInt32 (nI 4) &&& Int32.toUInt32 31)).toInt32)) &&& (nI 252645135)
  let a4 := a3 + ((Int32.toUInt32 a3 >>> (Int32.toUInt32 (nI 8) &&& Int32.toUInt32 31)).toInt32)
  let a5 := a4 + ((Int32.toUInt32 a4 >>> (Int32.toUInt32 (nI 16) &&& Int32.toUInt32 31)).toInt32)
  a5 &&& (nI 63)
theorem bc_all {m : Nat} (h : m < 1024) : bcI (nI m) = nI (pc m 10) := by
  have h2 := allR (n := 1024) (p := fun m => decide (bcI (nI m) = nI (pc m 10))) (by decide +kernel) h
  rwa [decide_eq_true_eq] at h2
theorem s_J6_bitCount {σ : St} {m : Nat} {Q : Int32 → Prop} (h : m < 1024) (hQ : Q (nI (pc m 10))) : wp_J6_bitCount_0f7a4 σ (nI m) Q := by
  unfold wp_J6_bitCount_0f7a4
  simp only [forall_eq]
  rw [← bc_all h] at hQ
  exact hQ
