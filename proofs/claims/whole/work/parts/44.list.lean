theorem su_ne {σ : St} {a b i : Nat} {v : Int32} (h : b ≠ a) : su σ a i v b = σ b := sr_ne h
theorem su_same (σ : St) (a i : Nat) (v : Int32) : su σ a i v a = upd (σ a) i v := sr_same σ a _
theorem su_at (σ : St) (a i : Nat) (v : Int32) (j : Nat) : su σ a i v a j = if j = i then v else σ a j := by rw [su_same]; rfl
theorem bx_ne {σ : St} {k b : Nat} (h : b ≠ 244) : bxs σ k b = σ b := sr_ne h
/-! sums, unions -/
def sumN (g : Nat → Nat) : Nat → Nat
  | 0 => 0
  | n + 1 => sumN g n + g n
theorem sumN_congr {g h : Nat → Nat} : ∀ n, (∀ j, j < n → g j = h j) → sumN g n = sumN h n
  | 0, _ => rfl
  | n + 1, e => by unfold sumN; rw [e n (by omega), sumN_congr n (fun j hj => e j (by omega))]
theorem sumN_le {g h : Nat → Nat} : ∀ n, (∀ j, j < n → g j ≤ h j) → sumN g n ≤ sumN h n
  | 0, _ => Nat.le_refl _
  | n + 1, e => by unfold sumN; have := e n (by omega); have := sumN_le n (fun j hj => e j (by omega)); omega
theorem sumN_mono (g : Nat → Nat) {m : Nat} : ∀ n, m ≤ n → sumN g m ≤ sumN g n
  | 0, h => by rw [show m = 0 by omega]; exact Nat.le_refl _
  | n + 1, h => by
    rcases Nat.lt_or_ge n m with q | q
    · rw [show m = n + 1 by omega]; exact Nat.le_refl _
    · have := sumN_mono g n q
      show sumN g m ≤ sumN g n + g n
      omega
/-- one summand changes -/
theorem sumN_set {g h : Nat → Nat} {k : Nat} : ∀ n, k < n → (∀ j, j < n → j ≠ k → g j = h j) → sumN g n + h k = sumN h n + g k
  | 0, hk, _ => absurd hk (by omega)
  | n + 1, hk, e => by
    unfold sumN
    rcases Nat.lt_or_ge k n with q | q
    · have h1 := sumN_set n q (fun j hj hn => e j (by omega) hn)
      have h2 := e n (by omega) (by omega)
      omega
    · have hkn : k = n := by omega
      subst hkn
      rw [sumN_congr (g := g) (h := h) k (fun j hj => e j (by omega) (by omega))]
      omega
def orN (g : Nat → Nat) : Nat → Nat
  | 0 => 0
  | n + 1 => orN g n ||| g n
theorem tb_orN (g : Nat → Nat) (j : Nat) : ∀ n, (orN g n).testBit j = true ↔ ∃ a, a < n ∧ (g a).testBit j = true
  | 0 => by simp [orN]
  | n + 1 => by
    unfold orN
    rw [Nat.testBit_or, Bool.or_eq_true, tb_orN g j n]
    constructor
    · rintro (⟨a, ha, h⟩ | h)
      · exact ⟨a, by omega, h⟩
      · exact ⟨n, by omega, h⟩
    · rintro ⟨a, ha, h⟩
      rcases Nat.lt_or_ge a n with q | q
      · exact Or.inl ⟨a, q, h⟩
      · exact Or.inr (by rw [show n = a by omega]; exact h)
/-! the list of zones that somebody has -/
def zl (o : Nat → Nat) (n : Nat) : List Nat := (List.range n).filter (fun z => decide (o z ≠ 0))
theorem zl_succ (o : Nat → Nat) (n : Nat) : zl o (n + 1) = zl o n ++ (if o n ≠ 0 then [n] else []) := by
  unfold zl
  rw [List.range_succ, List.filter_append]
  congr 1
  by_cases h : o n = 0 <;> simp [h]
theorem zl_mem {o : Nat → Nat} {n z : Nat} : z ∈ zl o n ↔ z < n ∧ o z ≠ 0 := by simp [zl]
theorem zl_len (o : Nat → Nat) (h0 : o 0 = 0) : ∀ n, (zl o n).length ≤ n - 1
  | 0 => by simp [zl]
  | n + 1 => by
    rw [zl_succ]
    have := zl_len o h0 n
    cases n with
    | zero => simp [h0, zl]
    | succ n =>
      rw [List.length_append]
      split <;> simp <;> omega
theorem getD_snoc {l : List Nat} {z i : Nat} : (l ++ [z]).getD i 0 = if i < l.length then l.getD i 0 else if i = l.length then z else 0 := by
  rw [List.getD_eq_getElem?_getD, List.getD_eq_getElem?_getD]
  by_cases h : i < l.length
  · rw [if_pos h, List.getElem?_append_left h]
  · rw [if_neg h, List.getElem?_append_right (by omega)]
    by_cases h2 : i = l.length
    · subst h2; simp
    · rw [if_neg h2]
      rw [List.getElem?_eq_none (by simp; omega)]
      rfl
/-- a zone's place in the list -/
theorem zl_get {o : Nat → Nat} {n i : Nat} (hi : i < (zl o n).length) : (zl o n).getD i 0 < n ∧ o ((zl o n).getD i 0) ≠ 0 := zl_mem.mp (getD_mem hi)
theorem zl_idx {o : Nat → Nat} {n z : Nat} (hz : z < n) (ho : o z ≠ 0) : ∃ i, i < (zl o n).length ∧ (zl o n).getD i 0 = z := by
  obtain ⟨i, hi, e⟩ := List.mem_iff_getElem.mp (zl_mem.mpr ⟨hz, ho⟩)
  exact ⟨i, hi, by rw [List.getD_eq_getElem?_getD, List.getElem?_eq_getElem hi]; exact e⟩
/-- the list rises -/
theorem zl_rise (o : Nat → Nat) : ∀ n i j, i < j → j < (zl o n).length → (zl o n).getD i 0 < (zl o n).getD j 0
  | 0, i, j, _, h => by simp [zl] at h
  | n + 1, i, j, hij, hj => by
    rw [zl_succ] at hj ⊢
    by_cases h : o n = 0
    · simp only [h, ne_eq, not_true_eq_false, if_false, List.append_nil] at hj ⊢
      exact zl_rise o n i j hij hj
    · simp only [ne_eq, h, not_false_eq_true, if_true] at hj ⊢
      rw [List.length_append, List.length_singleton] at hj
      rw [getD_snoc, getD_snoc, if_pos (by omega)]
      rcases Nat.lt_or_ge j (zl o n).length with q | q
      · rw [if_pos q]; exact zl_rise o n i j hij q
      · rw [if_neg (by omega), if_pos (by omega)]
        exact (zl_get (by omega)).1
theorem zl_inj {o : Nat → Nat} {n i j : Nat} (hi : i < (zl o n).length) (hj : j < (zl o n).length) (e : (zl o n).getD i 0 = (zl o n).getD j 0) : i = j := by
  rcases Nat.lt_trichotomy i j with q | q | q
  · have := zl_rise o n i j q hj; omega
  · exact q
  · have := zl_rise o n j i q hi; omega
theorem sum_zl (o : Nat → Nat) (G : Nat → Nat) : ∀ n, sumN (fun a => G ((zl o n).getD a 0)) (zl o n).length = sumN (fun z => if o z ≠ 0 then G z else 0) n
  | 0 => by simp [zl, sumN]
  | n + 1 => by
    rw [zl_succ]
    by_cases h : o n = 0
    · simp only [h, ne_eq, not_true_eq_false, if_false, List.append_nil, sumN]
      rw [sum_zl o G n]
      simp
    · simp only [ne_eq, h, not_false_eq_true, if_true, List.length_append, List.length_singleton, sumN]
      rw [← sum_zl o G n]
      congr 1
      · apply sumN_congr
        intro j hj
        rw [getD_snoc, if_pos hj]
      · rw [getD_snoc, if_neg (by omega), if_pos rfl]
/-! volume, how many zones -/
def zsz (z : Nat) : Nat := 1024 / 2 ^ zd z
def vol (o : Nat → Nat) (n : Nat) : Nat := sumN (fun z => if o z = n + 1 then zsz z else 0) 2048
def cnt (o : Nat → Nat) (n : Nat) : Nat := sumN (fun z => if o z = n + 1 then 1 else 0) 2048
theorem sumN_const (c : Nat) : ∀ n, sumN (fun _ => c) n = n * c
  | 0 => by simp [sumN]
  | n + 1 => by unfold sumN; rw [sumN_const c n, Nat.succ_mul]
theorem zsz_le (z : Nat) : zsz z ≤ 1024 := Nat.div_le_self _ _
theorem vol_lt (o : Nat → Nat) (n : Nat) : vol o n ≤ 2048 * 1024 := by
  have h := sumN_le (g := fun z => if o z = n + 1 then zsz z else 0) (h := fun _ => 1024) 2048 (fun j _ => by have := zsz_le j; split <;> omega)
  rw [sumN_const] at h
  exact h
theorem cnt_lt (o : Nat → Nat) (n : Nat) : cnt o n ≤ 2048 := by
  have h := sumN_le (g := fun z => if o z = n + 1 then 1 else 0) (h := fun _ => 1) 2048 (fun j _ => by split <;> omega)
  rw [sumN_const] at h
  exact h
/-- the list as the reference lays it -/
def LRn (τ : St) (o : Nat → Nat) (n : Nat) : Prop := τ 244 23 = nI (zl o n).length ∧ ∀ i, i < (zl o n).length → τ 250 i = nI ((zl o n).getD i 0) ∧ τ 251 i = nI (o ((zl o n).getD i 0) - 1) ∧ τ 252 i = nI (zx ((zl o n).getD i 0)) ∧ τ 253 i = nI (zy ((zl o n).getD i 0)) ∧ τ 254 i = nI (zw ((zl o n).getD i 0)) ∧ τ 255 i = nI (zh ((zl o n).getD i 0))
abbrev LR (τ : St) (o : Nat → Nat) : Prop := LRn τ o 2048
def Lf (σ τ : St) : Prop := (∀ b, b ≠ 244 → b < 250 ∨ 255 < b → τ b = σ b) ∧ ∀ j, j < 13 ∨ (16 < j ∧ j ≠ 23) → τ 244 j = σ 244 j
theorem Lf.rf (σ : St) : Lf σ σ := ⟨fun _ _ _ => rfl, fun _ _ => rfl⟩
theorem Lf.tr {σ τ ρ : St} (h1 : Lf σ τ) (h2 : Lf τ ρ) : Lf σ ρ := ⟨fun b hb hc => (h2.1 b hb hc).trans (h1.1 b hb hc), fun j hj => (h2.2 j hj).trans (h1.2 j hj)⟩
theorem Lf.sc {σ τ : St} (h : Lf σ τ) : Sc σ τ := ⟨fun b hb => h.1 b (by omega) (by omega), fun j hj => h.2 j (Or.inl hj)⟩
theorem Lf.m {σ τ : St} (h : Lf σ τ) : τ 245 = σ 245 := h.1 245 (by decide) (by omega)
theorem Bx.lf {σ τ : St} (h : Bx σ τ) : Lf σ τ := ⟨fun b hb _ => h.1 b hb, fun j hj => h.2 j (by omega)⟩
theorem bx_13 (σ : St) (k : Nat) : bxs σ k 244 13 = nI (zx k) := by simp [sr_same, bxr]
theorem bx_14 (σ : St) (k : Nat) : bxs σ k 244 14 = nI (zy k) := by simp [sr_same, bxr]
theorem bx_15 (σ : St) (k : Nat) : bxs σ k 244 15 = nI (zw k) := by simp [sr_same, bxr]
theorem bx_16 (σ : St) (k : Nat) : bxs σ k 244 16 = nI (zh k) := by simp [sr_same, bxr]
theorem bx_o {σ : St} {k j : Nat} (h : j < 13 ∨ 16 < j) : bxs σ k 244 j = σ 244 j := (Bx.bxs σ k).2 j h
theorem s_X9_laysList {σ : St} {r : Nat} {Q : St → Prop} (hf : RowOK (σ 245)) (hob : OB (gow (σ 245) r)) (hr : r < gR (σ 245)) (hQ : ∀ τ, Lf σ τ → LR τ (gow (σ 245) r) → Q τ) : wp_X9_laysList σ (nI r) Q := by
  have hown : OB (gow (σ 245) r) ∧ True := ⟨hob, trivial⟩
  generalize ho : gow (σ 245) r = o at *
  have hR := hf.2.2.2.2.1.2.2
  unfold wp_X9_laysList
  simp only [forall_eq]
  refine LP2_nat 2048 (fun i τ x => Lf σ τ ∧ x = nI i ∧ LRn τ o i) ?_ 1 _ _ (by decide) ⟨⟨fun b hb _ => su_ne hb, fun j hj => ?_⟩, rfl, ?_, ?_⟩
  · rintro ih i τ _ hi ⟨hL, rfl, hlen, hlr⟩ hih
    unfold wp_X9_laysList_7
    have hll := zl_len o hown.1.2 i
    simp (disch := omega) only [forall_eq, forall_eq', n_inT, n_cl, n_lt, n_le, n_eq, n_eq0, n_lt0, n_ge0, n_gt0, n_le0, n_em, n_me, n_add, n_mul, n_00, n_s01, n_1z, n_0z, Nat.one_ne_zero, eq_self, ne_eq, true_and, and_true, true_implies, false_implies, implies_true, not_true_eq_false, not_false_eq_true, false_and, and_false, or_false, false_or, or_true, true_or]
    refine ⟨fun h => hQ τ hL (by have e : i = 2048 := (by omega); subst e; exact ⟨hlen, hlr⟩), fun h => ?_⟩
    have hob := hown.1.1 i (by omega)
    refine s_X9_ownerOf (by rw [hL.m]; exact hf) (by rw [hL.m]; exact hr) (by omega) ?_
    rw [hL.m, ho, nm_iff (by omega)]
    refine ⟨fun hn => ?_, fun hz => hih _ _ (by omega) ⟨hL, rfl, by unfold LRn; rw [show zl o (i + 1) = zl o i by rw [zl_succ]; simp [hz]]; exact ⟨hlen, hlr⟩⟩⟩
    have hi1 : 1 ≤ i := by
      rcases Nat.eq_zero_or_pos i with q | q
      · rw [q] at hn; exact absurd hown.1.2 hn
      · exact q
    refine s_X9_boxes hi1 (by omega) ?_
    have e23 : bxs τ i 244 23 = nI (zl o i).length := by rw [bx_o (by omega)]; exact hlen
    simp only [su_ne (show (244 : Nat) ≠ 250 by decide), su_ne (show (244 : Nat) ≠ 251 by decide), su_ne (show (244 : Nat) ≠ 252 by decide), su_ne (show (244 : Nat) ≠ 253 by decide), su_ne (show (244 : Nat) ≠ 254 by decide), su_ne (show (244 : Nat) ≠ 255 by decide), forall_eq]
    rw [e23, bx_13, bx_14, bx_15, bx_16]
    refine ⟨n_in (by omega) (by decide), s_X9_ownerOf ?_ ?_ (by omega) ?_⟩
    · rw [su_ne (by decide), bx_ne (by decide), hL.m]; exact hf
    · rw [su_ne (by decide), bx_ne (by decide), hL.m]; exact hr
    · rw [su_ne (show (245 : Nat) ≠ 250 by decide), bx_ne (show (245 : Nat) ≠ 244 by decide), hL.m, ho, n_sub (by omega)]
      simp (disch := omega) only [forall_eq, forall_eq', n_inT, n_cl, n_lt, n_le, n_eq, n_eq0, n_lt0, n_ge0, n_gt0, n_le0, n_em, n_me, n_add, n_mul, n_00, n_s01, n_1z, n_0z, Nat.one_ne_zero, eq_self, ne_eq, true_and, and_true, true_implies, false_implies, implies_true, not_true_eq_false, not_false_eq_true, false_and, and_false, or_false, false_or, or_true, true_or]
      refine hih _ _ (by omega) ⟨⟨fun b hb hc => ?_, fun j hj => ?_⟩, rfl, ?_, fun j hj => ?_⟩
      · rw [su_ne hb, su_ne (by omega), su_ne (by omega), su_ne (by omega), su_ne (by omega), su_ne (by omega), su_ne (by omega), bx_ne hb]
        exact hL.1 b hb hc
      · rw [su_at, if_neg (by omega), su_ne (by decide), su_ne (by decide), su_ne (by decide), su_ne (by decide), su_ne (by decide), su_ne (by decide), bx_o (by omega)]
        exact hL.2 j hj
      · rw [su_at, if_pos rfl, zl_succ, if_pos hn, List.length_append, List.length_singleton]
      · rw [zl_succ, if_pos hn, List.length_append, List.length_singleton] at hj
        rw [zl_succ, if_pos hn, getD_snoc]
        have hold := hlr j
        rcases Nat.lt_or_ge j (zl o i).length with q | q
        · rw [if_pos q]
          obtain ⟨a1, a2, a3, a4, a5, a6⟩ := hold q
          refine ⟨?_, ?_, ?_, ?_, ?_, ?_⟩
          · rw [su_ne (by decide), su_ne (by decide), su_ne (by decide), su_ne (by decide), su_ne (by decide), su_ne (by decide), su_at, if_neg (by omega), bx_ne (by decide)]; exact a1
          · rw [su_ne (by decide), su_ne (by decide), su_ne (by decide), su_ne (by decide), su_ne (by decide), su_at, if_neg (by omega), su_ne (by decide), bx_ne (by decide)]; exact a2
          · rw [su_ne (by decide), su_ne (by decide), su_ne (by decide), su_ne (by decide), su_at, if_neg (by omega), su_ne (by decide), su_ne (by decide), bx_ne (by decide)]; exact a3
          · rw [su_ne (by decide), su_ne (by decide), su_ne (by decide), su_at, if_neg (by omega), su_ne (by decide), su_ne (by decide), su_ne (by decide), bx_ne (by decide)]; exact a4
          · rw [su_ne (by decide), su_ne (by decide), su_at, if_neg (by omega), su_ne (by decide), su_ne (by decide), su_ne (by decide), su_ne (by decide), bx_ne (by decide)]; exact a5
          · rw [su_ne (by decide), su_at, if_neg (by omega), su_ne (by decide), su_ne (by decide), su_ne (by decide), su_ne (by decide), su_ne (by decide), bx_ne (by decide)]; exact a6
        · rw [if_neg (by omega), if_pos (by omega)]
          have ej : j = (zl o i).length := by omega
          refine ⟨?_, ?_, ?_, ?_, ?_, ?_⟩
          · rw [su_ne (by decide), su_ne (by decide), su_ne (by decide), su_ne (by decide), su_ne (by decide), su_ne (by decide), su_at, if_pos ej]
          · rw [su_ne (by decide), su_ne (by decide), su_ne (by decide), su_ne (by decide), su_ne (by decide), su_at, if_pos ej]
          · rw [su_ne (by decide), su_ne (by decide), su_ne (by decide), su_ne (by decide), su_at, if_pos ej]
          · rw [su_ne (by decide), su_ne (by decide), su_ne (by decide), su_at, if_pos ej]
          · rw [su_ne (by decide), su_ne (by decide), su_at, if_pos ej]
          · rw [su_ne (by decide), su_at, if_pos ej]
  · rw [su_at, if_neg (by omega)]
  · rw [su_at, if_pos rfl]
    have : zl o 1 = [] := by simp [zl, hown.1.2]
    simp [this]
  · intro j hj
    have : zl o 1 = [] := by simp [zl, hown.1.2]
    rw [this] at hj
    simp at hj
