/-! LANDMARKS: the order -/
theorem n_toI {a b : Nat} (ha : a < 2 ^ 30) (hb : b < 2 ^ 30) : (nI a - nI b).toInt = (a : Int) - b := by
  rw [Int32.toInt_sub, nI_toInt (by omega), nI_toInt (by omega)]
  apply Int.bmod_eq_of_le <;> omega
theorem n_sneg {a b : Nat} (ha : a < 2 ^ 30) (hb : b < 2 ^ 30) : nI a - nI b < 0 ↔ a < b := by
  rw [Int32.lt_iff_toInt_lt, n_toI ha hb]
  have : (0 : Int32).toInt = 0 := by decide
  omega
theorem n_szero {a b : Nat} (ha : a < 2 ^ 30) (hb : b < 2 ^ 30) : nI a - nI b = 0 ↔ a = b := by
  rw [← Int32.toInt_inj, n_toI ha hb]
  have : (0 : Int32).toInt = 0 := by decide
  omega
def ap (a b : Nat) : Nat := if a < b then b - a else a - b
theorem ap_le {a b n : Nat} (ha : a ≤ n) (hb : b ≤ n) : ap a b ≤ n := by unfold ap; split <;> omega
theorem n_abs {a b : Nat} (ha : a < 2 ^ 30) (hb : b < 2 ^ 30) : iabs (nI a - nI b) = nI (ap a b) := by
  unfold iabs ap
  by_cases h : a < b
  · have h1 := (n_sneg ha hb).mpr h
    rw [if_neg (Int32.not_le.mpr h1), if_pos h, ← n_sub (by omega)]
    rw [Int32.zero_sub, Int32.neg_sub]
  · have h1 : ¬ nI a - nI b < 0 := fun q => h ((n_sneg ha hb).mp q)
    rw [if_pos (Int32.not_lt.mp h1), if_neg h, n_sub (by omega)]
theorem s_X9_apart {σ : St} {a b : Nat} {Q : Int32 → Prop} (ha : a < 2 ^ 31) (hb : b < 2 ^ 31) (hQ : Q (nI (ap a b))) : wp_X9_apart σ (nI a) (nI b) Q := by
  unfold wp_X9_apart
  unfold ap at hQ
  simp (disch := omega) only [forall_eq, forall_eq', n_inT, n_cl, n_lt, n_le, n_eq, n_eq0, n_lt0, n_ge0, n_gt0, n_le0, n_em, n_me, n_add, n_mul, n_00, n_s01, n_1z, n_0z, Nat.one_ne_zero, eq_self, ne_eq, true_and, and_true, true_implies, false_implies, implies_true, not_true_eq_false, not_false_eq_true, false_and, and_false, or_false, false_or, or_true, true_or]
  refine ⟨fun h => ?_, fun h => ?_⟩
  · rw [n_sub h]; rw [if_neg (by omega)] at hQ; exact hQ
  · rw [n_sub (by omega)]; rw [if_pos (by omega)] at hQ; exact hQ
/-- how far a landmark is from a place -/
def ldist (f : Nat → Int32) (px py i : Nat) : Nat := ap (gmx f i) px + ap (gmy f i) py
def nrd (d : Nat → Nat) (i j : Nat) : Bool := decide (i < 3 ∧ j < 3 ∧ (d i < d j ∨ d i = d j ∧ i < j))
def tab (b01 b02 b12 : Bool) (i j : Nat) : Bool := if i = 0 ∧ j = 1 then b01 else if i = 1 ∧ j = 0 then !b01 else if i = 0 ∧ j = 2 then b02 else if i = 2 ∧ j = 0 then !b02 else if i = 1 ∧ j = 2 then b12 else if i = 2 ∧ j = 1 then !b12 else false
theorem nrd_tab (d : Nat → Nat) : nrd d = tab (nrd d 0 1) (nrd d 0 2) (nrd d 1 2) := by
  funext i j
  unfold tab
  by_cases h : i < 3 ∧ j < 3
  · have hi : i = 0 ∨ i = 1 ∨ i = 2 := by omega
    have hj : j = 0 ∨ j = 1 ∨ j = 2 := by omega
    rcases hi with rfl | rfl | rfl <;> rcases hj with rfl | rfl | rfl <;> first | (simp [nrd]; done) | (rw [Bool.eq_iff_iff]; simp [nrd]; omega)
  · have e : nrd d i j = false := by unfold nrd; simp; omega
    rw [e]
    repeat' split
    all_goals first | rfl | omega
theorem nrd_tr (d : Nat → Nat) : ¬ (nrd d 0 1 = true ∧ nrd d 1 2 = true ∧ nrd d 0 2 = false) ∧ ¬ (nrd d 0 1 = false ∧ nrd d 1 2 = false ∧ nrd d 0 2 = true) := by
  unfold nrd
  simp
  omega
def nrc (nr : Nat → Nat → Bool) (m : Nat) : Nat → Nat
  | 0 => 0
  | n + 1 => nrc nr m n + (if nr n m then 1 else 0)
theorem nrc_succ (nr : Nat → Nat → Bool) (m n : Nat) : nrc nr m (n + 1) = nrc nr m n + (if nr n m then 1 else 0) := rfl
theorem nrc_le (nr : Nat → Nat → Bool) (m : Nat) : ∀ n, nrc nr m n ≤ n
  | 0 => Nat.le_refl _
  | n + 1 => by have := nrc_le nr m n; unfold nrc; split <;> omega
/-- the landmark ahead of which there are p, from m on -/
def lioF (nr : Nat → Nat → Bool) (K p : Nat) : Nat → Nat → Nat
  | 0, _ => 0
  | n + 1, m => if K ≤ m then 0 else if nrc nr m K = p then m else lioF nr K p n (m + 1)
def lio (nr : Nat → Nat → Bool) (K p : Nat) : Nat := lioF nr K p 4 0
def ordC (nr : Nat → Nat → Bool) (K : Nat) : Nat := if K < 2 then 0 else if K = 2 then lio nr K 0 else 2 * lio nr K 0 + (if lio nr K 1 ≤ lio nr K 2 then 0 else 1)
def bst (nr : Nat → Nat → Bool) (left : Nat) : Nat → Option Nat
  | 0 => none
  | n + 1 => match bst nr left n with
    | none => if left.testBit n then some n else none
    | some b => if left.testBit n = true ∧ nr n b = true then some n else some b
def ordR (nr : Nat → Nat → Bool) : Nat → Nat → Nat → Nat
  | 0, _, num => num
  | many + 1, left, num => ordR nr many (clr left ((bst nr left 3).getD 0)) (num * (many + 1) + pc left ((bst nr left 3).getD 0))
theorem ord_tab : ∀ b01 b02 b12 : Bool, ¬ (b01 = true ∧ b12 = true ∧ b02 = false) ∧ ¬ (b01 = false ∧ b12 = false ∧ b02 = true) → ∀ K, K < 4 → ordC (tab b01 b02 b12) K = ordR (tab b01 b02 b12) K (2 ^ K - 1) 0 := by decide +kernel
theorem ord_eq (d : Nat → Nat) {K : Nat} (hK : K ≤ 3) : ordC (nrd d) K = ordR (nrd d) K (2 ^ K - 1) 0 := by
  have h := ord_tab (nrd d 0 1) (nrd d 0 2) (nrd d 1 2) (nrd_tr d) K (by omega)
  rw [← nrd_tab] at h
  exact h
theorem ord_tab6 : ∀ b01 b02 b12 : Bool, ∀ K, K < 4 → ordC (tab b01 b02 b12) K < (if K = 3 then 6 else if K = 2 then 2 else 1) := by decide +kernel
theorem ord_lt (d : Nat → Nat) {K : Nat} (hK : K ≤ 3) : ordC (nrd d) K < (if K = 3 then 6 else if K = 2 then 2 else 1) := by
  rw [nrd_tab]
  exact ord_tab6 _ _ _ K (by omega)
theorem lioF_lt (nr : Nat → Nat → Bool) (K p : Nat) : ∀ n m, lioF nr K p n m ≤ K
  | 0, _ => Nat.zero_le _
  | n + 1, m => by
    unfold lioF
    split
    · omega
    · split
      · omega
      · exact lioF_lt nr K p n (m + 1)
/-- the order of a place -/
def lord (f : Nat → Int32) (px py : Nat) : Nat := ordC (nrd (ldist f px py)) (gK f)
def nrx (f : Nat → Int32) (px py : Nat) : Nat := 32 / (if gK f = 3 then 6 else if gK f = 2 then 2 else 1) * lord f px py
theorem nrx_lt {f : Nat → Int32} (hf : RowOK f) (px py : Nat) : nrx f px py < 32 := by
  have hK := hf.2.2.1.2
  have h := ord_lt (ldist f px py) hK
  unfold nrx lord
  by_cases h3 : gK f = 3
  · rw [if_pos h3] at h ⊢
    have : 32 / 6 * ordC (nrd (ldist f px py)) (gK f) ≤ 5 * 5 := Nat.mul_le_mul (by decide) (by omega)
    omega
  · rw [if_neg h3] at h ⊢
    by_cases h2 : gK f = 2
    · rw [if_pos h2] at h ⊢
      have : 32 / 2 * ordC (nrd (ldist f px py)) (gK f) ≤ 16 * 1 := Nat.mul_le_mul (by decide) (by omega)
      omega
    · rw [if_neg h2] at h ⊢
      rw [show ordC (nrd (ldist f px py)) (gK f) = 0 by omega]
      omega
theorem ldist_lt {f : Nat → Int32} (hf : RowOK f) {px py i : Nat} (hx : px < 100) (hy : py < 100) (hi : i < gK f) : ldist f px py i < 200 := by
  have h := hf.2.2.2.1 i hi
  have h1 := ap_le (n := 99) (show gmx f i ≤ 99 by omega) (show px ≤ 99 by omega)
  have h2 := ap_le (n := 99) (show gmy f i ≤ 99 by omega) (show py ≤ 99 by omega)
  unfold ldist
  omega
/-! the class -/
theorem s_X1_awayFrom {σ : St} {a i px py : Nat} {f : Nat → Int32} {Q : Int32 → Prop} (h : NetRep σ a f) (hf : RowOK f) (hx : px < 100) (hy : py < 100) (hi : i < gK f) (hQ : Q (nI (ldist f px py i))) : wp_X1_awayFrom σ a (nI i) (nI px) (nI py) Q := by
  have hK := hf.2.2.1.2
  have h4 := hf.2.2.2.1 i hi
  unfold wp_X1_awayFrom
  simp (disch := omega) only [forall_eq, forall_eq', n_inT, n_cl, n_lt, n_le, n_eq, n_eq0, n_lt0, n_ge0, n_gt0, n_le0, n_em, n_me, n_add, n_mul, n_00, n_s01, n_1z, n_0z, Nat.one_ne_zero, eq_self, ne_eq, true_and, and_true, true_implies, false_implies, implies_true, not_true_eq_false, not_false_eq_true, false_and, and_false, or_false, false_or, or_true, true_or]
  rw [h.mx i hi, h.my i hi, n_abs (by omega) (by omega), n_abs (by omega) (by omega), n_add]
  exact hQ
theorem s_X1_landmarkInOrder {σ : St} {a p px py : Nat} {f : Nat → Int32} {Q : Int32 → Prop} (h : NetRep σ a f) (hf : RowOK f) (hx : px < 100) (hy : py < 100) (hp : p < 3) (hQ : Q (nI (lio (nrd (ldist f px py)) (gK f) p))) : wp_X1_landmarkInOrder σ a (nI p) (nI px) (nI py) Q := by
  have hK := hf.2.2.1.2
  unfold lio at hQ
  refine LP1_nat (gK f) (fun m x => x = nI m ∧ lioF (nrd (ldist f px py)) (gK f) p 4 0 = lioF (nrd (ldist f px py)) (gK f) p (4 - m) m) ?_ 0 _ (Nat.zero_le _) ⟨rfl, rfl⟩
  rintro ih m _ hm ⟨rfl, he⟩ hih
  unfold wp_X1_landmarkInOrder_3
  rw [h.ma]
  simp (disch := omega) only [forall_eq, forall_eq', n_inT, n_cl, n_lt, n_le, n_eq, n_eq0, n_lt0, n_ge0, n_gt0, n_le0, n_em, n_me, n_add, n_mul, n_00, n_s01, n_1z, n_0z, Nat.one_ne_zero, eq_self, ne_eq, true_and, and_true, true_implies, false_implies, implies_true, not_true_eq_false, not_false_eq_true, false_and, and_false, or_false, false_or, or_true, true_or]
  obtain ⟨d, hd⟩ : ∃ d, 4 - m = d + 1 := ⟨3 - m, by omega⟩
  refine ⟨fun q => ?_, fun q => ?_⟩
  · rw [he, hd] at hQ
    unfold lioF at hQ
    rw [if_pos (by omega)] at hQ
    exact hQ
  · refine LP2_nat (gK f) (fun j x y => y = nI j ∧ x = nI (nrc (nrd (ldist f px py)) m j)) ?_ 0 _ _ (Nat.zero_le _) ⟨rfl, rfl⟩
    rintro ih2 j _ _ hj ⟨rfl, rfl⟩ hih2
    have hcl := nrc_le (nrd (ldist f px py)) m j
    unfold wp_X1_landmarkInOrder_18
    rw [h.ma]
    simp (disch := omega) only [forall_eq, forall_eq', n_inT, n_cl, n_lt, n_le, n_eq, n_eq0, n_lt0, n_ge0, n_gt0, n_le0, n_em, n_me, n_add, n_mul, n_00, n_s01, n_1z, n_0z, Nat.one_ne_zero, eq_self, ne_eq, true_and, and_true, true_implies, false_implies, implies_true, not_true_eq_false, not_false_eq_true, false_and, and_false, or_false, false_or, or_true, true_or]
    refine ⟨fun q2 => ?_, fun q2 => ?_⟩
    · have ej : j = gK f := by omega
      subst ej
      unfold wp_X1_landmarkInOrder_72
      rw [n_eq (by omega) (by omega)]
      refine ⟨fun c => ?_, fun c => ?_⟩
      · rw [n_add]
        refine fun _ e => e ▸ hih _ (by omega) ⟨rfl, ?_⟩
        rw [he, hd]
        conv => lhs; unfold lioF
        rw [if_neg (by omega), if_neg c, show 4 - (m + 1) = d by omega]
      · rw [he, hd] at hQ
        unfold lioF at hQ
        rw [if_neg (by omega), if_pos c] at hQ
        exact hQ
    · refine s_X1_awayFrom h hf hx hy (by omega) (s_X1_awayFrom h hf hx hy (by omega) ?_)
      have l1 := ldist_lt hf hx hy (i := j) (by omega)
      have l2 := ldist_lt hf hx hy (i := m) (by omega)
      rw [n_sneg (by omega) (by omega), n_szero (by omega) (by omega)]
      have e1 : nrd (ldist f px py) j m = true ↔ (ldist f px py j < ldist f px py m ∨ ldist f px py j = ldist f px py m ∧ j < m) := by
        unfold nrd
        rw [decide_eq_true_eq]
        exact ⟨fun t => t.2.2, fun t => ⟨by omega, by omega, t⟩⟩
      have y1 : (ldist f px py j < ldist f px py m ∨ ldist f px py j = ldist f px py m ∧ j < m) → ih2 (nI (nrc (nrd (ldist f px py)) m j + 1)) (nI (j + 1)) := fun t => hih2 _ _ (by omega) ⟨rfl, by rw [nrc_succ, if_pos (e1.mpr t)]⟩
      have n1 : ¬ (ldist f px py j < ldist f px py m ∨ ldist f px py j = ldist f px py m ∧ j < m) → ih2 (nI (nrc (nrd (ldist f px py)) m j)) (nI (j + 1)) := fun t => hih2 _ _ (by omega) ⟨rfl, by rw [nrc_succ, if_neg (fun s => t (e1.mp s))]; rfl⟩
      exact ⟨fun c => y1 (by omega), fun c => ⟨fun c2 => n1 (by omega), fun c2 => ⟨fun c3 => n1 (by omega), fun c3 => y1 (by omega)⟩⟩⟩
theorem s_X1_orderOf {σ : St} {a px py : Nat} {f : Nat → Int32} {Q : Int32 → Prop} (h : NetRep σ a f) (hf : RowOK f) (hx : px < 100) (hy : py < 100) (hQ : Q (nI (lord f px py))) : wp_X1_orderOf σ a (nI px) (nI py) Q := by
  have hK := hf.2.2.1.2
  unfold lord ordC at hQ
  unfold wp_X1_orderOf
  rw [h.ma]
  simp (disch := omega) only [forall_eq, forall_eq', n_inT, n_cl, n_lt, n_le, n_eq, n_eq0, n_lt0, n_ge0, n_gt0, n_le0, n_em, n_me, n_add, n_mul, n_00, n_s01, n_1z, n_0z, Nat.one_ne_zero, eq_self, ne_eq, true_and, and_true, true_implies, false_implies, implies_true, not_true_eq_false, not_false_eq_true, false_and, and_false, or_false, false_or, or_true, true_or]
  refine ⟨fun q => s_X1_landmarkInOrder h hf hx hy (by decide) ?_, fun q => by rw [if_pos (by omega)] at hQ; exact hQ⟩
  rw [if_neg (by omega)] at hQ
  refine ⟨fun q2 => s_X1_landmarkInOrder h hf hx hy (by decide) (s_X1_landmarkInOrder h hf hx hy (by decide) ?_), fun q2 => by rw [if_pos q2] at hQ; exact hQ⟩
  rw [if_neg q2] at hQ
  have b1 := lioF_lt (nrd (ldist f px py)) (gK f) 1 4 0
  have b2 := lioF_lt (nrd (ldist f px py)) (gK f) 2 4 0
  unfold lio at hQ ⊢
  simp (disch := omega) only [forall_eq, forall_eq', n_inT, n_cl, n_lt, n_le, n_eq, n_eq0, n_lt0, n_ge0, n_gt0, n_le0, n_em, n_me, n_add, n_mul, n_00, n_s01, n_1z, n_0z, Nat.one_ne_zero, eq_self, ne_eq, true_and, and_true, true_implies, false_implies, implies_true, not_true_eq_false, not_false_eq_true, false_and, and_false, or_false, false_or, or_true, true_or]
  exact ⟨fun c => by rw [if_pos c] at hQ; exact hQ, fun c => by rw [if_neg c] at hQ; exact hQ⟩
theorem s_X1_nearX {σ : St} {a px py : Nat} {f : Nat → Int32} {Q : Int32 → Prop} (h : NetRep σ a f) (hf : RowOK f) (hx : px < 100) (hy : py < 100) (hQ : Q (nI (nrx f px py))) : wp_X1_nearX σ a (nI px) (nI py) Q := by
  have hK := hf.2.2.1.2
  unfold nrx at hQ
  unfold wp_X1_nearX wp_X1_nearX_26
  rw [h.ma]
  simp (disch := omega) only [forall_eq, forall_eq', n_inT, n_cl, n_lt, n_le, n_eq, n_eq0, n_lt0, n_ge0, n_gt0, n_le0, n_em, n_me, n_add, n_mul, n_00, n_s01, n_1z, n_0z, Nat.one_ne_zero, eq_self, ne_eq, true_and, and_true, true_implies, false_implies, implies_true, not_true_eq_false, not_false_eq_true, false_and, and_false, or_false, false_or, or_true, true_or]
  refine ⟨fun q => ⟨fun q2 => s_X1_orderOf h hf hx hy ?_, fun q2 => ⟨by decide, s_X1_orderOf h hf hx hy ?_⟩⟩, fun q => ⟨by decide, s_X1_orderOf h hf hx hy ?_⟩⟩
  · rw [if_neg q, if_neg q2] at hQ
    rw [n_div (by decide) (by decide) (by decide), n_mul]; exact hQ
  · rw [if_neg q, if_pos q2] at hQ
    rw [n_div (by decide) (by decide) (by decide), n_mul]; exact hQ
  · rw [if_pos q] at hQ
    rw [n_div (by decide) (by decide) (by decide), n_mul]; exact hQ
theorem s_X1_nearY {σ : St} {a px py : Nat} {Q : Int32 → Prop} (hQ : Q (nI ((px + py) % 32))) : wp_X1_nearY σ a (nI px) (nI py) Q := by
  unfold wp_X1_nearY
  rw [n_add, n_and31]
  exact hQ
