/-! WAYS: what they are -/
def wyL (fr : Nat → Nat) (nx : Nat → Option Nat) : Nat → Nat → List Nat
  | 0, p => [p]
  | k + 1, p => if fr p = 0 then [p] else match nx p with
    | none => [p]
    | some q => p :: wyL fr nx k q
def wyS (fr : Nat → Nat) (nx : Nat → Option Nat) : Nat → Nat → Bool
  | 0, _ => false
  | k + 1, p => if fr p = 0 then false else match nx p with
    | none => true
    | some q => wyS fr nx k q
theorem wyL_0 (fr : Nat → Nat) (nx : Nat → Option Nat) (k p : Nat) : (wyL fr nx k p).getD 0 0 = p := by
  cases k with
  | zero => rfl
  | succ k =>
    unfold wyL
    split
    · rfl
    · split <;> rfl
def cLess (fr : Nat → Nat) (p : Nat) : Nat := sumN (fun q => if fr q < fr p then 1 else 0) 10
theorem sumN_lt {g h : Nat → Nat} {k : Nat} : ∀ n, (∀ j, j < n → g j ≤ h j) → k < n → g k < h k → sumN g n < sumN h n
  | 0, _, hk, _ => absurd hk (by omega)
  | n + 1, e, hk, hl => by
    show sumN g n + g n < sumN h n + h n
    have h1 := e n (by omega)
    rcases Nat.lt_or_ge k n with q | q
    · have := sumN_lt n (fun j hj => e j (by omega)) q hl
      omega
    · have e2 : k = n := by omega
      subst e2
      have := sumN_le k (fun j hj => e j (by omega))
      omega
theorem cLess_lt {fr : Nat → Nat} {p q : Nat} (hq : q < 10) (h : fr q < fr p) : cLess fr q < cLess fr p := by
  refine sumN_lt (k := q) 10 (fun j _ => ?_) hq ?_
  · by_cases c : fr j < fr q
    · rw [if_pos c, if_pos (by omega)]; exact Nat.le_refl _
    · rw [if_neg c]; exact Nat.zero_le _
  · rw [if_neg (by omega), if_pos h]; decide
theorem cLess_9 {fr : Nat → Nat} {p : Nat} (hp : p < 10) : cLess fr p ≤ 9 := by
  have h := sumN_lt (g := fun q => if fr q < fr p then 1 else 0) (h := fun _ => 1) (k := p) 10 (fun j _ => by split <;> omega) hp (by rw [if_neg (by omega)]; decide)
  rw [sumN_const] at h
  unfold cLess
  omega
/-- where a way stands after h steps -/
def WI (fr : Nat → Nat) (nx : Nat → Option Nat) (p0 h p : Nat) : Prop := p < 10 ∧ cLess fr p + h ≤ 9 ∧ wyS fr nx 10 p0 = wyS fr nx (10 - h) p ∧ (wyL fr nx 10 p0).length = h + (wyL fr nx (10 - h) p).length ∧ ∀ j, (wyL fr nx 10 p0).getD (h + j) 0 = (wyL fr nx (10 - h) p).getD j 0
theorem WI.start {fr : Nat → Nat} {nx : Nat → Option Nat} {p0 : Nat} (hp : p0 < 10) : WI fr nx p0 0 p0 := by
  have h9 := cLess_9 (fr := fr) hp
  refine ⟨hp, by omega, ?_, ?_, fun j => ?_⟩
  · rw [Nat.sub_zero]
  · rw [Nat.zero_add, Nat.sub_zero]
  · rw [Nat.zero_add, Nat.sub_zero]
theorem WI.at_ {fr : Nat → Nat} {nx : Nat → Option Nat} {p0 h p : Nat} (w : WI fr nx p0 h p) : (wyL fr nx 10 p0).getD h 0 = p := by
  have := w.2.2.2.2 0
  rw [Nat.add_zero] at this
  rw [this]
  exact wyL_0 _ _ _ _
theorem WI.le {fr : Nat → Nat} {nx : Nat → Option Nat} {p0 h p : Nat} (w : WI fr nx p0 h p) : h ≤ 9 := by have := w.2.1; omega
theorem WI.step {fr : Nat → Nat} {nx : Nat → Option Nat} {p0 h p q : Nat} (w : WI fr nx p0 h p) (h0 : fr p ≠ 0) (hn : nx p = some q) (hq : q < 10) (hl : fr q < fr p) : WI fr nx p0 (h + 1) q := by
  obtain ⟨w1, w2, w3, w4, w5⟩ := w
  have hc := cLess_lt hq hl
  obtain ⟨d, hd⟩ : ∃ d, 10 - h = d + 1 := ⟨9 - h, by omega⟩
  have e1 : wyL fr nx (10 - h) p = p :: wyL fr nx d q := by
    rw [hd]
    conv => lhs; unfold wyL
    rw [if_neg h0, hn]
  have e2 : wyS fr nx (10 - h) p = wyS fr nx d q := by
    rw [hd]
    conv => lhs; unfold wyS
    rw [if_neg h0, hn]
  refine ⟨hq, by omega, by rw [show 10 - (h + 1) = d by omega, w3, e2], ?_, fun j => ?_⟩
  · rw [show 10 - (h + 1) = d by omega, w4, e1, List.length_cons]; omega
  · rw [show 10 - (h + 1) = d by omega, show h + 1 + j = h + (j + 1) by omega, w5, e1]
    rfl
theorem WI.end0 {fr : Nat → Nat} {nx : Nat → Option Nat} {p0 h p : Nat} (w : WI fr nx p0 h p) (h0 : fr p = 0) : wyS fr nx 10 p0 = false ∧ (wyL fr nx 10 p0).length = h + 1 := by
  obtain ⟨w1, w2, w3, w4, w5⟩ := w
  obtain ⟨d, hd⟩ : ∃ d, 10 - h = d + 1 := ⟨9 - h, by omega⟩
  rw [hd] at w3 w4
  unfold wyS at w3
  rw [if_pos h0] at w3
  have e1 : wyL fr nx (d + 1) p = [p] := by
    unfold wyL
    rw [if_pos h0]
  rw [e1] at w4
  refine ⟨?_, w4⟩
  unfold wyS
  exact w3
theorem WI.end1 {fr : Nat → Nat} {nx : Nat → Option Nat} {p0 h p : Nat} (w : WI fr nx p0 h p) (h0 : fr p ≠ 0) (hn : nx p = none) : wyS fr nx 10 p0 = true ∧ (wyL fr nx 10 p0).length = h + 1 := by
  obtain ⟨w1, w2, w3, w4, w5⟩ := w
  obtain ⟨d, hd⟩ : ∃ d, 10 - h = d + 1 := ⟨9 - h, by omega⟩
  rw [hd] at w3 w4
  have e2 : wyS fr nx (d + 1) p = true := by
    unfold wyS
    rw [if_neg h0, hn]
  have e1 : wyL fr nx (d + 1) p = [p] := by
    unfold wyL
    rw [if_neg h0, hn]
  rw [e2] at w3
  rw [e1] at w4
  exact ⟨w3, w4⟩
/-! the next node -/
def sc1 (v : Nat → Nat) (m B : Nat) (nxt : Option Nat) (n : Nat) : Nat × Option Nat := match lst v m n with
  | none => (B, nxt)
  | some b => if v b < B then (v b, some b) else (B, nxt)
theorem sc1_skip {v : Nat → Nat} {m B n : Nat} {nxt : Option Nat} (h : m.testBit n = false ∨ (sc1 v m B nxt n).1 ≤ v n) : sc1 v m B nxt (n + 1) = sc1 v m B nxt n := by
  cases e : lst v m n with
  | none =>
    have e1 : sc1 v m B nxt n = (B, nxt) := by unfold sc1; rw [e]
    rw [e1] at h ⊢
    rcases h with h | h
    · have : lst v m (n + 1) = none := by simp [lst, e, h]
      unfold sc1; rw [this]
    · cases hb : m.testBit n with
      | false =>
        have : lst v m (n + 1) = none := by simp [lst, e, hb]
        unfold sc1; rw [this]
      | true =>
        have : lst v m (n + 1) = some n := by simp [lst, e, hb]
        unfold sc1; rw [this]
        dsimp only
        rw [if_neg (by have : B ≤ v n := h; omega)]
  | some b =>
    have e1 : sc1 v m B nxt n = if v b < B then (v b, some b) else (B, nxt) := by unfold sc1; rw [e]
    by_cases c : m.testBit n = true ∧ v n < v b
    · have e2 : lst v m (n + 1) = some n := by simp [lst, e, c]
      have e3 : sc1 v m B nxt (n + 1) = if v n < B then (v n, some n) else (B, nxt) := by unfold sc1; rw [e2]
      rcases h with h | h
      · rw [h] at c; exact absurd c.1 (by decide)
      · rw [e1] at h
        rw [e1, e3]
        by_cases d : v b < B
        · rw [if_pos d] at h
          have : v b ≤ v n := h
          omega
        · rw [if_neg d] at h ⊢
          have : B ≤ v n := h
          rw [if_neg (by omega)]
    · have e2 : lst v m (n + 1) = some b := by
        unfold lst; rw [e]; dsimp only; rw [if_neg c]
      rw [e1]
      unfold sc1; rw [e2]
theorem sc1_take {v : Nat → Nat} {m B n : Nat} {nxt : Option Nat} (hb : m.testBit n = true) (h : v n < (sc1 v m B nxt n).1) : sc1 v m B nxt (n + 1) = (v n, some n) := by
  cases e : lst v m n with
  | none =>
    have e1 : sc1 v m B nxt n = (B, nxt) := by unfold sc1; rw [e]
    rw [e1] at h
    have : lst v m (n + 1) = some n := by simp [lst, e, hb]
    unfold sc1; rw [this]
    dsimp only
    rw [if_pos (show v n < B from h)]
  | some b =>
    have e1 : sc1 v m B nxt n = if v b < B then (v b, some b) else (B, nxt) := by unfold sc1; rw [e]
    rw [e1] at h
    have hlt : v n < v b ∧ v n < B := by
      by_cases d : v b < B
      · rw [if_pos d] at h; have : v n < v b := h; omega
      · rw [if_neg d] at h; have : v n < B := h; omega
    have e2 : lst v m (n + 1) = some n := by simp [lst, e, hb, hlt.1]
    unfold sc1; rw [e2]
    dsimp only
    rw [if_pos hlt.2]
/-- how far, over realities -/
def mnF (rs : Nat) (fa : Nat → Nat → Nat) (n : Nat) : Nat → Nat
  | 0 => 64
  | r + 1 => if rs.testBit r then min (mnF rs fa n r) (fa r n) else mnF rs fa n r
def thF (rs : Nat) (fa be : Nat → Nat → Nat) (ups p B : Nat) : Nat → Nat × Option Nat
  | 0 => (B, none)
  | r + 1 => if rs.testBit r then sc1 (fa r) (be r p &&& ups) (thF rs fa be ups p B r).1 (thF rs fa be ups p B r).2 10 else thF rs fa be ups p B r
def frA (rs : Nat) (fa : Nat → Nat → Nat) (n : Nat) : Nat := mnF rs fa n 3
def nxA (rs : Nat) (fa be : Nat → Nat → Nat) (ups p : Nat) : Option Nat := (thF rs fa be ups p (frA rs fa p) 3).2
theorem mnF_le (rs : Nat) (fa : Nat → Nat → Nat) (n : Nat) : ∀ k, mnF rs fa n k ≤ 64
  | 0 => Nat.le_refl _
  | k + 1 => by
    unfold mnF
    split
    · exact Nat.le_trans (Nat.min_le_left _ _) (mnF_le rs fa n k)
    · exact mnF_le rs fa n k
theorem mnF_r {rs : Nat} {fa : Nat → Nat → Nat} {n r : Nat} (hr : rs.testBit r = true) : ∀ k, r < k → mnF rs fa n k ≤ fa r n
  | 0, h => absurd h (by omega)
  | k + 1, h => by
    unfold mnF
    by_cases e : r = k
    · rw [if_pos (by rw [← e]; exact hr), e]
      exact Nat.min_le_right _ _
    · have ih := mnF_r (fa := fa) (n := n) hr k (by omega)
      split
      · exact Nat.le_trans (Nat.min_le_left _ _) ih
      · exact ih
theorem sc1_le (v : Nat → Nat) (m B : Nat) (nxt : Option Nat) (n : Nat) : (sc1 v m B nxt n).1 ≤ B := by
  unfold sc1
  cases lst v m n with
  | none => exact Nat.le_refl _
  | some b => dsimp only; split
              · exact Nat.le_of_lt (by assumption)
              · exact Nat.le_refl _
theorem thF_ok {rs : Nat} {fa be : Nat → Nat → Nat} {ups p B : Nat} : ∀ k, (thF rs fa be ups p B k).1 ≤ B ∧ ∀ q, (thF rs fa be ups p B k).2 = some q → q < 10 ∧ (thF rs fa be ups p B k).1 < B ∧ ∃ r, r < k ∧ rs.testBit r = true ∧ fa r q = (thF rs fa be ups p B k).1 ∧ (be r p).testBit q = true ∧ ups.testBit q = true
  | 0 => ⟨Nat.le_refl _, fun q h => by simp [thF] at h⟩
  | k + 1 => by
    obtain ⟨i1, i2⟩ := thF_ok (rs := rs) (fa := fa) (be := be) (ups := ups) (p := p) (B := B) k
    unfold thF
    by_cases c : rs.testBit k = true
    · rw [if_pos c]
      refine ⟨Nat.le_trans (sc1_le _ _ _ _ _) i1, fun q hq => ?_⟩
      cases e : lst (fa k) (be k p &&& ups) 10 with
      | none =>
        have e1 : sc1 (fa k) (be k p &&& ups) (thF rs fa be ups p B k).1 (thF rs fa be ups p B k).2 10 = ((thF rs fa be ups p B k).1, (thF rs fa be ups p B k).2) := by unfold sc1; rw [e]
        rw [e1] at hq ⊢
        obtain ⟨q1, q2, r, r1, r2, r3⟩ := i2 q hq
        exact ⟨q1, q2, r, by omega, r2, r3⟩
      | some b =>
        obtain ⟨l1, l2⟩ := lst_lt 10 b e
        rw [Nat.testBit_and, Bool.and_eq_true] at l2
        have e1 : sc1 (fa k) (be k p &&& ups) (thF rs fa be ups p B k).1 (thF rs fa be ups p B k).2 10 = if fa k b < (thF rs fa be ups p B k).1 then (fa k b, some b) else ((thF rs fa be ups p B k).1, (thF rs fa be ups p B k).2) := by unfold sc1; rw [e]
        rw [e1] at hq ⊢
        by_cases d : fa k b < (thF rs fa be ups p B k).1
        · rw [if_pos d] at hq ⊢
          cases hq
          exact ⟨l1, Nat.lt_of_lt_of_le d i1, k, by omega, c, rfl, l2.1, l2.2⟩
        · rw [if_neg d] at hq ⊢
          obtain ⟨q1, q2, r, r1, r2, r3⟩ := i2 q hq
          exact ⟨q1, q2, r, by omega, r2, r3⟩
    · rw [if_neg c]
      refine ⟨i1, fun q hq => ?_⟩
      obtain ⟨q1, q2, r, r1, r2, r3⟩ := i2 q hq
      exact ⟨q1, q2, r, by omega, r2, r3⟩
theorem nxA_ok {rs : Nat} {fa be : Nat → Nat → Nat} {ups p q : Nat} (h : nxA rs fa be ups p = some q) : q < 10 ∧ frA rs fa q < frA rs fa p ∧ ups.testBit q = true := by
  obtain ⟨i1, i2⟩ := thF_ok (rs := rs) (fa := fa) (be := be) (ups := ups) (p := p) (B := frA rs fa p) 3
  obtain ⟨q1, q2, r, r1, r2, r3, r4, r5⟩ := i2 q h
  refine ⟨q1, ?_, r5⟩
  have := mnF_r (fa := fa) (n := q) r2 3 r1
  show mnF rs fa q 3 < _
  omega
/-! the class goes a way -/
def LookOK (σ : St) (rs : Nat) (fa be : Nat → Nat → Nat) : Prop := ∀ r, r < 3 → rs.testBit r = true → ∀ n, n < 10 → σ 178 (10 * r + n) = nI (fa r n) ∧ fa r n ≤ 64 ∧ σ 177 (10 * r + n) = nI (be r n) ∧ be r n < 1024
theorem s_X7_nnt48 {σ : St} {r m B : Nat} {v : Nat → Nat} {nxt : Option Nat} {x2 x3 x4 : Int32} {ih9 : Int32 → Int32 → Int32 → Prop} {Q : Int32 → Prop} (hr : r < 3) (hm : m < 1024) (hB : B ≤ 64) (hv : ∀ n, n < 10 → m.testBit n = true → σ 178 (10 * r + n) = nI (v n) ∧ v n ≤ 64)
    (h9 : ih9 (nI (sc1 v m B nxt 10).1) (nO (sc1 v m B nxt 10).2) (nI (r + 1))) : ∃ n9 : Nat, LP3 (wp_X7_nodeNearerThan_48 σ x2 x3 x4 (nI r) (nI m) ih9 Q) n9 (nI B) (nO nxt) (nI 0) := by
  refine LP3_nat 10 (fun n x y z => z = nI n ∧ x = nI (sc1 v m B nxt n).1 ∧ y = nO (sc1 v m B nxt n).2) ?_ 0 _ _ _ (Nat.zero_le _) ⟨rfl, rfl, rfl⟩
  rintro ih n _ _ _ hn ⟨rfl, rfl, rfl⟩ hih
  have hle := sc1_le v m B nxt n
  unfold wp_X7_nodeNearerThan_48
  rcases Nat.lt_or_ge n 10 with hnl | hnl
  rotate_left
  · refine ⟨fun _ => ?_, fun q => absurd ((n_le (by decide) (by omega)).mpr hnl) q⟩
    rw [n_add]
    intro x hx
    rw [hx]
    rw [show n = 10 by omega]; exact h9
  simp (disch := omega) only [forall_eq, forall_eq', n_inT, n_cl, n_lt, n_le, n_eq, n_eq0, n_lt0, n_ge0, n_gt0, n_le0, n_em, n_me, n_add, n_mul, n_00, n_s01, n_1z, n_0z, Nat.one_ne_zero, eq_self, ne_eq, true_and, and_true, true_implies, false_implies, implies_true, not_true_eq_false, not_false_eq_true, false_and, and_false, or_false, false_or, or_true, true_or]
  refine ⟨fun q => absurd q (by omega), fun q => ?_⟩
  rw [n_bit0 (by omega) (by omega), show r * 10 + n = 10 * r + n by omega]
  refine ⟨fun c => hih _ _ _ hnl ⟨rfl, ?_, ?_⟩, fun c => ?_⟩
  · rw [sc1_skip (Or.inl c)]
  · rw [sc1_skip (Or.inl c)]
  · have cb : m.testBit n = true := by simpa using c
    obtain ⟨v1, v2⟩ := hv n hnl cb
    rw [v1, n_le (by omega) (by omega)]
    refine ⟨fun d => hih _ _ _ hnl ⟨rfl, ?_, ?_⟩, fun d => hih _ _ _ hnl ⟨rfl, ?_, ?_⟩⟩
    · rw [sc1_skip (Or.inr d)]
    · rw [sc1_skip (Or.inr d)]
    · rw [sc1_take cb (by omega)]
    · rw [sc1_take cb (by omega)]; rfl
theorem s_X7_nodeNearerThan {σ : St} {rs ups p : Nat} {fa be : Nat → Nat → Nat} {Q : Int32 → Prop} (hL : LookOK σ rs fa be) (hrs : rs < 8) (hu : ups < 1024) (hp : p < 10) (hQ : Q (nO (nxA rs fa be ups p))) : wp_X7_nodeNearerThan σ (nI (frA rs fa p)) (nI p) (nI rs) (nI ups) Q := by
  have hf64 := mnF_le rs fa p 3
  refine LP3_nat 3 (fun r x y z => z = nI r ∧ x = nI (thF rs fa be ups p (frA rs fa p) r).1 ∧ y = nO (thF rs fa be ups p (frA rs fa p) r).2) ?_ 0 _ _ _ (Nat.zero_le _) ⟨rfl, rfl, rfl⟩
  rintro ih r _ _ _ hr ⟨rfl, rfl, rfl⟩ hih
  have hle := (thF_ok (rs := rs) (fa := fa) (be := be) (ups := ups) (p := p) (B := frA rs fa p) r).1
  have hle2 : (thF rs fa be ups p (frA rs fa p) r).1 ≤ 64 := Nat.le_trans hle hf64
  unfold wp_X7_nodeNearerThan_9
  rcases Nat.lt_or_ge r 3 with hrl | hrl
  rotate_left
  · refine ⟨fun _ => ?_, fun q => absurd ((n_le (by decide) (by omega)).mpr hrl) q⟩
    have e : r = 3 := by omega
    subst e
    exact hQ
  simp (disch := omega) only [forall_eq, forall_eq', n_inT, n_cl, n_lt, n_le, n_eq, n_eq0, n_lt0, n_ge0, n_gt0, n_le0, n_em, n_me, n_add, n_mul, n_00, n_s01, n_1z, n_0z, Nat.one_ne_zero, eq_self, ne_eq, true_and, and_true, true_implies, false_implies, implies_true, not_true_eq_false, not_false_eq_true, false_and, and_false, or_false, false_or, or_true, true_or]
  refine ⟨fun q => absurd q (by omega), fun q => ?_⟩
  rw [n_bit0 (by omega) (by omega)]
  refine ⟨fun c => ?_, fun c => ?_⟩
  · refine s_X7_nnt48 (v := fa r) (m := 0) hrl (by decide) hle2 (fun n hn t => by simp at t) ?_
    have e1 : sc1 (fa r) 0 (thF rs fa be ups p (frA rs fa p) r).1 (thF rs fa be ups p (frA rs fa p) r).2 10 = thF rs fa be ups p (frA rs fa p) r := by
      unfold sc1
      rw [(lst_zero (by decide)).mpr rfl]
    rw [e1]
    refine hih _ _ _ hrl ⟨rfl, ?_, ?_⟩
    · conv => rhs; unfold thF
      rw [if_neg (by rw [c]; decide)]
    · conv => rhs; unfold thF
      rw [if_neg (by rw [c]; decide)]
  · have cb : rs.testBit r = true := by simpa using c
    have hl := hL r hrl cb
    obtain ⟨-, -, b3, b4⟩ := hl p hp
    rw [show r * 10 + p = 10 * r + p by omega, b3, n_and]
    refine s_X7_nnt48 (v := fa r) (m := be r p &&& ups) hrl (Nat.lt_of_le_of_lt Nat.and_le_left b4) hle2 (fun n hn _ => ⟨(hl n hn).1, (hl n hn).2.1⟩) ?_
    refine hih _ _ _ hrl ⟨rfl, ?_, ?_⟩
    · conv => rhs; unfold thF
      rw [if_pos cb]
    · conv => rhs; unfold thF
      rw [if_pos cb]
theorem LookOK.congr {σ τ : St} {rs : Nat} {fa be : Nat → Nat → Nat} (h : LookOK σ rs fa be) (e1 : τ 177 = σ 177) (e2 : τ 178 = σ 178) : LookOK τ rs fa be := by
  unfold LookOK
  rw [e1, e2]
  exact h
def bI (b : Bool) : Int32 := if b then nI 1 else nI 0
/-- a way, as the walker has it -/
def WayOK (τ : St) (L : List Nat) (b : Bool) : Prop := τ 176 3 = nI (L.length - 1) ∧ τ 176 4 = bI b ∧ ∀ i, i < L.length → τ 179 i = nI (L.getD i 0)
theorem s_X7_follow {σ : St} {rs ups p0 : Nat} {fa be : Nat → Nat → Nat} {Q : St → Prop} (hL : LookOK σ rs fa be) (hrs : rs < 8) (hu : ups < 1024) (hp : p0 < 10)
    (hQ : ∀ τ, (∀ b, b ≠ 176 → b ≠ 179 → τ b = σ b) → WayOK τ (wyL (frA rs fa) (nxA rs fa be ups) 10 p0) (wyS (frA rs fa) (nxA rs fa be ups) 10 p0) → Q τ) : wp_X7_follow σ (nI p0) (nI rs) (nI ups) Q := by
  generalize hT : wyL (frA rs fa) (nxA rs fa be ups) 10 p0 = T at hQ
  unfold wp_X7_follow
  intro σ1 h1 σ2 h2 σ3 h3
  have m3 : ∀ b, b ≠ 176 → b ≠ 179 → σ3 b = σ b := fun b b1 b2 => by rw [h3, su_ne b2, h2, su_ne b1, h1, su_ne b1]
  have a3 : σ3 176 3 = nI 0 := by rw [h3, su_ne (by decide), h2, su_at, if_neg (by decide), h1, su_at, if_pos rfl]
  have a4 : σ3 176 4 = nI 0 := by rw [h3, su_ne (by decide), h2, su_at, if_pos rfl]
  have a0 : σ3 179 0 = nI p0 := by rw [h3, su_at, if_pos rfl]
  refine LP2_nat 10 (fun h τ z => z = nI h ∧ (∀ b, b ≠ 176 → b ≠ 179 → τ b = σ b) ∧ τ 176 3 = nI h ∧ τ 176 4 = nI 0 ∧ ∃ p, WI (frA rs fa) (nxA rs fa be ups) p0 h p ∧ ∀ i, i ≤ h → τ 179 i = nI (T.getD i 0)) ?_ 0 _ _ (Nat.zero_le _) ⟨rfl, m3, a3, a4, p0, WI.start hp, fun i hi => ?_⟩
  · rintro ih h τ _ hh ⟨rfl, hne, t3, t4, p, hW, hpath⟩ hih
    have h9 := hW.le
    have hpl := hW.1
    unfold wp_X7_follow_20
    rw [t3, n_cl (by omega), hpath h (Nat.le_refl _), ← hT, hW.at_, n_le (by decide) (by omega)]
    refine ⟨fun q => absurd q (by omega), fun _ => ⟨n_in (by omega) (by decide), fun x5 hx5 => ?_⟩⟩
    rw [hx5]
    have hL' : LookOK τ rs fa be := hL.congr (hne 177 (by decide) (by decide)) (hne 178 (by decide) (by decide))
    refine LP2_nat 3 (fun r x y => y = nI r ∧ x = nI (mnF rs fa p r)) ?_ 0 _ _ (Nat.zero_le _) ⟨rfl, rfl⟩
    rintro ih2 r _ _ hr ⟨rfl, rfl⟩ hih2
    have hle := mnF_le rs fa p r
    unfold wp_X7_follow_45
    refine ⟨fun q => ?_, fun q => ?_⟩
    · rw [n_le (by decide) (by omega)] at q
      have er : r = 3 := by omega
      subst er
      unfold wp_X7_follow_86
      rw [n_eq0 (by omega)]
      have ef : mnF rs fa p 3 = frA rs fa p := rfl
      refine ⟨fun c => ?_, fun c => ?_⟩
      · rw [ef] at c ⊢
        refine s_X7_nodeNearerThan hL' hrs hu hpl ?_
        cases en : nxA rs fa be ups p with
        | none =>
          refine ⟨fun t => absurd rfl t, fun _ τ' hτ => ?_⟩
          obtain ⟨w1, w2⟩ := hW.end1 c en
          rw [hT] at w2
          refine hQ τ' (fun b b1 b2 => by rw [hτ, su_ne b1]; exact hne b b1 b2) ⟨?_, ?_, fun i hi => ?_⟩
          · rw [hτ, su_at, if_neg (by decide), t3, w2, Nat.add_sub_cancel]
          · rw [hτ, su_at, if_pos rfl, w1]; rfl
          · rw [hτ, su_ne (by decide)]; exact hpath i (by omega)
        | some q =>
          obtain ⟨q1, q2, -⟩ := nxA_ok en
          have hW' := hW.step c en q1 q2
          refine ⟨fun _ τ1 e1 => ?_, fun t => absurd t (by rw [nO, n_em (by omega)]; exact not_false)⟩
          rw [t3, n_add] at e1
          have g3 : τ1 176 3 = nI (h + 1) := by rw [e1, su_at, if_pos rfl]
          rw [g3, n_cl (by omega)]
          refine ⟨n_in (by omega) (by decide), fun τ2 e2 x4 hx4 => ?_⟩
          rw [hx4, n_add]
          have hW9 := hW'.le
          refine hih _ _ (by omega) ⟨rfl, fun b b1 b2 => by rw [e2, su_ne b2, e1, su_ne b1]; exact hne b b1 b2, ?_, ?_, q, hW', fun i hi => ?_⟩
          · rw [e2, su_ne (by decide)]; exact g3
          · rw [e2, su_ne (by decide), e1, su_at, if_neg (by decide)]; exact t4
          · rw [e2, su_at]
            by_cases e : i = h + 1
            · rw [if_pos e, e, ← hT, hW'.at_]; rfl
            · rw [if_neg e, e1, su_ne (by decide)]; exact hpath i (by omega)
      · rw [ef] at c
        obtain ⟨w1, w2⟩ := hW.end0 c
        rw [hT] at w2
        refine hQ τ hne ⟨?_, ?_, fun i hi => hpath i (by omega)⟩
        · rw [t3, w2, Nat.add_sub_cancel]
        · rw [t4, w1]; rfl
    · rw [n_le (by decide) (by omega)] at q
      have hrl : r < 3 := by omega
      simp (disch := omega) only [forall_eq, forall_eq', n_inT, n_cl, n_lt, n_le, n_eq, n_eq0, n_lt0, n_ge0, n_gt0, n_le0, n_em, n_me, n_add, n_mul, n_00, n_s01, n_1z, n_0z, Nat.one_ne_zero, eq_self, ne_eq, true_and, and_true, true_implies, false_implies, implies_true, not_true_eq_false, not_false_eq_true, false_and, and_false, or_false, false_or, or_true, true_or]
      rw [n_bit0 (by omega) (by omega), show r * 10 + p = 10 * r + p by omega]
      refine ⟨fun c => hih2 _ _ hrl ⟨rfl, ?_⟩, fun c => ?_⟩
      · conv => rhs; unfold mnF
        rw [if_neg (by rw [c]; decide)]
      · have cb : rs.testBit r = true := by simpa using c
        obtain ⟨f1, f2, -, -⟩ := hL' r hrl cb p hpl
        rw [f1, n_min (by omega) (by omega)]
        refine hih2 _ _ hrl ⟨rfl, ?_⟩
        conv => rhs; unfold mnF
        rw [if_pos cb]
  · rw [show i = 0 by omega, a0, ← hT, wyL_0]
