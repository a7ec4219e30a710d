/-! a zone is given, halves merge -/
def setO (o : Nat → Nat) (z v : Nat) : Nat → Nat := fun j => if j = z then v else o j
theorem setO_same (o : Nat → Nat) (z v : Nat) : setO o z v z = v := if_pos rfl
theorem setO_ne {o : Nat → Nat} {z v j : Nat} (h : j ≠ z) : setO o z v j = o j := if_neg h
theorem setO_twice (o : Nat → Nat) (z v w : Nat) : setO (setO o z v) z w = setO o z w := by
  funext j
  by_cases h : j = z
  · subst h; rw [setO_same, setO_same]
  · rw [setO_ne h, setO_ne h, setO_ne h]
def mg1 (n : Nat) (o : Nat → Nat) (z : Nat) : Nat → Nat := setO (setO (setO o z 0) (z ^^^ 1) 0) (z / 2) (n + 1)
def mrg (n : Nat) : Nat → (Nat → Nat) → Nat → (Nat → Nat)
  | 0, o, _ => o
  | d + 1, o, z => if 1 < z ∧ o (z ^^^ 1) = n + 1 then mrg n d (mg1 n o z) (z / 2) else o
def giv (o : Nat → Nat) (z n : Nat) : Nat → Nat := mrg n 10 (setO o z (n + 1)) z
theorem xor1 : ∀ z, z < 2048 → (z ^^^ 1) = if z % 2 = 0 then z + 1 else z - 1 := by
  intro z hz
  have h := allR (n := 2048) (p := fun z => decide ((z ^^^ 1) = if z % 2 = 0 then z + 1 else z - 1)) (by decide +kernel) hz
  rwa [decide_eq_true_eq] at h
theorem xor1_f {z : Nat} (hz : z < 2048) (h1 : 1 < z) : z ^^^ 1 ≠ z ∧ (z ^^^ 1) / 2 = z / 2 ∧ 1 < z ^^^ 1 ∧ z ^^^ 1 < 2048 ∧ z / 2 < z ∧ z / 2 < z ^^^ 1 ∧ 1 ≤ z / 2 := by
  have h := xor1 z hz
  by_cases e : z % 2 = 0
  · rw [if_pos e] at h; rw [h]; omega
  · rw [if_neg e] at h; rw [h]; omega
theorem half_or {y z : Nat} (hz : z < 2048) (h1 : 1 < z) (h : y / 2 = z / 2) : y = z ∨ y = z ^^^ 1 := by
  have h2 := xor1 z hz
  by_cases e : z % 2 = 0
  · rw [if_pos e] at h2; rw [h2]; omega
  · rw [if_neg e] at h2; rw [h2]; omega
/-- a partition -/
def PT (o : Nat → Nat) : Prop := OB o ∧ covers1 o ∧ chain o
theorem PT.pos {o : Nat → Nat} (h : OB o) {z : Nat} (hz : o z ≠ 0) : 1 ≤ z := by
  rcases Nat.eq_zero_or_pos z with q | q
  · rw [q] at hz; exact absurd h.2 hz
  · exact q
theorem PT.set {o : Nat → Nat} (h : PT o) {z n : Nat} (hz : z < 2048) (h0 : o z ≠ 0) (hn : n < 10) : PT (setO o z (n + 1)) := by
  have hz1 := PT.pos h.1 h0
  have key : ∀ y, setO o z (n + 1) y ≠ 0 ↔ o y ≠ 0 := by
    intro y
    by_cases e : y = z
    · subst e; rw [setO_same]; exact ⟨fun _ => h0, fun _ => by omega⟩
    · rw [setO_ne e]
  refine ⟨⟨fun y hy => ?_, by rw [setO_ne (by omega)]; exact h.1.2⟩, fun c h1 h2 => ?_, fun y j hy hj hne => ?_⟩
  · by_cases e : y = z
    · subst e; rw [setO_same]; omega
    · rw [setO_ne e]; exact h.1.1 y hy
  · obtain ⟨d, hd, hne⟩ := h.2.1 c h1 h2
    exact ⟨d, hd, (key _).mpr hne⟩
  · have := h.2.2 y j hy hj ((key y).mp hne)
    exact Classical.byContradiction fun q => (key _).mp q this
theorem mg1_v {n : Nat} {o : Nat → Nat} {z : Nat} (hz : z < 2048) (h1 : 1 < z) (y : Nat) : mg1 n o z y = if y = z / 2 then n + 1 else if y = z ∨ y = z ^^^ 1 then 0 else o y := by
  obtain ⟨a1, a2, a3, a4, a5, a6, a7⟩ := xor1_f hz h1
  unfold mg1
  by_cases e1 : y = z / 2
  · rw [if_pos e1, e1, setO_same]
  · rw [if_neg e1, setO_ne e1]
    by_cases e2 : y = z ^^^ 1
    · rw [if_pos (Or.inr e2), e2, setO_same]
    · rw [setO_ne e2]
      by_cases e3 : y = z
      · rw [if_pos (Or.inl e3), e3, setO_same]
      · rw [if_neg (by omega), setO_ne e3]
theorem PT.mg1 {o : Nat → Nat} (h : PT o) {z n : Nat} (hz : z < 2048) (h1 : 1 < z) (hn : n < 10) (e1 : o z = n + 1) (e2 : o (z ^^^ 1) = n + 1) : PT (mg1 n o z) ∧ o (z / 2) = 0 := by
  obtain ⟨a1, a2, a3, a4, a5, a6, a7⟩ := xor1_f hz h1
  have hup : ∀ j, 1 ≤ j → o (z / 2 ^ j) = 0 := fun j hj => h.2.2 z j hz hj (by omega)
  have hz2 : o (z / 2) = 0 := by have := hup 1 (by decide); rwa [Nat.pow_one] at this
  have ev := mg1_v (n := n) (o := o) hz h1
  refine ⟨⟨⟨fun y hy => ?_, ?_⟩, fun c c1 c2 => ?_, fun y j hy hj hne => ?_⟩, hz2⟩
  · rw [ev]
    split
    · omega
    · split
      · omega
      · exact h.1.1 y hy
  · rw [ev, if_neg (by omega), if_neg (by omega)]; exact h.1.2
  · obtain ⟨d, hd, hne⟩ := h.2.1 c c1 c2
    by_cases q : c / 2 ^ d = z ∨ c / 2 ^ d = z ^^^ 1
    · have hdd : d ≠ 10 := by
        rintro rfl
        have : c / 2 ^ 10 = 1 := by rw [Nat.div_eq_of_lt_le] <;> omega
        rw [this] at q
        omega
      refine ⟨d + 1, by omega, ?_⟩
      have : c / 2 ^ (d + 1) = z / 2 := by
        rw [Nat.pow_succ, ← Nat.div_div_eq_div_mul]
        rcases q with q | q
        · rw [q]
        · rw [q, a2]
      rw [ev, if_pos this]; omega
    · refine ⟨d, hd, ?_⟩
      rw [ev]
      split
      · omega
      · first
          | exact hne
          | (rw [if_neg q]; exact hne)
  · rw [ev] at hne
    by_cases q1 : y = z / 2
    · rw [q1]
      have e : z / 2 / 2 ^ j = z / 2 ^ (j + 1) := by rw [Nat.div_div_eq_div_mul, Nat.pow_succ, Nat.mul_comm]
      have hlt : z / 2 / 2 ^ j < z / 2 := Nat.div_lt_self (by omega) (Nat.one_lt_two_pow (by omega))
      rw [ev, if_neg (by omega), if_neg (by omega), e]
      exact hup (j + 1) (by omega)
    · rw [if_neg q1] at hne
      by_cases q2 : y = z ∨ y = z ^^^ 1
      · rw [if_pos q2] at hne; exact absurd rfl hne
      · rw [if_neg q2] at hne
        have hc := h.2.2 y j hy hj hne
        rw [ev]
        by_cases q3 : y / 2 ^ j = z / 2
        · exfalso
          obtain ⟨i, rfl⟩ : ∃ i, j = i + 1 := ⟨j - 1, by omega⟩
          rw [Nat.pow_succ, ← Nat.div_div_eq_div_mul] at q3
          have hor := half_or hz h1 q3
          rcases Nat.eq_zero_or_pos i with q4 | q4
          · subst q4
            rw [Nat.pow_zero, Nat.div_one] at hor
            exact q2 hor
          · have hc2 := h.2.2 y i hy q4 hne
            rcases hor with hor | hor
            · rw [hor, e1] at hc2; omega
            · rw [hor, e2] at hc2; omega
        · rw [if_neg q3]
          split
          · rfl
          · exact hc
theorem zsz_half {z : Nat} (hz : z < 2048) (h1 : 1 < z) : zsz z + zsz (z ^^^ 1) = zsz (z / 2) := by
  have h := allR (n := 2048) (p := fun z => decide (z ≤ 1) || decide (zsz z + zsz (z ^^^ 1) = zsz (z / 2))) (by decide +kernel) hz
  simp only [Bool.or_eq_true, decide_eq_true_eq] at h
  rcases h with h | h
  · omega
  · exact h
/-- one zone changes hands: volumes and counts -/
theorem vol_set (o : Nat → Nat) {z : Nat} (hz : z < 2048) (v m : Nat) : vol (setO o z v) m + (if o z = m + 1 then zsz z else 0) = vol o m + (if v = m + 1 then zsz z else 0) := by
  have h := sumN_set (g := fun y => if setO o z v y = m + 1 then zsz y else 0) (h := fun y => if o y = m + 1 then zsz y else 0) (k := z) 2048 hz (fun j _ hj => by rw [setO_ne hj])
  rw [setO_same] at h
  exact h
theorem cnt_set (o : Nat → Nat) {z : Nat} (hz : z < 2048) (v m : Nat) : cnt (setO o z v) m + (if o z = m + 1 then 1 else 0) = cnt o m + (if v = m + 1 then 1 else 0) := by
  have h := sumN_set (g := fun y => if setO o z v y = m + 1 then 1 else 0) (h := fun y => if o y = m + 1 then 1 else 0) (k := z) 2048 hz (fun j _ hj => by rw [setO_ne hj])
  rw [setO_same] at h
  exact h
theorem vol_mg1 {o : Nat → Nat} {z n : Nat} (hz : z < 2048) (h1 : 1 < z) (e1 : o z = n + 1) (e2 : o (z ^^^ 1) = n + 1) (e3 : o (z / 2) = 0) (m : Nat) : vol (mg1 n o z) m = vol o m ∧ cnt (mg1 n o z) m + (if m = n then 1 else 0) = cnt o m := by
  obtain ⟨a1, a2, a3, a4, a5, a6, a7⟩ := xor1_f hz h1
  have hs := zsz_half hz h1
  have v1 := vol_set o hz 0 m
  have v2 := vol_set (setO o z 0) a4 0 m
  have v3 := vol_set (setO (setO o z 0) (z ^^^ 1) 0) (show z / 2 < 2048 by omega) (n + 1) m
  have c1 := cnt_set o hz 0 m
  have c2 := cnt_set (setO o z 0) a4 0 m
  have c3 := cnt_set (setO (setO o z 0) (z ^^^ 1) 0) (show z / 2 < 2048 by omega) (n + 1) m
  rw [setO_ne a1, e2] at v2 c2
  rw [setO_ne (show z / 2 ≠ z ^^^ 1 by omega), setO_ne (show z / 2 ≠ z by omega), e3] at v3 c3
  rw [e1] at v1 c1
  unfold mg1
  by_cases hmn : m = n
  · subst hmn
    simp only [eq_self, ↓reduceIte, if_neg (show ¬ (0 : Nat) = m + 1 by omega)] at v1 v2 v3 c1 c2 c3 ⊢
    omega
  · simp only [if_neg (show ¬ n + 1 = m + 1 by omega), if_neg (show ¬ (0 : Nat) = m + 1 by omega), if_neg hmn] at v1 v2 v3 c1 c2 c3 ⊢
    omega
/-- who else has what stays -/
theorem mg1_other {o : Nat → Nat} {z n : Nat} (hz : z < 2048) (h1 : 1 < z) (e1 : o z = n + 1) (e2 : o (z ^^^ 1) = n + 1) (e3 : o (z / 2) = 0) {p : Nat} (hp : p ≠ n) (y : Nat) : mg1 n o z y = p + 1 ↔ o y = p + 1 := by
  rw [mg1_v hz h1]
  by_cases q1 : y = z / 2
  · rw [if_pos q1, q1, e3]; omega
  · rw [if_neg q1]
    by_cases q2 : y = z ∨ y = z ^^^ 1
    · rw [if_pos q2]
      rcases q2 with q2 | q2
      · rw [q2, e1]; omega
      · rw [q2, e2]; omega
    · rw [if_neg q2]
theorem mrg_ok {n : Nat} (hn : n < 10) : ∀ (d : Nat) (o : Nat → Nat) (z : Nat), PT o → z < 2048 → o z = n + 1 → PT (mrg n d o z) ∧ (∀ p, p ≠ n → ∀ y, mrg n d o z y = p + 1 ↔ o y = p + 1) ∧ (∃ y, y < 2048 ∧ mrg n d o z y = n + 1) ∧ (∀ m, vol (mrg n d o z) m = vol o m) ∧ (∀ m, m ≠ n → cnt (mrg n d o z) m = cnt o m) ∧ ((∀ y, 2048 ≤ y → o y = 0) → ∀ y, 2048 ≤ y → mrg n d o z y = 0)
  | 0, o, z, h, hz, e => ⟨h, fun _ _ _ => Iff.rfl, ⟨z, hz, e⟩, fun _ => rfl, fun _ _ => rfl, fun h => h⟩
  | d + 1, o, z, h, hz, e => by
    unfold mrg
    by_cases c : 1 < z ∧ o (z ^^^ 1) = n + 1
    · rw [if_pos c]
      obtain ⟨a1, a2, a3, a4, a5, a6, a7⟩ := xor1_f hz c.1
      obtain ⟨p1, p2⟩ := h.mg1 hz c.1 hn e c.2
      obtain ⟨q1, q2, q3, q4, q5, q6⟩ := mrg_ok hn d (mg1 n o z) (z / 2) p1 (by omega) (by rw [mg1_v hz c.1, if_pos rfl])
      have hv := vol_mg1 hz c.1 e c.2 p2
      refine ⟨q1, fun p hp y => (q2 p hp y).trans (mg1_other hz c.1 e c.2 p2 hp y), q3, fun m => (q4 m).trans (hv m).1, fun m hm => ?_, fun hh => q6 fun y hy => ?_⟩
      · rw [q5 m hm]
        have := (hv m).2
        rw [if_neg hm] at this
        omega
      · rw [mg1_v hz c.1, if_neg (by omega), if_neg (by omega)]; exact hh y hy
    · rw [if_neg c]
      exact ⟨h, fun _ _ _ => Iff.rfl, ⟨z, hz, e⟩, fun _ => rfl, fun _ _ => rfl, fun h => h⟩
theorem setO_hi {o : Nat → Nat} {z v : Nat} (hz : z < 2048) (h : ∀ y, 2048 ≤ y → o y = 0) : ∀ y, 2048 ≤ y → setO o z v y = 0 := fun y hy => by rw [setO_ne (by omega)]; exact h y hy
theorem giv_ok {o : Nat → Nat} {z n : Nat} (h : PT o) (hz : z < 2048) (h0 : o z ≠ 0) (hn : n < 10) : PT (giv o z n) ∧ (∀ p, p ≠ n → ∀ y, giv o z n y = p + 1 ↔ (o y = p + 1 ∧ y ≠ z)) ∧ (∃ y, y < 2048 ∧ giv o z n y = n + 1) := by
  obtain ⟨q1, q2, q3, -, -, -⟩ := mrg_ok hn 10 (setO o z (n + 1)) z (h.set hz h0 hn) hz (setO_same _ _ _)
  refine ⟨q1, fun p hp y => (q2 p hp y).trans ?_, q3⟩
  by_cases e : y = z
  · subst e; rw [setO_same]; constructor
    · intro q; omega
    · intro q; exact absurd rfl q.2
  · rw [setO_ne e]; exact ⟨fun q => ⟨q, e⟩, fun q => q.1⟩
theorem giv_hi {o : Nat → Nat} {z n : Nat} (h : PT o) (hz : z < 2048) (h0 : o z ≠ 0) (hn : n < 10) (hh : ∀ y, 2048 ≤ y → o y = 0) : ∀ y, 2048 ≤ y → giv o z n y = 0 :=
  (mrg_ok hn 10 (setO o z (n + 1)) z (h.set hz h0 hn) hz (setO_same _ _ _)).2.2.2.2.2 (setO_hi hz hh)
/-! the reference -/
def updO (f : Nat → Int32) (r : Nat) (o : Nat → Nat) : Nat → Int32 := fun j => if 538 + 2048 * r ≤ j ∧ j < 538 + 2048 * r + 2048 then nI (o (j - (538 + 2048 * r))) else f j
theorem updO_at {f : Nat → Int32} {r z : Nat} {o : Nat → Nat} (hz : z < 2048) : updO f r o (538 + 2048 * r + z) = nI (o z) := by
  unfold updO
  rw [if_pos (by omega)]
  congr 2
  omega
theorem updO_set (f : Nat → Int32) (r : Nat) (o : Nat → Nat) {z v : Nat} (hz : z < 2048) : upd (updO f r o) (538 + 2048 * r + z) (nI v) = updO f r (setO o z v) := by
  funext j
  unfold upd updO
  by_cases e : j = 538 + 2048 * r + z
  · rw [if_pos e, if_pos (by omega), e, show 538 + 2048 * r + z - (538 + 2048 * r) = z by omega, setO_same]
  · rw [if_neg e]
    by_cases e2 : 538 + 2048 * r ≤ j ∧ j < 538 + 2048 * r + 2048
    · rw [if_pos e2, if_pos e2, setO_ne (by omega)]
    · rw [if_neg e2, if_neg e2]
theorem updO_twice (f : Nat → Int32) (r : Nat) (o o' : Nat → Nat) : updO (updO f r o) r o' = updO f r o' := by
  funext j
  unfold updO
  split <;> rfl
theorem updO_self {f : Nat → Int32} (hf : RowOK f) {r : Nat} (hr : r < gR f) : updO f r (gow f r) = f := by
  funext j
  unfold updO
  split
  · rename_i h
    have := hf.2.2.2.2.2.2.2.2 r hr (j - (538 + 2048 * r)) (by omega)
    rw [← this]
    congr 1
    omega
  · rfl
theorem gow_updO {f : Nat → Int32} {r : Nat} {o : Nat → Nat} (hb : ∀ z, z < 2048 → o z ≤ 10) (hh : ∀ z, 2048 ≤ z → o z = 0) : gow (updO f r o) r = o := by
  funext z
  unfold gow
  by_cases h : z < 2048
  · have := hb z h
    rw [if_pos h, updO_at h, n_cl (by omega)]
  · rw [if_neg h, hh z (by omega)]
theorem gow_updO_ne {f : Nat → Int32} {r r' : Nat} {o : Nat → Nat} (h : r' ≠ r) : gow (updO f r o) r' = gow f r' := by
  funext z
  unfold gow updO
  by_cases hz : z < 2048
  · rw [if_pos hz, if_pos hz, if_neg (by omega)]
  · rw [if_neg hz, if_neg hz]
theorem updO_lo {f : Nat → Int32} {r : Nat} {o : Nat → Nat} {j : Nat} (h : j < 538) : updO f r o j = f j := if_neg (by omega)
theorem s_X9_owns {σ : St} {r z v : Nat} {x : Int32} {f : Nat → Int32} {o : Nat → Nat} {Q : St → Prop} (hr : r < 3) (hz : z < 2048) (hx : x + nI 1 = nI v) (hQ : Q (sr σ 245 (updO f r (setO o z v)))) (hσ : σ 245 = updO f r o) : wp_X9_owns σ (nI r) (nI z) x Q := by
  unfold wp_X9_owns
  rw [hx]
  simp (disch := omega) only [forall_eq, forall_eq', n_inT, n_cl, n_lt, n_le, n_eq, n_eq0, n_lt0, n_ge0, n_gt0, n_le0, n_em, n_me, n_add, n_mul, n_00, n_s01, n_1z, n_0z, Nat.one_ne_zero, eq_self, ne_eq, true_and, and_true, true_implies, false_implies, implies_true, not_true_eq_false, not_false_eq_true, false_and, and_false, or_false, false_or, or_true, true_or]
  show Q (sr σ 245 (upd (σ 245) (538 + 2048 * r + z) (nI v)))
  rw [hσ, updO_set f r o hz]
  exact hQ
theorem sr_sr (σ : St) (a : Nat) (f g : Nat → Int32) : sr (sr σ a f) a g = sr σ a g := by
  funext b
  by_cases h : b = a
  · subst h; rw [sr_same, sr_same]
  · rw [sr_ne h, sr_ne h, sr_ne h]
theorem sr_self (σ : St) (a : Nat) : sr σ a (σ a) = σ := by
  funext b
  by_cases h : b = a
  · subst h; rw [sr_same]
  · rw [sr_ne h]
theorem s_own' {σ : St} {r z : Nat} {f : Nat → Int32} {o : Nat → Nat} {Q : Int32 → Prop} (hr : r < 3) (hz : z < 2048) (hσ : σ 245 = updO f r o) (hQ : Q (nI (o z) - nI 1)) : wp_X9_ownerOf σ (nI r) (nI z) Q := by
  unfold wp_X9_ownerOf
  simp (disch := omega) only [forall_eq, forall_eq', n_inT, n_cl, n_lt, n_le, n_eq, n_eq0, n_lt0, n_ge0, n_gt0, n_le0, n_em, n_me, n_add, n_mul, n_00, n_s01, n_1z, n_0z, Nat.one_ne_zero, eq_self, ne_eq, true_and, and_true, true_implies, false_implies, implies_true, not_true_eq_false, not_false_eq_true, false_and, and_false, or_false, false_or, or_true, true_or]
  rw [hσ, updO_at hz]
  exact hQ
theorem nm_inj {a b : Nat} (ha : a < 2 ^ 31) (hb : b < 2 ^ 31) : nI a - nI 1 = nI b - nI 1 ↔ a = b := by
  constructor
  · intro h
    have h2 := congrArg (fun x => x + nI 1) h
    simp only [Int32.sub_add_cancel] at h2
    exact (n_eq ha hb).mp h2
  · rintro rfl; rfl
theorem s_X9_merges {σ : St} {r z n : Nat} {f : Nat → Int32} {o : Nat → Nat} {Q : St → Prop} (hr : r < 3) (hn : n < 10) (hP : PT o) (hz : z < 2048) (ho : o z = n + 1) (hσ : σ 245 = updO f r o) (hQ : Q (sr σ 245 (updO f r (mrg n 10 o z)))) : wp_X9_merges σ (nI r) (nI z) Q := by
  have hz1 := PT.pos hP.1 (show o z ≠ 0 by omega)
  unfold wp_X9_merges
  refine LP2_nat 10 (fun i τ x => ∃ o' z', τ = sr σ 245 (updO f r o') ∧ x = nI z' ∧ PT o' ∧ z' < 2048 ∧ 1 ≤ z' ∧ o' z' = n + 1 ∧ zd z' ≤ 10 - i ∧ mrg n 10 o z = mrg n (10 - i) o' z') ?_ 0 _ _ (Nat.zero_le _) ⟨o, z, by rw [← hσ, sr_self], rfl, hP, hz, hz1, ho, zd_le hz hz1, rfl⟩
  rintro ih i _ _ hi ⟨o', z', rfl, rfl, hP', hz', hz1', ho', hzd, hm⟩ hih
  have hτ : sr σ 245 (updO f r o') 245 = updO f r o' := sr_same _ _ _
  have hx := xor1_lt hz'
  have hb1 := hP'.1.1 _ hx
  unfold wp_X9_merges_2
  simp (disch := omega) only [forall_eq, forall_eq', n_inT, n_cl, n_lt, n_le, n_eq, n_eq0, n_lt0, n_ge0, n_gt0, n_le0, n_em, n_me, n_add, n_mul, n_00, n_s01, n_1z, n_0z, Nat.one_ne_zero, eq_self, ne_eq, true_and, and_true, true_implies, false_implies, implies_true, not_true_eq_false, not_false_eq_true, false_and, and_false, or_false, false_or, or_true, true_or]
  refine ⟨fun h => ?_, fun h => ?_⟩
  · have e : mrg n (10 - i) o' z' = o' := by
      cases 10 - i with
      | zero => rfl
      | succ d => unfold mrg; rw [if_neg (by omega)]
    rw [hm, e] at hQ; exact hQ
  · have hi10 : i < 10 := by
      rcases Nat.lt_or_ge i 10 with q | q
      · exact q
      · exfalso
        have : zd z' = 0 := by omega
        have := (zd_pow hz1').2
        rw [show zd z' = 0 by omega] at this
        omega
    obtain ⟨d, hd⟩ : ∃ d, 10 - i = d + 1 := ⟨9 - i, by omega⟩
    obtain ⟨a1, a2, a3, a4, a5, a6, a7⟩ := xor1_f hz' (by omega)
    refine s_own' hr hz' hτ ?_
    rw [ho', nm_iff (by omega)]
    refine ⟨fun h => absurd h (by omega), fun _ => s_own' hr hz' hτ ?_⟩
    rw [n_xor]
    refine s_own' hr hx hτ ?_
    rw [ho', nm_inj (by omega) (by omega)]
    refine ⟨fun hne => ?_, fun he => s_own' hr hz' hτ ?_⟩
    · rw [hm, hd] at hQ
      unfold mrg at hQ
      rw [if_neg (fun q => hne q.2.symm)] at hQ
      exact hQ
    · rw [ho']
      refine s_X9_owns (v := 0) (f := f) (o := o') hr hz' n_m1a ?_ hτ
      rw [sr_sr]
      refine s_X9_owns (v := 0) (f := f) (o := setO o' z' 0) hr hx n_m1a ?_ (sr_same _ _ _)
      rw [sr_sr, n_div (by omega) (by decide) (by decide)]
      refine s_X9_owns (v := n + 1) (f := f) (o := setO (setO o' z' 0) (z' ^^^ 1) 0) hr (by omega) (by rw [Int32.sub_add_cancel]) ?_ (sr_same _ _ _)
      rw [sr_sr]
      obtain ⟨p1, p2⟩ := hP'.mg1 hz' (by omega) hn ho' he.symm
      refine hih _ _ hi10 ⟨mg1 n o' z', z' / 2, rfl, rfl, p1, by omega, by omega, by rw [mg1_v hz' (by omega), if_pos rfl], ?_, ?_⟩
      · have := (geo_rec z' hz' (by omega)).1
        omega
      · rw [hm, hd]
        conv => lhs; unfold mrg
        rw [if_pos ⟨by omega, he.symm⟩, show 10 - (i + 1) = d by omega]
theorem s_X9_gives {σ : St} {r z n : Nat} {f : Nat → Int32} {o : Nat → Nat} {Q : St → Prop} (hr : r < 3) (hn : n < 10) (hP : PT (setO o z (n + 1))) (hz : z < 2048) (hσ : σ 245 = updO f r o) (hQ : Q (sr σ 245 (updO f r (giv o z n)))) : wp_X9_gives σ (nI r) (nI z) (nI n) Q := by
  unfold wp_X9_gives
  refine s_X9_owns (v := n + 1) (f := f) (o := o) hr hz (n_add n 1) ?_ hσ
  refine s_X9_merges hr hn hP hz (setO_same _ _ _) (sr_same _ _ _) ?_
  rw [sr_sr]
  exact hQ
