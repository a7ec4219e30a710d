/-! TIDY: what it does to the owners -/
def nz (o : Nat → Nat) : Nat := sumN (fun z => if o z ≠ 0 then 1 else 0) 2048
theorem nz_len (o : Nat → Nat) : (zl o 2048).length = nz o := by
  have h := sum_zl o (fun _ => 1) 2048
  rw [sumN_const, Nat.mul_one] at h
  exact h
theorem nz_set (o : Nat → Nat) {z : Nat} (hz : z < 2048) (v : Nat) : nz (setO o z v) + (if o z ≠ 0 then 1 else 0) = nz o + (if v ≠ 0 then 1 else 0) := by
  have h := sumN_set (g := fun y => if setO o z v y ≠ 0 then 1 else 0) (h := fun y => if o y ≠ 0 then 1 else 0) (k := z) 2048 hz (fun j _ hj => by rw [setO_ne hj])
  rw [setO_same] at h
  exact h
theorem nz_mg1 {o : Nat → Nat} {z n : Nat} (hz : z < 2048) (h1 : 1 < z) (e1 : o z = n + 1) (e2 : o (z ^^^ 1) = n + 1) (e3 : o (z / 2) = 0) : nz (mg1 n o z) + 1 = nz o := by
  obtain ⟨a1, a2, a3, a4, a5, a6, a7⟩ := xor1_f hz h1
  have c1 := nz_set o hz 0
  have c2 := nz_set (setO o z 0) a4 0
  have c3 := nz_set (setO (setO o z 0) (z ^^^ 1) 0) (show z / 2 < 2048 by omega) (n + 1)
  rw [setO_ne a1, e2] at c2
  rw [setO_ne (show z / 2 ≠ z ^^^ 1 by omega), setO_ne (show z / 2 ≠ z by omega), e3] at c3
  rw [e1] at c1
  unfold mg1
  rw [if_pos (by omega), if_neg (by decide)] at c1
  rw [if_pos (by omega), if_neg (by decide)] at c2
  rw [if_neg (by decide), if_pos (by omega)] at c3
  omega
theorem nz_mrg {n : Nat} (hn : n < 10) : ∀ (d : Nat) (o : Nat → Nat) (z : Nat), PT o → z < 2048 → o z = n + 1 → nz (mrg n d o z) ≤ nz o ∧ (1 < z → o (z ^^^ 1) = n + 1 → 1 ≤ d → nz (mrg n d o z) + 1 ≤ nz o)
  | 0, o, z, h, hz, e => ⟨Nat.le_refl _, fun _ _ q => absurd q (by decide)⟩
  | d + 1, o, z, h, hz, e => by
    unfold mrg
    by_cases c : 1 < z ∧ o (z ^^^ 1) = n + 1
    · rw [if_pos c]
      obtain ⟨p1, p2⟩ := h.mg1 hz c.1 hn e c.2
      have h1 := nz_mg1 hz c.1 e c.2 p2
      have h2 := (nz_mrg hn d (mg1 n o z) (z / 2) p1 (by omega) (by rw [mg1_v hz c.1, if_pos rfl])).1
      exact ⟨by omega, fun _ _ _ => by omega⟩
    · rw [if_neg c]
      exact ⟨Nat.le_refl _, fun q1 q2 _ => absurd ⟨q1, q2⟩ c⟩
theorem nz_giv {o : Nat → Nat} {z n : Nat} (h : PT o) (hz : z < 2048) (h0 : o z ≠ 0) (hn : n < 10) : nz (giv o z n) ≤ nz o ∧ (1 < z → o (z ^^^ 1) = n + 1 → nz (giv o z n) + 1 ≤ nz o) := by
  have h1 := nz_mrg hn 10 (setO o z (n + 1)) z (h.set hz h0 hn) hz (setO_same _ _ _)
  have h2 := nz_set o hz (n + 1)
  rw [if_pos h0, if_pos (by omega)] at h2
  unfold giv
  refine ⟨by omega, fun q1 q2 => ?_⟩
  have := h1.2 q1 (by rw [setO_ne (xor1_f hz q1).1]; exact q2) (by decide)
  omega
/-! a partition has at most as many zones as there are cells -/
theorem sumN_add (g h : Nat → Nat) : ∀ n, sumN (fun i => g i + h i) n = sumN g n + sumN h n
  | 0 => rfl
  | n + 1 => by unfold sumN; rw [sumN_add g h n]; omega
theorem sumN_swap (g : Nat → Nat → Nat) (m : Nat) : ∀ n, sumN (fun i => sumN (fun j => g i j) m) n = sumN (fun j => sumN (fun i => g i j) n) m
  | 0 => by
    show 0 = sumN (fun j => 0) m
    rw [sumN_zero]
  | n + 1 => by
    show sumN _ n + _ = sumN (fun j => sumN (fun i => g i j) n + g n j) m
    rw [sumN_add, sumN_swap g m n]
theorem sumN_one {P : Nat → Bool} : ∀ n, (∀ i j, i < n → j < n → P i = true → P j = true → i = j) → sumN (fun i => if P i = true then 1 else 0) n ≤ 1
  | 0, _ => Nat.zero_le _
  | n + 1, h => by
    show sumN _ n + (if P n = true then 1 else 0) ≤ 1
    by_cases c : P n = true
    · rw [if_pos c]
      have : sumN (fun i => if P i = true then 1 else 0) n = sumN (fun _ => 0) n := sumN_congr n (fun j hj => by
        rw [if_neg]
        intro q
        have := h j n (by omega) (by omega) q c
        omega)
      rw [this, sumN_zero]
      omega
    · rw [if_neg c]
      have := sumN_one n (fun i j hi hj => h i j (by omega) (by omega))
      omega
theorem sumN_pos {g : Nat → Nat} {k : Nat} (hk : 1 ≤ g k) : ∀ n, k < n → 1 ≤ sumN g n
  | 0, h => absurd h (by omega)
  | n + 1, h => by
    show 1 ≤ sumN g n + g n
    rcases Nat.lt_or_ge k n with q | q
    · have := sumN_pos hk n q; omega
    · rw [show n = k by omega]; omega
theorem nz_le {o : Nat → Nat} (hb : OB o) (hc : chain o) : nz o ≤ 1024 := by
  have h1 : nz o ≤ sumN (fun z => sumN (fun c => if o z ≠ 0 ∧ (1024 + c) / 2 ^ (10 - zd z) = z then 1 else 0) 1024) 2048 := by
    refine sumN_le 2048 (fun z hz => ?_)
    by_cases e : o z = 0
    · rw [if_neg (by simpa using e)]; exact Nat.zero_le _
    · rw [if_pos e]
      have z1 := PT.pos hb e
      have hd := zd_le hz z1
      have hp := zd_pow z1
      have a1 : 2 ^ zd z * 2 ^ (10 - zd z) = 1024 := by rw [← Nat.pow_add, show zd z + (10 - zd z) = 10 by omega]
      have a2 : 2 ^ (zd z + 1) * 2 ^ (10 - zd z) = 2048 := by rw [← Nat.pow_add, show zd z + 1 + (10 - zd z) = 11 by omega]
      have a3 : 1024 ≤ z * 2 ^ (10 - zd z) := by rw [← a1]; exact Nat.mul_le_mul hp.1 (Nat.le_refl _)
      have a4 : z * 2 ^ (10 - zd z) < 2048 := by rw [← a2]; exact Nat.mul_lt_mul_of_pos_right hp.2 (Nat.two_pow_pos _)
      refine sumN_pos (k := z * 2 ^ (10 - zd z) - 1024) ?_ 1024 (by omega)
      rw [if_pos ⟨e, by rw [show 1024 + (z * 2 ^ (10 - zd z) - 1024) = z * 2 ^ (10 - zd z) by omega, Nat.mul_div_cancel _ (Nat.two_pow_pos _)]⟩]
      exact Nat.le_refl _
  rw [sumN_swap] at h1
  refine Nat.le_trans h1 ?_
  have h2 := sumN_le (g := fun c => sumN (fun z => if o z ≠ 0 ∧ (1024 + c) / 2 ^ (10 - zd z) = z then 1 else 0) 2048) (h := fun _ => 1) 1024 (fun c hcl => by
    have hh := sumN_one (P := fun z => decide (o z ≠ 0 ∧ (1024 + c) / 2 ^ (10 - zd z) = z)) 2048 (fun i j hi hj pi pj => by
      have pi := of_decide_eq_true pi
      have pj := of_decide_eq_true pj
      have e1 := zat_eq hc (c := 1024 + c) (i := 10 - zd i) (by omega) (by omega) (by omega) (by rw [pi.2]; exact pi.1)
      have e2 := zat_eq hc (c := 1024 + c) (i := 10 - zd j) (by omega) (by omega) (by omega) (by rw [pj.2]; exact pj.1)
      rw [pi.2] at e1
      rw [pj.2] at e2
      omega)
    simp only [decide_eq_true_eq] at hh
    exact hh)
  rw [sumN_const] at h2
  exact h2
theorem sumN_ind (a : Nat) : ∀ N, sumN (fun n => if a = n + 1 then 1 else 0) N = if 1 ≤ a ∧ a ≤ N then 1 else 0
  | 0 => by rw [if_neg (by omega)]; rfl
  | N + 1 => by
    show sumN _ N + (if a = N + 1 then 1 else 0) = _
    rw [sumN_ind a N]
    by_cases e : a = N + 1
    · rw [if_pos e, if_neg (by omega), if_pos (by omega)]
    · rw [if_neg e]
      by_cases e2 : 1 ≤ a ∧ a ≤ N
      · rw [if_pos e2, if_pos (by omega)]
      · rw [if_neg e2, if_neg (by omega)]
theorem nz_cnt {o : Nat → Nat} (hb : OB o) : sumN (cnt o) 10 = nz o := by
  show sumN (fun n => sumN (fun z => if o z = n + 1 then 1 else 0) 2048) 10 = _
  rw [sumN_swap]
  refine sumN_congr 2048 (fun z hz => ?_)
  rw [sumN_ind]
  have := hb.1 z hz
  by_cases e : o z = 0
  · rw [if_neg (by omega), if_neg (by simpa using e)]
  · rw [if_pos (by omega), if_pos e]
/-! the last zone of a node -/
def lz (o : Nat → Nat) (p : Nat) : Nat := (zlp o p 2048).getD (cnt o p - 1) 0
theorem zlp_last {o : Nat → Nat} {p : Nat} : ∀ n, 0 < (zlp o p n).length → (zlp o p n).getD ((zlp o p n).length - 1) 0 < n ∧ o ((zlp o p n).getD ((zlp o p n).length - 1) 0) = p + 1 ∧ ∀ z, z < n → o z = p + 1 → z ≤ (zlp o p n).getD ((zlp o p n).length - 1) 0
  | 0, h => by simp [zlp] at h
  | n + 1, h => by
    rw [zlp_succ] at h ⊢
    by_cases c : o n = p + 1
    · rw [if_pos c, List.length_append, List.length_singleton, Nat.add_sub_cancel, getD_snoc, if_neg (by omega), if_pos rfl]
      exact ⟨by omega, c, fun z hz _ => by omega⟩
    · rw [if_neg c, List.append_nil] at h ⊢
      obtain ⟨h1, h2, h3⟩ := zlp_last n h
      refine ⟨by omega, h2, fun z hz e => ?_⟩
      rcases Nat.lt_or_ge z n with q | q
      · exact h3 z q e
      · exact absurd (by rw [← show z = n by omega]; exact e) c
theorem zlp_rise (o : Nat → Nat) (p : Nat) : ∀ n i j, i < j → j < (zlp o p n).length → (zlp o p n).getD i 0 < (zlp o p n).getD j 0
  | 0, i, j, _, h => by simp [zlp] at h
  | n + 1, i, j, hij, hj => by
    rw [zlp_succ] at hj ⊢
    by_cases h : o n = p + 1
    · rw [if_pos h] at hj ⊢
      rw [List.length_append, List.length_singleton] at hj
      rw [getD_snoc, getD_snoc, if_pos (by omega)]
      rcases Nat.lt_or_ge j (zlp o p n).length with q | q
      · rw [if_pos q]; exact zlp_rise o p n i j hij q
      · rw [if_neg (by omega), if_pos (by omega)]
        exact (zlp_mem.mp (getD_mem (show i < (zlp o p n).length by omega))).1
    · rw [if_neg h, List.append_nil] at hj ⊢
      exact zlp_rise o p n i j hij hj
theorem lz_ok {o : Nat → Nat} {p : Nat} (h : 0 < cnt o p) : lz o p < 2048 ∧ o (lz o p) = p + 1 ∧ ∀ z, z < 2048 → o z = p + 1 → z ≤ lz o p := by
  unfold lz
  rw [← cnt_eq] at h ⊢
  exact zlp_last 2048 h
theorem lz_two {o : Nat → Nat} {p : Nat} (hb : OB o) (h : 1 < cnt o p) : 1 < lz o p ∧ ∃ z, z < lz o p ∧ o z = p + 1 := by
  obtain ⟨l1, l2, l3⟩ := lz_ok (show 0 < cnt o p by omega)
  have hlen := cnt_eq o p
  have m0 := zlp_mem.mp (getD_mem (d := 0) (show 0 < (zlp o p 2048).length by omega))
  have hr := zlp_rise o p 2048 0 (cnt o p - 1) (by omega) (by omega)
  have z0 := PT.pos hb (show o ((zlp o p 2048).getD 0 0) ≠ 0 by rw [m0.2]; omega)
  refine ⟨?_, _, hr, m0.2⟩
  show 1 < (zlp o p 2048).getD (cnt o p - 1) 0
  omega
/-! the deepest twins within a zone -/
def ins (q w : Nat) : Bool := (List.range 11).any (fun j => decide (q / 2 ^ j = w))
theorem ins_iff {q w : Nat} (hq : q < 2048) (hw : 1 ≤ w) : ins q w = true ↔ ∃ j, q / 2 ^ j = w := by
  unfold ins
  simp only [List.any_eq_true, List.mem_range, decide_eq_true_eq]
  constructor
  · rintro ⟨j, -, h⟩; exact ⟨j, h⟩
  · rintro ⟨j, h⟩
    refine ⟨j, ?_, h⟩
    rcases Nat.lt_or_ge j 11 with c | c
    · exact c
    · have : 2 ^ 11 ≤ 2 ^ j := Nat.pow_le_pow_right (by decide) c
      rw [Nat.div_eq_of_lt (by omega)] at h
      omega
def tw (o : Nat → Nat) (w q : Nat) : Bool := ins q w && decide (o (2 * q) ≠ 0) && decide (o (2 * q + 1) ≠ 0)
theorem tw_iff {o : Nat → Nat} {w q : Nat} : tw o w q = true ↔ ins q w = true ∧ o (2 * q) ≠ 0 ∧ o (2 * q + 1) ≠ 0 := by
  unfold tw
  rw [Bool.and_eq_true, Bool.and_eq_true, decide_eq_true_eq, decide_eq_true_eq, and_assoc]
def twF (o : Nat → Nat) (w : Nat) : Nat → Option Nat
  | 0 => none
  | n + 1 => if tw o w n then (match twF o w n with | none => some n | some b => if zd b < zd n then some n else some b) else twF o w n
theorem twF_some {o : Nat → Nat} {w : Nat} : ∀ n b, twF o w n = some b → b < n ∧ tw o w b = true ∧ ∀ q, q < n → tw o w q = true → zd q < zd b ∨ (zd q = zd b ∧ b ≤ q)
  | 0, b, h => by simp [twF] at h
  | n + 1, b, h => by
    unfold twF at h
    by_cases c : tw o w n = true
    · rw [if_pos c] at h
      cases e : twF o w n with
      | none =>
        rw [e] at h
        cases h
        have hno : ∀ m, twF o w m = none → ∀ q, q < m → ¬ tw o w q = true := by
          intro m
          induction m with
          | zero => intro _ q hq; omega
          | succ m ih =>
            intro hm q hq
            unfold twF at hm
            by_cases c2 : tw o w m = true
            · rw [if_pos c2] at hm
              cases e2 : twF o w m with
              | none => rw [e2] at hm; cases hm
              | some b => rw [e2] at hm; dsimp only at hm; split at hm <;> cases hm
            · rw [if_neg c2] at hm
              rcases Nat.lt_or_ge q m with t | t
              · exact ih hm q t
              · rw [show q = m by omega]; exact c2
        refine ⟨by omega, c, fun q hq ht => ?_⟩
        rcases Nat.lt_or_ge q n with t | t
        · exact absurd ht (hno n e q t)
        · rw [show q = n by omega]; exact Or.inr ⟨rfl, Nat.le_refl _⟩
      | some b' =>
        rw [e] at h
        dsimp only at h
        obtain ⟨i1, i2, i3⟩ := twF_some n b' e
        by_cases c2 : zd b' < zd n
        · rw [if_pos c2] at h
          cases h
          refine ⟨by omega, c, fun q hq ht => ?_⟩
          rcases Nat.lt_or_ge q n with t | t
          · have := i3 q t ht; omega
          · rw [show q = n by omega]; exact Or.inr ⟨rfl, Nat.le_refl _⟩
        · rw [if_neg c2] at h
          cases h
          refine ⟨by omega, i2, fun q hq ht => ?_⟩
          rcases Nat.lt_or_ge q n with t | t
          · exact i3 q t ht
          · rw [show q = n by omega]
            omega
    · rw [if_neg c] at h
      obtain ⟨i1, i2, i3⟩ := twF_some n b h
      refine ⟨by omega, i2, fun q hq ht => ?_⟩
      rcases Nat.lt_or_ge q n with t | t
      · exact i3 q t ht
      · rw [show q = n by omega] at ht; exact absurd ht c
theorem twF_ex {o : Nat → Nat} {w q : Nat} (ht : tw o w q = true) : ∀ n, q < n → ∃ b, twF o w n = some b
  | 0, h => absurd h (by omega)
  | n + 1, h => by
    unfold twF
    by_cases c : tw o w n = true
    · rw [if_pos c]
      cases twF o w n with
      | none => exact ⟨_, rfl⟩
      | some b => dsimp only; split <;> exact ⟨_, rfl⟩
    · rw [if_neg c]
      refine twF_ex ht n ?_
      rcases Nat.lt_or_ge q n with t | t
      · exact t
      · rw [show q = n by omega] at ht; exact absurd ht c
theorem div_up (v j : Nat) : v / 2 ^ (j + 1) = v / 2 / 2 ^ j := by rw [Nat.pow_succ, Nat.mul_comm (2 ^ j) 2, ← Nat.div_div_eq_div_mul]
theorem tw_down {o : Nat → Nat} (hP : PT o) {w : Nat} (hw : 1 ≤ w) : ∀ d v, 10 - zd v ≤ d → v < 2048 → 1 ≤ v → (∀ j, o (v / 2 ^ j) = 0) → (∃ j, v / 2 ^ j = w) → ∃ q, q < 1024 ∧ tw o w q = true := by
  intro d
  induction d with
  | zero =>
    intro v hd hv h1 hno hin
    have hz := zd_pow h1
    have hl := zd_le hv h1
    have : 1024 ≤ v := by
      have : zd v = 10 := by omega
      rw [this] at hz; omega
    obtain ⟨j, _, hne⟩ := hP.2.1 v this hv
    exact absurd (hno j) hne
  | succ d ih =>
    intro v hd hv h1 hno hin
    have hv2 : v < 1024 := by
      rcases Nat.lt_or_ge v 1024 with q | q
      · exact q
      · obtain ⟨j, _, hne⟩ := hP.2.1 v q hv
        exact absurd (hno j) hne
    obtain ⟨j, hj⟩ := hin
    have hdb := zd_dbl h1
    have up : ∀ b, b < 2 → (∀ j, o ((2 * v + b) / 2 ^ (j + 1)) = 0) := fun b hb j => by
      rw [div_up, show (2 * v + b) / 2 = v by omega]
      exact hno j
    have inn : ∀ b, b < 2 → ∃ j, (2 * v + b) / 2 ^ j = w := fun b hb => ⟨j + 1, by rw [div_up, show (2 * v + b) / 2 = v by omega]; exact hj⟩
    by_cases c0 : o (2 * v) = 0
    · refine ih (2 * v) (by omega) (by omega) (by omega) (fun j => ?_) (inn 0 (by decide))
      cases j with
      | zero => rw [Nat.pow_zero, Nat.div_one]; exact c0
      | succ j => exact up 0 (by decide) j
    · by_cases c1 : o (2 * v + 1) = 0
      · refine ih (2 * v + 1) (by omega) (by omega) (by omega) (fun j => ?_) (inn 1 (by decide))
        cases j with
        | zero => rw [Nat.pow_zero, Nat.div_one]; exact c1
        | succ j => exact up 1 (by decide) j
      · exact ⟨v, hv2, tw_iff.mpr ⟨(ins_iff hv hw).mpr ⟨j, hj⟩, c0, c1⟩⟩
theorem tw_ex {o : Nat → Nat} (hP : PT o) {s : Nat} (hs : s < 2048) (h1 : 1 < s) (hos : o s ≠ 0) (hw : o (s ^^^ 1) = 0) : ∃ b, twF o (s ^^^ 1) 1024 = some b := by
  obtain ⟨a1, a2, a3, a4, a5, a6, a7⟩ := xor1_f hs h1
  obtain ⟨q, hq, ht⟩ := tw_down hP (w := s ^^^ 1) (by omega) 10 (s ^^^ 1) (by omega) a4 (by omega) (fun j => by
    cases j with
    | zero => rw [Nat.pow_zero, Nat.div_one]; exact hw
    | succ j =>
      have := hP.2.2 s (j + 1) hs (by omega) hos
      rw [div_up] at this ⊢
      rw [a2]; exact this) ⟨0, by rw [Nat.pow_zero, Nat.div_one]⟩
  exact twF_ex ht 1024 hq
theorem ins_zd {q w : Nat} (hq : 1 ≤ q) (hql : q < 2048) (hw : 1 ≤ w) (h : ins q w = true) : zd w ≤ zd q := by
  obtain ⟨j, hj⟩ := (ins_iff hql hw).mp h
  exact zd_mono hw (by rw [← hj]; exact Nat.div_le_self _ _)
theorem ins_pos {q w : Nat} (hql : q < 2048) (hw : 1 ≤ w) (h : ins q w = true) : 1 ≤ q := by
  obtain ⟨j, hj⟩ := (ins_iff hql hw).mp h
  rcases Nat.eq_zero_or_pos q with c | c
  · rw [c, Nat.zero_div] at hj; omega
  · exact c
/-! one turn -/
def tst (o : Nat → Nat) (p : Nat) : Nat → Nat :=
  if o (lz o p ^^^ 1) ≠ 0 then giv o (lz o p) (o (lz o p ^^^ 1) - 1)
  else giv (giv o (2 * ((twF o (lz o p ^^^ 1) 1024).getD 0) + 1) (o (2 * ((twF o (lz o p ^^^ 1) 1024).getD 0)) - 1)) (lz o p) (o (2 * ((twF o (lz o p ^^^ 1) 1024).getD 0) + 1) - 1)
def own1 (o : Nat → Nat) (m : Nat) : Prop := ∃ y, y < 2048 ∧ o y = m + 1
theorem xor1_zd {s : Nat} (hs : s < 2048) (h1 : 1 < s) : zd (s ^^^ 1) = zd s := by
  obtain ⟨a1, a2, a3, a4, a5, a6, a7⟩ := xor1_f hs h1
  have g1 := (geo_rec s hs (by omega)).1
  have g2 := (geo_rec (s ^^^ 1) a4 (by omega)).1
  rw [a2] at g2
  omega
/-- the twins are not the scattered node's -/
theorem tw_far {o : Nat → Nat} (hP : PT o) {p b : Nat} (hc : 1 < cnt o p) (hb : b < 1024) (ht : tw o (lz o p ^^^ 1) b = true) : 1 ≤ b ∧ lz o p < 2 * b ∧ o (2 * b) ≠ p + 1 ∧ o (2 * b + 1) ≠ p + 1 := by
  obtain ⟨l1, l2, l3⟩ := lz_ok (show 0 < cnt o p by omega)
  obtain ⟨t1, -⟩ := lz_two hP.1 hc
  obtain ⟨a1, a2, a3, a4, a5, a6, a7⟩ := xor1_f l1 t1
  obtain ⟨i1, i2, i3⟩ := tw_iff.mp ht
  have b1 := ins_pos (show b < 2048 by omega) (by omega) i1
  have hz := ins_zd b1 (by omega) (by omega) i1
  rw [xor1_zd l1 t1] at hz
  have hd := (zd_dbl b1).1
  have hlt : lz o p < 2 * b := by
    have h1 := zd_pow (k := lz o p) (by omega)
    have h2 := zd_pow (k := 2 * b) (by omega)
    have : 2 ^ (zd (lz o p) + 1) ≤ 2 ^ zd (2 * b) := Nat.pow_le_pow_right (by decide) (by omega)
    omega
  refine ⟨b1, hlt, fun q => ?_, fun q => ?_⟩
  · have := l3 (2 * b) (by omega) q; omega
  · have := l3 (2 * b + 1) (by omega) q; omega
theorem tst_ok {o : Nat → Nat} (hP : PT o) (hhi : ∀ y, 2048 ≤ y → o y = 0) {p : Nat} (hp : p < 10) (hc : 1 < cnt o p) : PT (tst o p) ∧ (∀ y, 2048 ≤ y → tst o p y = 0) ∧ nz (tst o p) + 1 ≤ nz o ∧ ∀ m, own1 (tst o p) m ↔ own1 o m := by
  obtain ⟨l1, l2, l3⟩ := lz_ok (show 0 < cnt o p by omega)
  obtain ⟨t1, z0, t2, t3⟩ := lz_two hP.1 hc
  obtain ⟨a1, a2, a3, a4, a5, a6, a7⟩ := xor1_f l1 t1
  unfold tst
  by_cases c : o (lz o p ^^^ 1) = 0
  · rw [if_neg (by simpa using c)]
    obtain ⟨b, eb⟩ := tw_ex hP l1 t1 (by omega) c
    rw [eb, Option.getD_some]
    obtain ⟨b1, b2, -⟩ := twF_some 1024 b eb
    obtain ⟨f1, f2, f3, f4⟩ := tw_far hP hc b1 b2
    obtain ⟨-, i2, i3⟩ := tw_iff.mp b2
    have hM := hP.1.1 (2 * b) (by omega)
    have hH := hP.1.1 (2 * b + 1) (by omega)
    obtain ⟨M, eM⟩ : ∃ M, o (2 * b) = M + 1 := ⟨o (2 * b) - 1, by omega⟩
    obtain ⟨H, eH⟩ : ∃ H, o (2 * b + 1) = H + 1 := ⟨o (2 * b + 1) - 1, by omega⟩
    rw [eM, eH, Nat.add_sub_cancel, Nat.add_sub_cancel]
    have hx : (2 * b + 1) ^^^ 1 = 2 * b := by rw [xor1 _ (by omega), if_neg (by omega)]; omega
    obtain ⟨g1, g2, g3⟩ := giv_ok hP (z := 2 * b + 1) (n := M) (by omega) i3 (by omega)
    have gh := giv_hi hP (z := 2 * b + 1) (n := M) (by omega) i3 (by omega) hhi
    have gn := (nz_giv hP (z := 2 * b + 1) (n := M) (by omega) i3 (by omega)).2 (by omega) (by rw [hx]; exact eM)
    have hpM : p ≠ M := fun q => f3 (by rw [eM, q])
    have hs1 : giv o (2 * b + 1) M (lz o p) = p + 1 := (g2 p hpM _).mpr ⟨l2, by omega⟩
    generalize giv o (2 * b + 1) M = o1 at *
    obtain ⟨k1, k2, k3⟩ := giv_ok g1 (z := lz o p) (n := H) l1 (by omega) (by omega)
    have kh := giv_hi g1 (z := lz o p) (n := H) l1 (by omega) (by omega) gh
    have kn := (nz_giv g1 (z := lz o p) (n := H) l1 (by omega) (by omega)).1
    refine ⟨k1, kh, by omega, fun m => ?_⟩
    by_cases e1 : m = H
    · subst e1
      exact ⟨fun _ => ⟨2 * b + 1, by omega, eH⟩, fun _ => k3⟩
    · by_cases e2 : m = M
      · subst e2
        refine ⟨fun _ => ⟨2 * b, by omega, eM⟩, fun _ => ?_⟩
        obtain ⟨y, hy, ey⟩ := g3
        exact ⟨y, hy, (k2 m e1 y).mpr ⟨ey, fun q => by rw [q, hs1] at ey; omega⟩⟩
      · constructor
        · rintro ⟨y, hy, ey⟩
          exact ⟨y, hy, ((g2 m e2 y).mp ((k2 m e1 y).mp ey).1).1⟩
        · rintro ⟨y, hy, ey⟩
          by_cases e3 : m = p
          · subst e3
            refine ⟨z0, by omega, (k2 m e1 z0).mpr ⟨(g2 m e2 z0).mpr ⟨t3, fun q => ?_⟩, by omega⟩⟩
            rw [q, eH] at t3; omega
          · refine ⟨y, hy, (k2 m e1 y).mpr ⟨(g2 m e2 y).mpr ⟨ey, fun q => ?_⟩, fun q => ?_⟩⟩
            · rw [q, eH] at ey; omega
            · rw [q, l2] at ey; omega
  · rw [if_pos c]
    have hN := hP.1.1 _ a4
    obtain ⟨n, en⟩ : ∃ n, o (lz o p ^^^ 1) = n + 1 := ⟨o (lz o p ^^^ 1) - 1, by omega⟩
    rw [en, Nat.add_sub_cancel]
    obtain ⟨g1, g2, g3⟩ := giv_ok hP (z := lz o p) (n := n) l1 (by omega) (by omega)
    have gh := giv_hi hP (z := lz o p) (n := n) l1 (by omega) (by omega) hhi
    have gn := (nz_giv hP (z := lz o p) (n := n) l1 (by omega) (by omega)).2 t1 en
    refine ⟨g1, gh, gn, fun m => ?_⟩
    by_cases e1 : m = n
    · subst e1
      exact ⟨fun _ => ⟨_, a4, en⟩, fun _ => g3⟩
    · constructor
      · rintro ⟨y, hy, ey⟩
        exact ⟨y, hy, ((g2 m e1 y).mp ey).1⟩
      · rintro ⟨y, hy, ey⟩
        by_cases e3 : m = p
        · subst e3
          exact ⟨z0, by omega, (g2 m e1 z0).mpr ⟨t3, by omega⟩⟩
        · exact ⟨y, hy, (g2 m e1 y).mpr ⟨ey, fun q => by rw [q, l2] at ey; omega⟩⟩
/-- the least node that has more than one zone -/
def scF (o : Nat → Nat) : Nat → Option Nat
  | 0 => none
  | n + 1 => match scF o n with
    | some p => some p
    | none => if 1 < cnt o n then some n else none
def scat (o : Nat → Nat) : Option Nat := scF o 10
theorem scF_some {o : Nat → Nat} : ∀ n p, scF o n = some p → p < n ∧ 1 < cnt o p ∧ ∀ m, m < p → cnt o m ≤ 1
  | 0, p, h => by simp [scF] at h
  | n + 1, p, h => by
    unfold scF at h
    cases e : scF o n with
    | some b =>
      rw [e] at h
      cases h
      have := scF_some n _ e
      exact ⟨by omega, this.2⟩
    | none =>
      rw [e] at h
      dsimp only at h
      by_cases c : 1 < cnt o n
      · rw [if_pos c] at h
        cases h
        refine ⟨by omega, c, ?_⟩
        have : ∀ k, scF o k = none → ∀ m, m < k → cnt o m ≤ 1 := by
          intro k
          induction k with
          | zero => intro _ m hm; omega
          | succ k ih =>
            intro hk m hm
            unfold scF at hk
            cases e2 : scF o k with
            | some b => rw [e2] at hk; cases hk
            | none =>
              rw [e2] at hk
              dsimp only at hk
              by_cases c2 : 1 < cnt o k
              · rw [if_pos c2] at hk; cases hk
              · rcases Nat.lt_or_ge m k with t | t
                · exact ih e2 m t
                · rw [show m = k by omega]; omega
        exact this n e
      · rw [if_neg c] at h; cases h
theorem scF_none {o : Nat → Nat} : ∀ k, scF o k = none → ∀ m, m < k → cnt o m ≤ 1 := by
  intro k
  induction k with
  | zero => intro _ m hm; omega
  | succ k ih =>
    intro hk m hm
    unfold scF at hk
    cases e2 : scF o k with
    | some b => rw [e2] at hk; cases hk
    | none =>
      rw [e2] at hk
      dsimp only at hk
      by_cases c2 : 1 < cnt o k
      · rw [if_pos c2] at hk; cases hk
      · rcases Nat.lt_or_ge m k with t | t
        · exact ih e2 m t
        · rw [show m = k by omega]; omega
theorem scat_is {o : Nat → Nat} {p : Nat} (hp : p < 10) (h1 : 1 < cnt o p) (hm : ∀ m, m < p → cnt o m ≤ 1) : scat o = some p := by
  cases e : scat o with
  | none => have := scF_none 10 e p hp; omega
  | some b =>
    obtain ⟨b1, b2, b3⟩ := scF_some 10 b e
    rcases Nat.lt_trichotomy b p with q | q | q
    · have := hm b q; omega
    · rw [q]
    · have := b3 p q; omega
theorem scat_no {o : Nat → Nat} (hm : ∀ m, m < 10 → cnt o m ≤ 1) : scat o = none := by
  cases e : scat o with
  | none => rfl
  | some b =>
    obtain ⟨b1, b2, -⟩ := scF_some 10 b e
    have := hm b b1; omega
def tdy : Nat → (Nat → Nat) → (Nat → Nat)
  | 0, o => o
  | k + 1, o => match scat o with
    | none => o
    | some p => tdy k (tst o p)
theorem tdy_stop {o : Nat → Nat} (h : scat o = none) : ∀ k, tdy k o = o
  | 0 => rfl
  | k + 1 => by unfold tdy; rw [h]
theorem tdy_ok : ∀ k (o : Nat → Nat), PT o → (∀ y, 2048 ≤ y → o y = 0) → PT (tdy k o) ∧ (∀ y, 2048 ≤ y → tdy k o y = 0) ∧ nz (tdy k o) ≤ nz o ∧ ∀ m, own1 (tdy k o) m ↔ own1 o m
  | 0, o, hP, hh => ⟨hP, hh, Nat.le_refl _, fun _ => Iff.rfl⟩
  | k + 1, o, hP, hh => by
    unfold tdy
    cases e : scat o with
    | none => exact ⟨hP, hh, Nat.le_refl _, fun _ => Iff.rfl⟩
    | some p =>
      obtain ⟨s1, s2, -⟩ := scF_some 10 p e
      obtain ⟨t1, t2, t3, t4⟩ := tst_ok hP hh s1 s2
      obtain ⟨r1, r2, r3, r4⟩ := tdy_ok k (tst o p) t1 t2
      exact ⟨r1, r2, Nat.le_trans r3 (by omega), fun m => (r4 m).trans (t4 m)⟩
theorem tdy_own {o st : Nat → Nat} (h : OwnOK o st) (hh : ∀ y, 2048 ≤ y → o y = 0) (k : Nat) : OwnOK (tdy k o) st ∧ (∀ y, 2048 ≤ y → tdy k o y = 0) ∧ nz (tdy k o) ≤ nz o := by
  by_cases hs : some1 st
  · have hP : PT o := ⟨h.1.1, h.1.2.1 hs, h.1.2.2.1⟩
    obtain ⟨r1, r2, r3, r4⟩ := tdy_ok k o hP hh
    refine ⟨⟨⟨r1.1, fun _ => r1.2.1, r1.2.2, fun z n hz e => ?_⟩, fun n hn q => (r4 n).mpr (h.2 n hn q)⟩, r2, r3⟩
    obtain ⟨y, hy, ey⟩ := (r4 n).mp ⟨z, hz, e⟩
    exact h.1.2.2.2 y n hy ey
  · have h0 : ∀ m, m < 10 → cnt o m ≤ 1 := fun m _ => by
      rw [cnt_0.mpr (fun z hz q => by rw [h.1.none hs hz] at q; omega)]
      omega
    rw [tdy_stop (scat_no h0)]
    exact ⟨h, hh, Nat.le_refl _⟩
