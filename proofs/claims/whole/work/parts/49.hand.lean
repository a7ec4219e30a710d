/-! ZONES ARE HANDED -/
theorem gst_updO (f : Nat → Int32) (r : Nat) (o : Nat → Nat) : gst (updO f r o) = gst f := by
  funext n; unfold gst
  by_cases h : n < 10
  · rw [if_pos h, if_pos h, updO_lo (by omega)]
  · rw [if_neg h, if_neg h]
theorem gR_updO (f : Nat → Int32) (r : Nat) (o : Nat → Nat) : gR (updO f r o) = gR f := by unfold gR; rw [updO_lo (by omega)]
theorem gK_updO (f : Nat → Int32) (r : Nat) (o : Nat → Nat) : gK (updO f r o) = gK f := by unfold gK; rw [updO_lo (by omega)]
theorem gpx_updO (f : Nat → Int32) (r : Nat) (o : Nat → Nat) : gpx (updO f r o) = gpx f := by
  funext n; unfold gpx
  by_cases h : n < 10
  · rw [if_pos h, if_pos h, updO_lo (by omega)]
  · rw [if_neg h, if_neg h]
theorem gpy_updO (f : Nat → Int32) (r : Nat) (o : Nat → Nat) : gpy (updO f r o) = gpy f := by
  funext n; unfold gpy
  by_cases h : n < 10
  · rw [if_pos h, if_pos h, updO_lo (by omega)]
  · rw [if_neg h, if_neg h]
theorem gmx_updO (f : Nat → Int32) (r : Nat) (o : Nat → Nat) : gmx (updO f r o) = gmx f := by
  funext n; unfold gmx
  by_cases h : n < 3
  · rw [if_pos h, if_pos h, updO_lo (by omega)]
  · rw [if_neg h, if_neg h]
theorem gmy_updO (f : Nat → Int32) (r : Nat) (o : Nat → Nat) : gmy (updO f r o) = gmy f := by
  funext n; unfold gmy
  by_cases h : n < 3
  · rw [if_pos h, if_pos h, updO_lo (by omega)]
  · rw [if_neg h, if_neg h]
theorem gsd_updO (f : Nat → Int32) (r : Nat) (o : Nat → Nat) : gsd (updO f r o) = gsd f := by
  funext n; unfold gsd
  by_cases h : n < 100
  · rw [if_pos h, if_pos h, updO_lo (by omega)]
  · rw [if_neg h, if_neg h]
theorem gva_updO (f : Nat → Int32) (r : Nat) (o : Nat → Nat) : gva (updO f r o) = gva f := by
  funext n; unfold gva
  by_cases h : n < 100
  · rw [if_pos h, if_pos h, updO_lo (by omega)]
  · rw [if_neg h, if_neg h]
theorem ghd_updO (f : Nat → Int32) (r : Nat) (o : Nat → Nat) : ghd (updO f r o) = ghd f := by
  funext q n; unfold ghd
  by_cases h : q < 3 ∧ n < 100
  · rw [if_pos h, if_pos h, updO_lo (by omega)]
  · rw [if_neg h, if_neg h]
theorem RowOK.updO {f : Nat → Int32} (hf : RowOK f) {r : Nat} (hr : r < 3) {o : Nat → Nat} (hb : ∀ z, z < 2048 → o z ≤ 10) : RowOK (updO f r o) := by
  obtain ⟨h1, h2, h3, h4, h5, h6, h7, h8, h9⟩ := hf
  unfold RowOK
  rw [gst_updO, gpx_updO, gpy_updO, gK_updO, gmx_updO, gmy_updO, gR_updO, gsd_updO, gva_updO, ghd_updO]
  refine ⟨fun n hn => by rw [updO_lo (by omega)]; exact h1 n hn, fun n hn => by rw [updO_lo (by omega), updO_lo (by omega)]; exact h2 n hn, by rw [updO_lo (by omega)]; exact h3, fun i hi => ?_, by rw [updO_lo (by omega)]; exact h5, fun k hk => by rw [updO_lo (by omega)]; exact h6 k hk, fun k hk => by rw [updO_lo (by omega)]; exact h7 k hk, fun q hq k hk => by rw [updO_lo (by omega)]; exact h8 q hq k hk, fun q hq z hz => ?_⟩
  · have := h3.2
    rw [updO_lo (by omega), updO_lo (by omega)]; exact h4 i hi
  · by_cases e : q = r
    · subst e
      rw [updO_at hz]
      have := hb z hz
      unfold gow
      rw [if_pos hz, updO_at hz, n_cl (by omega)]
    · rw [gow_updO_ne e]
      have e3 : (fun j => if 538 + 2048 * r ≤ j ∧ j < 538 + 2048 * r + 2048 then nI (o (j - (538 + 2048 * r))) else f j) (538 + 2048 * q + z) = f (538 + 2048 * q + z) := if_neg (by omega)
      refine Eq.trans e3 ?_
      exact h9 q hq z hz
/-- zones of a node -/
def zlp (o : Nat → Nat) (p n : Nat) : List Nat := (List.range n).filter (fun z => decide (o z = p + 1))
theorem zlp_succ (o : Nat → Nat) (p n : Nat) : zlp o p (n + 1) = zlp o p n ++ (if o n = p + 1 then [n] else []) := by
  unfold zlp
  rw [List.range_succ, List.filter_append]
  congr 1
  by_cases h : o n = p + 1 <;> simp [h]
theorem zlp_mem {o : Nat → Nat} {p n z : Nat} : z ∈ zlp o p n ↔ z < n ∧ o z = p + 1 := by simp [zlp]
theorem zlp_len (o : Nat → Nat) (p : Nat) (h0 : o 0 = 0) : ∀ n, (zlp o p n).length ≤ n - 1
  | 0 => by simp [zlp]
  | n + 1 => by
    rw [zlp_succ]
    have := zlp_len o p h0 n
    cases n with
    | zero => simp [h0, zlp]
    | succ n =>
      rw [List.length_append]
      split <;> simp <;> omega
theorem cnt_zlp (o : Nat → Nat) (p : Nat) : ∀ n, (zlp o p n).length = sumN (fun z => if o z = p + 1 then 1 else 0) n
  | 0 => by simp [zlp, sumN]
  | n + 1 => by
    rw [zlp_succ, List.length_append, cnt_zlp o p n]
    show _ = sumN _ n + (if o n = p + 1 then 1 else 0)
    by_cases h : o n = p + 1 <;> simp [h]
theorem cnt_eq (o : Nat → Nat) (p : Nat) : (zlp o p 2048).length = cnt o p := cnt_zlp o p 2048
theorem cnt_0 {o : Nat → Nat} {p : Nat} : cnt o p = 0 ↔ ∀ z, z < 2048 → o z ≠ p + 1 := by
  rw [← cnt_eq]
  constructor
  · intro h z hz e
    have := List.length_eq_zero_iff.mp h
    have hm : z ∈ zlp o p 2048 := zlp_mem.mpr ⟨hz, e⟩
    rw [this] at hm
    cases hm
  · intro h
    rw [List.length_eq_zero_iff]
    cases e : zlp o p 2048 with
    | nil => rfl
    | cons a l =>
      have hm : a ∈ zlp o p 2048 := by rw [e]; exact List.mem_cons_self
      have := zlp_mem.mp hm
      exact absurd this.2 (h a this.1)
def stepH (ups : Nat) (o : Nat → Nat) (z : Nat) : Nat → Nat := match heir o z ups with
  | some h => giv o z h
  | none => setO o z 0
def hnd (o : Nat → Nat) (p ups : Nat) : Nat → Nat := (zlp o p 2048).foldl (stepH ups) o
theorem heir_in {o : Nat → Nat} {z ups h : Nat} (hu : ups < 1024) (e : heir o z ups = some h) : h < 10 ∧ ups.testBit h = true := by
  unfold heir at e
  have lim : ∀ k, ups.testBit k = true → k < 10 := fun k hk => by
    rcases Nat.lt_or_ge k 10 with q | q
    · exact q
    · have : (1024 : Nat) ≤ 2 ^ k := Nat.pow_le_pow_right (n := 2) (by decide) q
      rw [Nat.testBit_lt_two_pow (by omega)] at hk
      cases hk
  split at e
  · rename_i q
    cases e
    exact ⟨lim _ q.2, q.2⟩
  · cases e2 : lst (vol o) (nbz o z &&& ups) 10 with
    | none =>
      rw [e2] at e
      have := lst_lt 10 h e
      exact ⟨this.1, this.2⟩
    | some b =>
      rw [e2] at e
      cases e
      have := lst_lt 10 _ e2
      rw [Nat.testBit_and, Bool.and_eq_true] at this
      exact ⟨this.1, this.2.2⟩
theorem heir_no {o : Nat → Nat} {z ups : Nat} (hu : ups < 1024) : heir o z ups = none ↔ ups = 0 := by
  constructor
  · intro e
    unfold heir at e
    split at e
    · cases e
    · cases e2 : lst (vol o) (nbz o z &&& ups) 10 with
      | none => rw [e2] at e; exact (lst_zero hu).mp e
      | some b => rw [e2] at e; cases e
  · rintro rfl
    cases e : heir o z 0 with
    | none => rfl
    | some h => have := heir_in (by decide) e; simp at this
/-- what a hand-over keeps -/
def HI (o : Nat → Nat) (p : Nat) (L : List Nat) (o' : Nat → Nat) : Prop :=
  PT o' ∧ (∀ y, 2048 ≤ y → o' y = 0) ∧ (∀ y, o' y = p + 1 ↔ (o y = p + 1 ∧ y ∉ L)) ∧ (∀ m, m ≠ p → (∃ y, y < 2048 ∧ o y = m + 1) → ∃ y, y < 2048 ∧ o' y = m + 1)
theorem HI.step {o o' : Nat → Nat} {p ups z : Nat} {L : List Nat} (h : HI o p L o') (hu : ups < 1024) (h0 : ups ≠ 0) (hp : ups.testBit p = false) (hz : z < 2048) (hoz : o z = p + 1) (hzL : z ∉ L) : HI o p (L ++ [z]) (stepH ups o' z) ∧ cnt (stepH ups o' z) p + 1 = cnt o' p ∧ ∃ hh, hh < 10 ∧ ups.testBit hh = true ∧ heir o' z ups = some hh ∧ stepH ups o' z = giv o' z hh := by
  have e1 : o' z = p + 1 := (h.2.2.1 z).mpr ⟨hoz, hzL⟩
  cases e : heir o' z ups with
  | none => exact absurd ((heir_no hu).mp e) h0
  | some hh =>
    obtain ⟨hl, hb⟩ := heir_in hu e
    have hne : p ≠ hh := fun q => by rw [← q, hp] at hb; cases hb
    have es : stepH ups o' z = giv o' z hh := by unfold stepH; rw [e]
    obtain ⟨g1, g2, g3⟩ := giv_ok h.1 hz (by omega) hl
    rw [es]
    refine ⟨⟨g1, giv_hi h.1 hz (by omega) hl h.2.1, fun y => ?_, fun m hm hex => ?_⟩, ?_, hh, hl, hb, rfl, rfl⟩
    · rw [g2 p hne y, h.2.2.1 y, List.mem_append, List.mem_singleton]
      constructor
      · rintro ⟨⟨a, b⟩, c⟩; exact ⟨a, fun q => q.elim b c⟩
      · rintro ⟨a, b⟩; exact ⟨⟨a, fun q => b (Or.inl q)⟩, fun q => b (Or.inr q)⟩
    · by_cases q : m = hh
      · rw [q]; exact g3
      · obtain ⟨y, hy, ey⟩ := h.2.2.2 m hm hex
        exact ⟨y, hy, (g2 m q y).mpr ⟨ey, fun q2 => by rw [q2, e1] at ey; omega⟩⟩
    · have m1 := (mrg_ok hl 10 (setO o' z (hh + 1)) z (h.1.set hz (by omega) hl) hz (setO_same _ _ _)).2.2.2.2.1 p hne
      have m2 := cnt_set o' hz (hh + 1) p
      rw [e1, if_pos rfl, if_neg (by omega)] at m2
      unfold giv
      rw [m1]
      omega
theorem HI.all {o : Nat → Nat} {p ups : Nat} (hP : PT o) (hhi : ∀ y, 2048 ≤ y → o y = 0) (hu : ups < 1024) (h0 : ups ≠ 0) (hp : ups.testBit p = false) : ∀ k, k ≤ 2048 → HI o p (zlp o p k) ((zlp o p k).foldl (stepH ups) o)
  | 0, _ => by
    simp only [zlp, List.range_zero, List.filter_nil, List.foldl_nil]
    exact ⟨hP, hhi, fun y => by simp, fun m _ h => h⟩
  | k + 1, hk => by
    have ih := HI.all hP hhi hu h0 hp k (by omega)
    rw [zlp_succ]
    by_cases e : o k = p + 1
    · rw [if_pos e, List.foldl_append, List.foldl_cons, List.foldl_nil]
      exact (ih.step hu h0 hp (by omega) e (fun q => by have := (zlp_mem.mp q).1; omega)).1
    · rw [if_neg e, List.append_nil]
      exact ih
theorem nm_eq {a b : Nat} (ha : a < 2 ^ 31) (hb : b < 2 ^ 31) : nI a - nI 1 = nI b ↔ a = b + 1 := by
  rcases Nat.eq_zero_or_pos a with q | q
  · subst q
    rw [n_s01, n_me hb]
    constructor
    · exact False.elim
    · intro h; omega
  · rw [n_sub (by omega), n_eq (by omega) hb]
    omega
theorem s_X4_handAll {σ : St} {s p ups : Nat} {o : Nat → Nat} {Q : St → Prop} (hs : SpRep σ s o) (hP : PT o) (hhi : ∀ y, 2048 ≤ y → o y = 0) (hp : p < 10) (hu : ups < 1024) (h0 : ups ≠ 0) (hup : ups.testBit p = false)
    (hQ : ∀ τ, Spf s σ τ → SpRep τ s (hnd o p ups) → Q τ) : wp_X4_handAll σ s (nI p) (nI ups) Q := by
  unfold wp_X4_handAll
  simp (disch := omega) only [forall_eq, forall_eq', n_inT, n_cl, n_lt, n_le, n_eq, n_eq0, n_lt0, n_ge0, n_gt0, n_le0, n_em, n_me, n_add, n_mul, n_00, n_s01, n_1z, n_0z, Nat.one_ne_zero, eq_self, ne_eq, true_and, and_true, true_implies, false_implies, implies_true, not_true_eq_false, not_false_eq_true, false_and, and_false, or_false, false_or, or_true, true_or]
  rw [hs.2.2 p hp]
  refine LP3_nat 2048 (fun i τ x y => y = nI i ∧ Spf s σ τ ∧ SpRep τ s ((zlp o p i).foldl (stepH ups) o) ∧ x = nI (cnt ((zlp o p i).foldl (stepH ups) o) p)) ?_ 1 _ _ _ (by decide) ⟨rfl, Spf.rf s σ, ?_⟩
  · rintro ih i τ _ _ hi ⟨rfl, hS, hR, rfl⟩ hih
    have hH := HI.all hP hhi hu h0 hup i hi
    have hc31 := cnt_31 ((zlp o p i).foldl (stepH ups) o) p
    unfold wp_X4_handAll_10
    simp (disch := omega) only [forall_eq, forall_eq', n_inT, n_cl, n_lt, n_le, n_eq, n_eq0, n_lt0, n_ge0, n_gt0, n_le0, n_em, n_me, n_add, n_mul, n_00, n_s01, n_1z, n_0z, Nat.one_ne_zero, eq_self, ne_eq, true_and, and_true, true_implies, false_implies, implies_true, not_true_eq_false, not_false_eq_true, false_and, and_false, or_false, false_or, or_true, true_or]
    refine ⟨fun h => ?_, fun h => ⟨fun h2 => ?_, fun h2 => ?_⟩⟩
    · have e : i = 2048 := by omega
      subst e
      exact hQ τ hS hR
    · refine hQ τ hS ?_
      have hz0 := cnt_0.mp h2
      have key : ∀ k, i ≤ k → k ≤ 2048 → zlp o p k = zlp o p i := by
        intro k
        induction k with
        | zero => intro a b; rw [show i = 0 by omega]
        | succ k ihk =>
          intro a b
          rcases Nat.lt_or_ge k i with q | q
          · rw [show i = k + 1 by omega]
          · rw [zlp_succ, ihk q (by omega), if_neg, List.append_nil]
            intro e
            exact hz0 k (by omega) ((hH.2.2.1 k).mpr ⟨e, fun q2 => by have := (zlp_mem.mp q2).1; omega⟩)
      unfold hnd
      rw [key 2048 (by omega) (by omega)]
      exact hR
    · have hil : i < 2048 := by omega
      have hob := hH.1.1.1 i hil
      refine ⟨n_in hil (by decide), ?_⟩
      rw [hR.1 i hil, n_eq (by omega) (by omega), n_dec (by omega)]
      have hiff : ((zlp o p i).foldl (stepH ups) o) i = p + 1 ↔ o i = p + 1 := by
        rw [hH.2.2.1 i]
        constructor
        · exact fun q => q.1
        · exact fun q => ⟨q, fun q2 => by have := (zlp_mem.mp q2).1; omega⟩
      rw [hiff]
      refine ⟨fun hne => ?_, fun he => ?_⟩
      · have e2 : zlp o p (i + 1) = zlp o p i := by rw [zlp_succ, if_neg hne, List.append_nil]
        exact hih _ _ _ hil ⟨rfl, hS, by rw [e2]; exact hR, by rw [e2]⟩
      · obtain ⟨st1, st2, hh, hl, hb, hhe, es⟩ := hH.step hu h0 hup hil he (fun q2 => by have := (zlp_mem.mp q2).1; omega)
        have eL : (zlp o p (i + 1)).foldl (stepH ups) o = stepH ups ((zlp o p i).foldl (stepH ups) o) i := by
          rw [zlp_succ, if_pos he, List.foldl_append, List.foldl_cons, List.foldl_nil]
        have e1 := hiff.mpr he
        refine s_X4_heirOf hR hH.1.1 hH.1.2.1 hH.1.2.2 hil (by omega) hu (by rw [e1, Nat.add_sub_cancel]; exact hup) ?_
        rw [hhe]
        refine ⟨fun q => absurd q (by rw [nO, n_em (by omega)]; exact not_false), fun _ => ?_⟩
        refine s_X4_give hR hH.1.1 hil (PT.pos hH.1.1 (by omega)) hl (hH.1.set hil (by omega) hl) (fun τ' hS' hR' => ?_)
        exact hih _ _ _ hil ⟨rfl, hS.tr hS', by rw [eL, es]; exact hR', by rw [eL]; congr 1; omega⟩
  · have e1 : zlp o p 1 = [] := by
      rw [zlp_succ]
      simp [zlp, hP.1.2]
    rw [e1]
    exact ⟨hs, rfl⟩
