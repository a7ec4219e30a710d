/-! THE K-TH ZONE OF A NODE -/
theorem n_ofI {x : Int32} (h : ¬ x < 0) : x = nI x.toNatClampNeg ∧ x.toNatClampNeg < 2 ^ 31 := by
  have h1 : (0 : Int) ≤ x.toInt := by
    have := Int32.not_lt.mp h
    have h2 := Int32.le_iff_toInt_le.mp this
    have h3 : (0 : Int32).toInt = 0 := by decide
    omega
  have h2 := Int32.toInt_lt x
  have h3 : x.toNatClampNeg = x.toInt.toNat := rfl
  refine ⟨?_, by omega⟩
  apply Int32.toInt_inj.mp
  rw [nI_toInt (by omega), h3]
  omega
theorem n_ofL {x : Int32} {n : Nat} (hn : n < 2 ^ 31) (h : ¬ x < 0) (hl : x < nI n) : ∃ k, x = nI k ∧ k < n := by
  obtain ⟨e, hk⟩ := n_ofI h
  refine ⟨x.toNatClampNeg, e, ?_⟩
  rw [e] at hl
  exact (n_lt hk hn).mp hl
theorem n_ofG {x : Int32} {n : Nat} (hn : n < 2 ^ 31) (h : ¬ x < 0) (hl : ¬ x < nI n) : ∃ k, x = nI k ∧ n ≤ k ∧ k < 2 ^ 31 := by
  obtain ⟨e, hk⟩ := n_ofI h
  refine ⟨x.toNatClampNeg, e, ?_, hk⟩
  rw [e, n_lt hk hn] at hl
  omega
theorem n_neN {x : Int32} {n : Nat} (hn : n < 2 ^ 31) (h : x < 0) : ¬ nI n = x := fun e => by rw [← e, n_lt0 hn] at h; exact h
theorem zlp_nth {o : Nat → Nat} {p i : Nat} (ho : o i = p + 1) : ∀ n, i < n → (zlp o p n).getD (zlp o p i).length 0 = i ∧ (zlp o p i).length < (zlp o p n).length
  | 0, h => absurd h (by omega)
  | n + 1, h => by
    rw [zlp_succ]
    rcases Nat.lt_or_ge i n with q | q
    · obtain ⟨h1, h2⟩ := zlp_nth ho n q
      by_cases c : o n = p + 1
      · rw [if_pos c, getD_snoc, if_pos h2, List.length_append]
        exact ⟨h1, by omega⟩
      · rw [if_neg c, List.append_nil]
        exact ⟨h1, h2⟩
    · have e : i = n := by omega
      subst e
      rw [if_pos ho, getD_snoc, if_neg (by omega), if_pos rfl, List.length_append, List.length_singleton]
      exact ⟨rfl, by omega⟩
/-- the k-th zone of a node as the calls answer it -/
def zof (o : Nat → Nat) (p : Nat) (k : Int32) : Int32 := if 0 ≤ k ∧ k.toNatClampNeg < cnt o p then nI ((zlp o p 2048).getD k.toNatClampNeg 0) else -1
theorem zof_neg {o : Nat → Nat} {p : Nat} {k : Int32} (h : k < 0) : zof o p k = -1 := if_neg (fun q => absurd h (Int32.not_lt.mpr q.1))
theorem zof_ge {o : Nat → Nat} {p k : Nat} (hk : k < 2 ^ 31) (h : cnt o p ≤ k) : zof o p (nI k) = -1 := if_neg (fun q => by rw [n_cl hk] at q; omega)
theorem zof_lt {o : Nat → Nat} {p k : Nat} (hk : k < 2 ^ 31) (h : k < cnt o p) : zof o p (nI k) = nI ((zlp o p 2048).getD k 0) := by
  unfold zof
  rw [if_pos (by rw [n_cl hk]; exact ⟨(n_ge0 hk).mpr trivial, h⟩), n_cl hk]
theorem s_X4_zoneOfN {σ : St} {s p k : Nat} {o : Nat → Nat} {Q : Int32 → Prop} (hs : SpRep σ s o) (hb : OB o) (hp : p < 10) (hk : k < cnt o p) (hQ : Q (nI ((zlp o p 2048).getD k 0))) : wp_X4_zoneOf σ s (nI p) (nI k) Q := by
  have hc := cnt_lt o p
  unfold wp_X4_zoneOf
  simp (disch := omega) only [forall_eq, forall_eq', n_inT, n_cl, n_lt, n_le, n_eq, n_eq0, n_lt0, n_ge0, n_gt0, n_le0, n_em, n_me, n_add, n_mul, n_00, n_s01, n_1z, n_0z, Nat.one_ne_zero, eq_self, ne_eq, true_and, and_true, true_implies, false_implies, implies_true, not_true_eq_false, not_false_eq_true, false_and, and_false, or_false, false_or, or_true, true_or]
  rw [hs.2.2 p hp, n_lt (by omega) (by omega)]
  refine ⟨fun _ => ?_, fun q => absurd hk q⟩
  refine LP2_nat 2048 (fun i x y => y = nI i ∧ x = nI (zlp o p i).length ∧ (zlp o p i).length ≤ k) ?_ 1 _ _ (by decide) ⟨rfl, ?_, ?_⟩
  · rintro ih i _ _ hi ⟨rfl, rfl, hle⟩ hih
    unfold wp_X4_zoneOf_21
    have hl := zlp_len o p hb.2 i
    simp (disch := omega) only [forall_eq, forall_eq', n_inT, n_cl, n_lt, n_le, n_eq, n_eq0, n_lt0, n_ge0, n_gt0, n_le0, n_em, n_me, n_add, n_mul, n_00, n_s01, n_1z, n_0z, Nat.one_ne_zero, eq_self, ne_eq, true_and, and_true, true_implies, false_implies, implies_true, not_true_eq_false, not_false_eq_true, false_and, and_false, or_false, false_or, or_true, true_or]
    refine ⟨fun q => ?_, fun q => ⟨n_in (by omega) (by decide), ?_⟩⟩
    · have e : i = 2048 := by omega
      subst e
      rw [cnt_eq] at hle
      omega
    · have hil : i < 2048 := by omega
      have hbi := hb.1 i hil
      rw [hs.1 i hil, n_eq (by omega) (by omega)]
      refine ⟨fun c => hih _ _ hil ⟨rfl, ?_, ?_⟩, fun c => ⟨fun c2 => hih _ _ hil ⟨rfl, ?_, ?_⟩, fun c2 => ?_⟩⟩
      · rw [zlp_succ, if_neg c, List.append_nil]
      · rw [zlp_succ, if_neg c, List.append_nil]; exact hle
      · rw [zlp_succ, if_pos c, List.length_append, List.length_singleton]
      · rw [zlp_succ, if_pos c, List.length_append, List.length_singleton]; omega
      · rw [← c2, (zlp_nth c 2048 hil).1] at hQ
        exact hQ
  · rw [zlp_succ]; simp [zlp, hb.2]
  · rw [zlp_succ]; simp [zlp, hb.2]
theorem s_X4_zoneOf {σ : St} {s p : Nat} {k : Int32} {o : Nat → Nat} {Q : Int32 → Prop} (hs : SpRep σ s o) (hb : OB o) (hp : p < 10) (hQ : Q (zof o p k)) : wp_X4_zoneOf σ s (nI p) k Q := by
  have hc := cnt_lt o p
  by_cases h : k < 0
  · rw [zof_neg h] at hQ
    exact ⟨fun _ => hQ, fun q => absurd h q⟩
  · obtain ⟨e, hk⟩ := n_ofI h
    generalize k.toNatClampNeg = K at *
    subst e
    rcases Nat.lt_or_ge K (cnt o p) with q | q
    · rw [zof_lt hk q] at hQ
      exact s_X4_zoneOfN hs hb hp q hQ
    · rw [zof_ge hk q] at hQ
      unfold wp_X4_zoneOf
      simp (disch := omega) only [forall_eq, forall_eq', n_inT, n_cl, n_lt, n_le, n_eq, n_eq0, n_lt0, n_ge0, n_gt0, n_le0, n_em, n_me, n_add, n_mul, n_00, n_s01, n_1z, n_0z, Nat.one_ne_zero, eq_self, ne_eq, true_and, and_true, true_implies, false_implies, implies_true, not_true_eq_false, not_false_eq_true, false_and, and_false, or_false, false_or, or_true, true_or]
      rw [hs.2.2 p hp, n_lt (by omega) (by omega)]
      exact ⟨fun t => absurd t (by omega), fun _ => hQ⟩
theorem s_X9_zoneOf {σ : St} {r p : Nat} {k : Int32} {Q : Int32 → Prop} (hf : RowOK (σ 245)) (hb : OB (gow (σ 245) r)) (hr : r < gR (σ 245)) (hp : p < 10) (hQ : Q (zof (gow (σ 245) r) p k)) : wp_X9_zoneOf σ (nI p) (nI r) k Q := by
  generalize ho : gow (σ 245) r = o at *
  have hc := cnt_lt o p
  refine LP2_nat 2048 (fun i x y => y = nI i ∧ x = nI (zlp o p i).length ∧ ∀ K, k = nI K → K < 2 ^ 31 → (zlp o p i).length ≤ K) ?_ 1 _ _ (by decide) ⟨rfl, ?_, ?_⟩
  · rintro ih i _ _ hi ⟨rfl, rfl, hle⟩ hih
    unfold wp_X9_zoneOf_6
    have hl := zlp_len o p hb.2 i
    simp (disch := omega) only [forall_eq, forall_eq', n_inT, n_cl, n_lt, n_le, n_eq, n_eq0, n_lt0, n_ge0, n_gt0, n_le0, n_em, n_me, n_add, n_mul, n_00, n_s01, n_1z, n_0z, Nat.one_ne_zero, eq_self, ne_eq, true_and, and_true, true_implies, false_implies, implies_true, not_true_eq_false, not_false_eq_true, false_and, and_false, or_false, false_or, or_true, true_or]
    refine ⟨fun q => ?_, fun q => ?_⟩
    · have e : i = 2048 := by omega
      subst e
      by_cases h : k < 0
      · rw [zof_neg h] at hQ; exact hQ
      · obtain ⟨e, hk⟩ := n_ofI h
        have := hle _ e hk
        rw [cnt_eq] at this
        rw [e, zof_ge hk this] at hQ
        exact hQ
    · have hil : i < 2048 := by omega
      have hbi := hb.1 i hil
      refine s_X9_ownerOf hf hr hil ?_
      rw [ho, nm_eq (by omega) (by omega)]
      refine ⟨fun c => ⟨fun c2 => hih _ _ hil ⟨rfl, ?_, fun K e hK => ?_⟩, fun c2 => ?_⟩, fun c => hih _ _ hil ⟨rfl, ?_, fun K e hK => ?_⟩⟩
      · rw [zlp_succ, if_pos c, List.length_append, List.length_singleton]
      · have := hle K e hK
        rw [zlp_succ, if_pos c, List.length_append, List.length_singleton]
        rcases Nat.lt_or_ge (zlp o p i).length K with t | t
        · omega
        · exact absurd (by rw [e]; congr 1; omega) c2
      · obtain ⟨n1, n2⟩ := zlp_nth c 2048 hil
        rw [← c2, zof_lt (by omega) (by rw [← cnt_eq]; exact n2), n1] at hQ
        exact hQ
      · rw [zlp_succ, if_neg c, List.append_nil]
      · rw [zlp_succ, if_neg c, List.append_nil]; exact hle K e hK
  · rw [zlp_succ]; simp [zlp, hb.2]
  · intro K _ _
    rw [zlp_succ]; simp [zlp, hb.2]
