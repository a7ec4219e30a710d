/-! the class gives a zone -/
def Spf (s : Nat) (σ τ : St) : Prop := ∀ b, b ≠ s + 1 → b ≠ s + 2 → b ≠ s + 3 → τ b = σ b
theorem Spf.rf (s : Nat) (σ : St) : Spf s σ σ := fun _ _ _ _ => rfl
theorem Spf.tr {s : Nat} {σ τ ρ : St} (h1 : Spf s σ τ) (h2 : Spf s τ ρ) : Spf s σ ρ := fun b x y z => (h2 b x y z).trans (h1 b x y z)
theorem Spf.su {s : Nat} {σ τ : St} (h : Spf s σ τ) {a i : Nat} {v : Int32} (ha : a = s + 1 ∨ a = s + 2 ∨ a = s + 3) : Spf s σ (su τ a i v) := fun b x y z => by rw [su_ne (by omega)]; exact h b x y z
theorem rowIs_set {f : Nat → Int32} {n : Nat} {g : Nat → Nat} (h : rowIs f n g) (i v : Nat) : rowIs (upd f i (nI v)) n (setO g i v) := by
  intro j hj
  unfold upd setO
  by_cases e : j = i
  · rw [if_pos e, if_pos e]
  · rw [if_neg e, if_neg e]; exact h j hj
theorem rowIs_congr {f : Nat → Int32} {n : Nat} {g g' : Nat → Nat} (h : rowIs f n g) (e : ∀ i, i < n → g i = g' i) : rowIs f n g' := fun i hi => by rw [← e i hi]; exact h i hi
theorem PT.one {o : Nat → Nat} (h : ∀ z, o z = 0) {n : Nat} (hn : n < 10) : PT (setO o 1 (n + 1)) := by
  have key : ∀ y, setO o 1 (n + 1) y ≠ 0 → y = 1 := fun y hy => Classical.byContradiction fun q => hy (by rw [setO_ne q]; exact h y)
  refine ⟨⟨fun y _ => ?_, by rw [setO_ne (by decide)]; exact h 0⟩, fun c c1 c2 => ⟨10, Nat.le_refl _, ?_⟩, fun y j hy hj hne => ?_⟩
  · by_cases e : y = 1
    · rw [e, setO_same]; omega
    · rw [setO_ne e, h y]; omega
  · rw [show c / 2 ^ 10 = 1 by rw [Nat.div_eq_of_lt_le] <;> omega, setO_same]; omega
  · rw [key y hne, setO_ne, h]
    have : 1 / 2 ^ j = 0 := Nat.div_eq_of_lt (Nat.one_lt_two_pow (by omega))
    omega
theorem s_X4_give_46 {σ σ0 : St} {s z n : Nat} {o V C : Nat → Nat} {Q : St → Prop} (h1 : rowIs (σ (s + 1)) 2048 o) (h2 : rowIs (σ (s + 2)) 10 V) (h3 : rowIs (σ (s + 3)) 10 C) (hz : z < 2048) (hz1 : 1 ≤ z) (hn : n < 10) (hP : PT (setO o z (n + 1)))
    (hV : ∀ m, m < 10 → V m + (if m = n then zsz z else 0) = vol (setO o z (n + 1)) m) (hC : ∀ m, m < 10 → C m + (if m = n then 1 else 0) = cnt (setO o z (n + 1)) m) (hS : Spf s σ0 σ)
    (hQ : ∀ τ, Spf s σ0 τ → SpRep τ s (giv o z n) → Q τ) : wp_X4_give_46 σ s (nI z) (nI n) (nI (zsz z)) Q := by
  unfold wp_X4_give_46
  have e13 : s + 1 ≠ s + 3 := by omega
  have e12 : s + 1 ≠ s + 2 := by omega
  have e23 : s + 2 ≠ s + 3 := by omega
  have e32 : s + 3 ≠ s + 2 := by omega
  have e31 : s + 3 ≠ s + 1 := by omega
  have e21 : s + 2 ≠ s + 1 := by omega
  simp (disch := omega) only [su_ne e32, su_ne e13, su_ne e12, forall_eq, forall_eq', n_inT, n_cl, n_lt, n_le, n_eq, n_eq0, n_lt0, n_ge0, n_gt0, n_le0, n_em, n_me, n_add, n_mul, n_00, n_s01, n_1z, n_0z, Nat.one_ne_zero, eq_self, ne_eq, true_and, and_true, true_implies, false_implies, implies_true, not_true_eq_false, not_false_eq_true, false_and, and_false, or_false, false_or, or_true, true_or]
  rw [h2 n hn, h3 n hn, n_add, n_add]
  generalize hτ : su (su (su σ (s + 2) n (nI (V n + zsz z))) (s + 3) n (nI (C n + 1))) (s + 1) z (nI (n + 1)) = τ0
  have t1 : rowIs (τ0 (s + 1)) 2048 (setO o z (n + 1)) := by
    rw [← hτ, su_same, su_ne e13, su_ne e12]
    exact rowIs_set h1 z (n + 1)
  have t2 : rowIs (τ0 (s + 2)) 10 (vol (setO o z (n + 1))) := by
    rw [← hτ, su_ne e21, su_ne e23, su_same]
    refine rowIs_congr (rowIs_set h2 n (V n + zsz z)) (fun i hi => ?_)
    rw [← hV i hi]
    by_cases e : i = n
    · subst e; rw [setO_same, if_pos rfl]
    · rw [setO_ne e, if_neg e, Nat.add_zero]
  have t3 : rowIs (τ0 (s + 3)) 10 (cnt (setO o z (n + 1))) := by
    rw [← hτ, su_ne e31, su_same, su_ne e32]
    refine rowIs_congr (rowIs_set h3 n (C n + 1)) (fun i hi => ?_)
    rw [← hC i hi]
    by_cases e : i = n
    · subst e; rw [setO_same, if_pos rfl]
    · rw [setO_ne e, if_neg e, Nat.add_zero]
  have t4 : Spf s σ0 τ0 := by
    rw [← hτ]
    exact ((hS.su (Or.inr (Or.inl rfl))).su (Or.inr (Or.inr rfl))).su (Or.inl rfl)
  unfold giv at hQ
  generalize ho1 : setO o z (n + 1) = o1 at *
  have hoz : o1 z = n + 1 := by rw [← ho1, setO_same]
  refine LP3_nat 10 (fun i τ x y => y = nI i ∧ Spf s σ0 τ ∧ ∃ o' z', SpRep τ s o' ∧ x = nI z' ∧ PT o' ∧ z' < 2048 ∧ 1 ≤ z' ∧ o' z' = n + 1 ∧ mrg n 10 o1 z = mrg n (10 - i) o' z') ?_ 0 _ _ _ (Nat.zero_le _) ⟨rfl, t4, o1, z, ⟨t1, t2, t3⟩, rfl, hP, hz, hz1, hoz, rfl⟩
  rintro ih i τ _ _ hi ⟨rfl, hSf, o', z', ⟨r1, r2, r3⟩, rfl, hP', hz', hz1', ho', hm⟩ hih
  have hx := xor1_lt hz'
  have hb1 := hP'.1.1 _ hx
  unfold wp_X4_give_81
  rw [n_xor]
  simp (disch := omega) only [su_ne e31, su_ne e13, forall_eq, forall_eq', n_inT, n_cl, n_lt, n_le, n_eq, n_eq0, n_lt0, n_ge0, n_gt0, n_le0, n_em, n_me, n_add, n_mul, n_00, n_s01, n_1z, n_0z, Nat.one_ne_zero, eq_self, ne_eq, true_and, and_true, true_implies, false_implies, implies_true, not_true_eq_false, not_false_eq_true, false_and, and_false, or_false, false_or, or_true, true_or]
  rw [r1 _ hx]
  refine ⟨fun h => ?_, fun h => ⟨fun h2 => ?_, fun h2 => ?_⟩⟩
  · have e : i = 10 := by omega
    subst e
    exact hQ τ hSf (by rw [hm]; exact ⟨r1, r2, r3⟩)
  · refine hQ τ hSf ?_
    obtain ⟨d, hd⟩ : ∃ d, 10 - i = d + 1 := ⟨9 - i, by omega⟩
    rw [hm, hd]
    unfold mrg
    rw [if_neg (by omega)]
    exact ⟨r1, r2, r3⟩
  · obtain ⟨a1, a2, a3, a4, a5, a6, a7⟩ := xor1_f hz' (by omega)
    obtain ⟨d, hd⟩ : ∃ d, 10 - i = d + 1 := ⟨9 - i, by omega⟩
    rw [n_eq (by omega) (by omega)]
    refine ⟨fun hne => ?_, fun he => ?_⟩
    · refine hQ τ hSf ?_
      rw [hm, hd]
      unfold mrg
      rw [if_neg (fun q => hne q.2)]
      exact ⟨r1, r2, r3⟩
    · obtain ⟨p1, p2⟩ := hP'.mg1 hz' (by omega) hn ho' he
      have hv := vol_mg1 hz' (by omega) ho' he p2
      have hcn := (hv n).2
      rw [if_pos rfl] at hcn
      rw [n_shr (by omega) (by decide), Nat.pow_one]
      simp (disch := omega) only [forall_eq, forall_eq', n_inT, n_cl, n_lt, n_le, n_eq, n_eq0, n_lt0, n_ge0, n_gt0, n_le0, n_em, n_me, n_add, n_mul, n_00, n_s01, n_1z, n_0z, Nat.one_ne_zero, eq_self, ne_eq, true_and, and_true, true_implies, false_implies, implies_true, not_true_eq_false, not_false_eq_true, false_and, and_false, or_false, false_or, or_true, true_or]
      rw [r3 n hn, n_sub (by omega)]
      refine hih _ _ _ (by omega) ⟨rfl, (((hSf.su (Or.inl rfl)).su (Or.inl rfl)).su (Or.inl rfl)).su (Or.inr (Or.inr rfl)), mg1 n o' z', z' / 2, ⟨?_, ?_, ?_⟩, rfl, p1, by omega, by omega, by rw [mg1_v hz' (by omega), if_pos rfl], ?_⟩
      · rw [su_ne e13, su_same, su_same, su_same]
        exact rowIs_set (rowIs_set (rowIs_set r1 z' 0) (z' ^^^ 1) 0) (z' / 2) (n + 1)
      · rw [su_ne e23, su_ne e21, su_ne e21, su_ne e21]
        exact rowIs_congr r2 (fun m _ => ((hv m).1).symm)
      · rw [su_same, su_ne e31, su_ne e31, su_ne e31]
        refine rowIs_congr (rowIs_set r3 n (cnt o' n - 1)) (fun m _ => ?_)
        have := (hv m).2
        by_cases e : m = n
        · subst e; rw [setO_same]; omega
        · rw [setO_ne e]; rw [if_neg e] at this; omega
      · rw [hm, hd]
        conv => lhs; unfold mrg
        rw [if_pos ⟨by omega, he⟩, show 10 - (i + 1) = d by omega]
theorem s_X4_give {σ : St} {s z n : Nat} {o : Nat → Nat} {Q : St → Prop} (hs : SpRep σ s o) (hb : OB o) (hz : z < 2048) (hz1 : 1 ≤ z) (hn : n < 10) (hP : PT (setO o z (n + 1)))
    (hQ : ∀ τ, Spf s σ τ → SpRep τ s (giv o z n) → Q τ) : wp_X4_give σ s (nI z) (nI n) Q := by
  obtain ⟨h1, h2, h3⟩ := hs
  have hd := zd_le hz hz1
  have hoz := hb.1 z hz
  unfold wp_X4_give
  refine s_X4_depthOf hz1 hz ?_
  rw [n_shr (by decide) (by omega)]
  simp (disch := omega) only [forall_eq, forall_eq', n_inT, n_cl, n_lt, n_le, n_eq, n_eq0, n_lt0, n_ge0, n_gt0, n_le0, n_em, n_me, n_add, n_mul, n_00, n_s01, n_1z, n_0z, Nat.one_ne_zero, eq_self, ne_eq, true_and, and_true, true_implies, false_implies, implies_true, not_true_eq_false, not_false_eq_true, false_and, and_false, or_false, false_or, or_true, true_or]
  rw [h1 z hz]
  have e23 : s + 3 ≠ s + 2 := by omega
  have e13 : s + 1 ≠ s + 3 := by omega
  have e12 : s + 1 ≠ s + 2 := by omega
  have e32 : s + 2 ≠ s + 3 := by omega
  have hv : ∀ m, _ := fun m => vol_set o hz (n + 1) m
  have hc : ∀ m, _ := fun m => cnt_set o hz (n + 1) m
  cases e : o z with
  | zero =>
    rw [n_s01]
    refine ⟨fun _ => ?_, fun h => absurd n_ltm1 h⟩
    refine s_X4_give_46 h1 h2 h3 hz hz1 hn hP (fun m _ => ?_) (fun m _ => ?_) (Spf.rf s σ) hQ
    · have := hv m
      rw [e, if_neg (by omega)] at this
      by_cases q : m = n
      · subst q; simp at this ⊢; omega
      · rw [if_neg (by omega)] at this; rw [if_neg q]; omega
    · have := hc m
      rw [e, if_neg (by omega)] at this
      by_cases q : m = n
      · subst q; simp at this ⊢; omega
      · rw [if_neg (by omega)] at this; rw [if_neg q]; omega
  | succ p =>
    have hp : p < 10 := by omega
    rw [n_sub (by omega), Nat.add_sub_cancel]
    have hvp : zsz z ≤ vol o p := by
      have := vol_set o hz 0 p
      rw [e, if_pos rfl, if_neg (by omega)] at this
      omega
    have hcp : 1 ≤ cnt o p := by
      have := cnt_set o hz 0 p
      rw [e, if_pos rfl, if_neg (by omega)] at this
      omega
    simp (disch := omega) only [su_ne e23, forall_eq, forall_eq', n_inT, n_cl, n_lt, n_le, n_eq, n_eq0, n_lt0, n_ge0, n_gt0, n_le0, n_em, n_me, n_add, n_mul, n_00, n_s01, n_1z, n_0z, Nat.one_ne_zero, eq_self, ne_eq, true_and, and_true, true_implies, false_implies, implies_true, not_true_eq_false, not_false_eq_true, false_and, and_false, or_false, false_or, or_true, true_or]
    rw [h2 p hp, h3 p hp, show nI (1024 / 2 ^ zd z) = nI (zsz z) from rfl, n_sub hvp, n_sub hcp]
    refine s_X4_give_46 (V := setO (vol o) p (vol o p - zsz z)) (C := setO (cnt o) p (cnt o p - 1)) (by rw [su_ne e13, su_ne e12]; exact h1) (by rw [su_ne e32, su_same]; exact rowIs_set h2 p _) (by rw [su_same, su_ne e23]; exact rowIs_set h3 p _) hz hz1 hn hP (fun m _ => ?_) (fun m _ => ?_) (((Spf.rf s σ).su (Or.inr (Or.inl rfl))).su (Or.inr (Or.inr rfl))) hQ
    · have := hv m
      rw [e] at this
      by_cases q : m = p
      · subst q
        rw [setO_same]
        rw [if_pos rfl] at this
        by_cases q2 : m = n
        · subst q2; simp at this ⊢; omega
        · rw [if_neg (by omega)] at this; rw [if_neg q2]; omega
      · rw [setO_ne q]
        rw [if_neg (by omega)] at this
        by_cases q2 : m = n
        · subst q2; simp at this ⊢; omega
        · rw [if_neg (by omega)] at this; rw [if_neg q2]; omega
    · have := hc m
      rw [e] at this
      by_cases q : m = p
      · subst q
        rw [setO_same]
        rw [if_pos rfl] at this
        by_cases q2 : m = n
        · subst q2; simp at this ⊢; omega
        · rw [if_neg (by omega)] at this; rw [if_neg q2]; omega
      · rw [setO_ne q]
        rw [if_neg (by omega)] at this
        by_cases q2 : m = n
        · subst q2; simp at this ⊢; omega
        · rw [if_neg (by omega)] at this; rw [if_neg q2]; omega
