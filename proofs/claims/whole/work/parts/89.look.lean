/-! WHAT IS BESIDE, HOW FAR -/
theorem n_wrap (a : Nat) : nI (a + 4294967296) = nI a := by
  apply n_ext
  rw [n_bv, n_bv]
  apply BitVec.eq_of_toNat_eq
  rw [BitVec.toNat_ofNat, BitVec.toNat_ofNat]
  exact Nat.add_mod_right a 4294967296
theorem n_subw {a b : Nat} (hb : b ≤ a + 4294967296) : nI a - nI b = nI (a + 4294967296 - b) := by
  rw [← n_wrap a, n_sub hb]
theorem n_sub31 {a b : Nat} (hb : b ≤ a + 32) : (nI a - nI b) &&& nI 31 = nI ((a + 32 - b) % 32) := by
  rw [n_subw (by omega), n_and31]
  congr 1
  omega
theorem s_X7_stepsTo {σ : St} {p f m : Nat} {Q : Int32 → Prop} (hp : p < 32) (hm : 1 ≤ m) (hf : f + m ≤ 32) (hQ : Q (nI (stp p f m))) : wp_X7_stepsTo σ (nI p) (nI f) (nI m) Q := by
  unfold wp_X7_stepsTo
  unfold stp at hQ
  rw [n_sub31 (by omega), n_sub31 (by omega), n_add, n_sub (by omega), n_sub31 (by omega), n_min (by omega) (by omega), n_le (by omega) (by omega)]
  refine ⟨fun c => ?_, fun c => ?_⟩
  · rw [if_neg (by omega)] at hQ
    rw [show (p + 32 - (f + m - 1)) % 32 = (p + 65 - f - m) % 32 by omega]
    exact hQ
  · rw [if_pos (by omega)] at hQ; exact hQ
theorem s_X9_lesser {σ : St} {a b : Nat} {Q : Int32 → Prop} (ha : a < 2 ^ 31) (hb : b < 2 ^ 31) (hQ : Q (nI (min a b))) : wp_X9_lesser σ (nI a) (nI b) Q := by
  unfold wp_X9_lesser
  rw [n_le hb ha]
  exact ⟨fun c => by rw [Nat.min_eq_right c] at hQ; exact hQ, fun c => by rw [Nat.min_eq_left (by omega)] at hQ; exact hQ⟩
theorem stp_le {p f m : Nat} : stp p f m ≤ 31 := by
  unfold stp
  split
  · omega
  · have := Nat.mod_lt (f + 32 - p) (show 0 < 32 by decide)
    exact Nat.le_trans (Nat.min_le_left _ _) (by omega)
/-- steps from a point to a zone -/
def stz (x y z : Nat) : Nat := stp x (zx z) (zw z) + stp y (zy z) (zh z)
theorem stz_le (x y z : Nat) : stz x y z ≤ 62 := by
  have h1 := @stp_le x (zx z) (zw z)
  have h2 := @stp_le y (zy z) (zh z)
  unfold stz
  omega
def nfr (o : Nat → Nat) (x y p d : Nat) : Nat → Nat
  | 0 => d
  | n + 1 => if o n = p + 1 then min (nfr o x y p d n) (stz x y n) else nfr o x y p d n
def far (o : Nat → Nat) (x y p : Nat) : Nat := nfr o x y p 64 2048
theorem nfr_min (o : Nat → Nat) (x y p : Nat) {d D : Nat} (h : d ≤ D) : ∀ n, nfr o x y p d n = min d (nfr o x y p D n)
  | 0 => by show d = min d D; rw [Nat.min_eq_left h]
  | n + 1 => by
    unfold nfr
    split
    · rw [nfr_min o x y p h n, Nat.min_assoc]
    · exact nfr_min o x y p h n
theorem nfr_le (o : Nat → Nat) (x y p d : Nat) : ∀ n, nfr o x y p d n ≤ d
  | 0 => Nat.le_refl _
  | n + 1 => by
    unfold nfr
    split
    · exact Nat.le_trans (Nat.min_le_left _ _) (nfr_le o x y p d n)
    · exact nfr_le o x y p d n
theorem nfr_z {o : Nat → Nat} {x y p d z : Nat} (ho : o z = p + 1) : ∀ n, z < n → nfr o x y p d n ≤ stz x y z
  | 0, h => absurd h (by omega)
  | n + 1, h => by
    unfold nfr
    by_cases e : z = n
    · rw [if_pos (by rw [← e]; exact ho), e]
      exact Nat.min_le_right _ _
    · have ih := nfr_z (x := x) (y := y) (d := d) ho n (show z < n by omega)
      split
      · exact Nat.le_trans (Nat.min_le_left _ _) ih
      · exact ih
theorem far_le (o : Nat → Nat) (x y p : Nat) : far o x y p ≤ 64 := nfr_le _ _ _ _ _ _
theorem far_own {o : Nat → Nat} {p : Nat} (h : own1 o p) (x y : Nat) : far o x y p ≤ 62 := by
  obtain ⟨z, hz, ho⟩ := h
  exact Nat.le_trans (nfr_z ho 2048 hz) (stz_le x y z)
theorem far_ref {o : Nat → Nat} {p : Nat} (h : own1 o p) (x y : Nat) : nfr o x y p 1000000 2048 = far o x y p := by
  have h1 := nfr_min o x y p (show 64 ≤ 1000000 by decide) 2048
  obtain ⟨z, hz, ho⟩ := h
  have h2 : nfr o x y p 1000000 2048 ≤ 62 := Nat.le_trans (nfr_z ho 2048 hz) (stz_le x y z)
  unfold far
  rw [h1, Nat.min_eq_right (by omega)]
theorem zl_tail {o : Nat → Nat} {z i n : Nat} (ho : o z ≠ 0) (hi : i ≤ z) (hz : z < n) : (zl o i).length < (zl o n).length := by
  have e : ∀ m, (zl o m).length = sumN (fun z => if o z ≠ 0 then 1 else 0) m := fun m => by
    have h := sum_zl o (fun _ => 1) m
    rw [sumN_const, Nat.mul_one] at h
    exact h
  rw [e, e]
  have h1 := sumN_mono (fun z => if o z ≠ 0 then 1 else 0) (m := i) z hi
  have h2 := sumN_mono (fun z => if o z ≠ 0 then 1 else 0) (m := z + 1) n hz
  have h3 : sumN (fun z => if o z ≠ 0 then 1 else 0) (z + 1) = sumN (fun z => if o z ≠ 0 then 1 else 0) z + (if o z ≠ 0 then 1 else 0) := rfl
  rw [if_pos ho] at h3
  omega
theorem zl_mono (o : Nat → Nat) {i n : Nat} (h : i ≤ n) : (zl o i).length ≤ (zl o n).length := by
  have e : ∀ m, (zl o m).length = sumN (fun z => if o z ≠ 0 then 1 else 0) m := fun m => by
    have h := sum_zl o (fun _ => 1) m
    rw [sumN_const, Nat.mul_one] at h
    exact h
  rw [e, e]
  exact sumN_mono _ n h
/-- the class looks who is beside whom -/
theorem s_X7_lookBeside {σ : St} {s r : Nat} {o : Nat → Nat} {Q : St → Prop} (hs : SpRep σ s o) (hb : OB o) (hP : ∀ z, z < 2048 → o z ≠ 0 → PT o) (hr : r < 3) (hsl : s < 170 ∨ 180 < s)
    (hQ : ∀ τ, (∀ b, b ≠ 177 → τ b = σ b) → (∀ n, n < 10 → τ 177 (10 * r + n) = nI (nbn o n)) → (∀ j, j < 10 * r ∨ 10 * r + 10 ≤ j → τ 177 j = σ 177 j) → Q τ) : wp_X7_lookBeside σ s (nI r) Q := by
  have hlt : (zl o 2048).length ≤ 2047 := zl_len o hb.2 2048
  unfold wp_X7_lookBeside
  rw [n_mul, show r * 10 = 10 * r by omega]
  intro x3 hx3
  rw [hx3]
  refine LP2_nat 10 (fun i τ y => y = nI i ∧ (∀ b, b ≠ 177 → τ b = σ b) ∧ (∀ n, n < i → τ 177 (10 * r + n) = nI 0) ∧ ∀ j, j < 10 * r ∨ 10 * r + 10 ≤ j → τ 177 j = σ 177 j) ?_ 0 _ _ (Nat.zero_le _) ⟨rfl, fun _ _ => rfl, fun n hn => absurd hn (by omega), fun _ _ => rfl⟩
  rintro ih i τ _ hi ⟨rfl, hne, hz, ho⟩ hih
  unfold wp_X7_lookBeside_8
  simp (disch := omega) only [forall_eq, forall_eq', n_inT, n_cl, n_lt, n_le, n_eq, n_eq0, n_lt0, n_ge0, n_gt0, n_le0, n_em, n_me, n_add, n_mul, n_00, n_s01, n_1z, n_0z, Nat.one_ne_zero, eq_self, ne_eq, true_and, and_true, true_implies, false_implies, implies_true, not_true_eq_false, not_false_eq_true, false_and, and_false, or_false, false_or, or_true, true_or]
  refine ⟨fun q => ?_, fun q => ⟨n_in (by omega) (by decide), hih _ _ (by omega) ⟨rfl, fun b hb => by rw [su_ne hb]; exact hne b hb, fun n hn => ?_, fun j hj => ?_⟩⟩⟩
  · have ei : i = 10 := by omega
    subst ei
    unfold wp_X7_lookBeside_31
    have hsp : ∀ τ' : St, (∀ b, b ≠ 177 → τ' b = σ b) → SpRep τ' s o := fun τ' h' => hs.congr (h' _ (by omega)) (h' _ (by omega)) (h' _ (by omega))
    refine s_X4_zonesOfAll (hsp τ hne) hb ?_
    rw [← nz_len]
    refine LP3_nat 2048 (fun i τ x y => y = nI i ∧ x = nI ((zl o 2048).length - (zl o i).length) ∧ (∀ b, b ≠ 177 → τ b = σ b) ∧ (∀ j, j < 10 * r ∨ 10 * r + 10 ≤ j → τ 177 j = σ 177 j) ∧ ∀ n, n < 10 → ∃ m, m < 1024 ∧ τ 177 (10 * r + n) = nI m ∧ ∀ k, m.testBit k = true ↔ k < 10 ∧ k ≠ n ∧ ∃ z, z < i ∧ o z = n + 1 ∧ besB o z k = true) ?_ 1 _ _ _ (by decide) ⟨rfl, ?_, hne, ho, fun n hn => ⟨0, by decide, hz n hn, fun k => ?_⟩⟩
    · rintro ih2 i τ2 _ _ hi2 ⟨rfl, rfl, hne2, ho2, hbit⟩ hih2
      have hmono := zl_mono o (show i ≤ 2048 from hi2)
      unfold wp_X7_lookBeside_40
      have fin : (∀ z, i ≤ z → z < 2048 → o z = 0) → Q τ2 := fun hno => by
        refine hQ τ2 hne2 (fun n hn => ?_) ho2
        obtain ⟨m, hm, em, hb2⟩ := hbit n hn
        rw [em]
        congr 1
        refine nat_ext10 hm (nbn_lt _ _) (fun k hk => ?_)
        rw [Bool.eq_iff_iff, hb2 k, tb_nbn]
        constructor
        · rintro ⟨a1, a2, z, hz1, a3⟩
          exact ⟨a1, a2, z, by omega, a3⟩
        · rintro ⟨a1, a2, z, hz1, a3, a4⟩
          refine ⟨a1, a2, z, ?_, a3, a4⟩
          rcases Nat.lt_or_ge z i with t | t
          · exact t
          · have := hno z t hz1; omega
      simp (disch := omega) only [forall_eq, forall_eq', n_inT, n_cl, n_lt, n_le, n_eq, n_eq0, n_lt0, n_ge0, n_gt0, n_le0, n_em, n_me, n_add, n_mul, n_00, n_s01, n_1z, n_0z, Nat.one_ne_zero, eq_self, ne_eq, true_and, and_true, true_implies, false_implies, implies_true, not_true_eq_false, not_false_eq_true, false_and, and_false, or_false, false_or, or_true, true_or]
      refine ⟨fun q2 => fin (fun z a b => absurd a (by omega)), fun q2 => ⟨fun q3 => fin (fun z a b => ?_), fun q3 => ⟨n_in (by omega) (by decide), ?_⟩⟩⟩
      · refine Classical.byContradiction fun t => ?_
        have := zl_tail t a b
        omega
      · have hil : i < 2048 := by omega
        have hob := hb.1 i hil
        rw [(hsp τ2 hne2).1 i hil]
        have keep : o i = 0 → ih2 τ2 (nI ((zl o 2048).length - (zl o i).length)) (nI (i + 1)) := fun e => by
          refine hih2 _ _ _ hil ⟨rfl, by rw [zl_succ o i, if_neg (by simpa using e), List.append_nil], hne2, ho2, fun n hn => ?_⟩
          obtain ⟨m, hm, em, hb2⟩ := hbit n hn
          refine ⟨m, hm, em, fun k => ?_⟩
          rw [hb2 k]
          constructor
          · rintro ⟨a1, a2, z, hz1, a3⟩
            exact ⟨a1, a2, z, by omega, a3⟩
          · rintro ⟨a1, a2, z, hz1, a3, a4⟩
            refine ⟨a1, a2, z, ?_, a3, a4⟩
            rcases Nat.lt_or_ge z i with t | t
            · exact t
            · rw [show z = i by omega, e] at a3; omega
        cases eo : o i with
        | zero =>
          rw [n_s01]
          exact ⟨fun _ => keep eo, fun t => absurd n_ltm1 t⟩
        | succ p =>
          rw [n_sub (by omega), Nat.add_sub_cancel]
          simp (disch := omega) only [forall_eq, forall_eq', n_inT, n_cl, n_lt, n_le, n_eq, n_eq0, n_lt0, n_ge0, n_gt0, n_le0, n_em, n_me, n_add, n_mul, n_00, n_s01, n_1z, n_0z, Nat.one_ne_zero, eq_self, ne_eq, true_and, and_true, true_implies, false_implies, implies_true, not_true_eq_false, not_false_eq_true, false_and, and_false, or_false, false_or, or_true, true_or]
          have hPT := hP i hil (by omega)
          obtain ⟨m, hm, em, hb2⟩ := hbit p (by omega)
          refine s_X4_besideOf (hsp τ2 hne2).1 hb hPT.2.1 hPT.2.2 hil (by omega) (fun w hw hwb => ?_)
          rw [em, n_clr (by omega), n_or, n_dec (by omega)]
          refine hih2 _ _ _ hil ⟨rfl, ?_, fun b hb => by rw [su_ne hb]; exact hne2 b hb, fun j hj => by rw [su_at, if_neg (by omega)]; exact ho2 j hj, fun n hn => ?_⟩
          · rw [zl_succ o i, if_pos (by omega), List.length_append, List.length_singleton, Nat.sub_sub]
          · rw [su_at]
            by_cases en : n = p
            · subst en
              rw [if_pos rfl]
              refine ⟨_, Nat.or_lt_two_pow (n := 10) hm (Nat.lt_of_le_of_lt (clr_le _ _) hw), rfl, fun k => ?_⟩
              rw [Nat.testBit_or, Bool.or_eq_true, hb2 k, tb_clr (by omega), Bool.and_eq_true]
              constructor
              · rintro (⟨a1, a2, z, hz1, a3⟩ | ⟨a1, a2⟩)
                · exact ⟨a1, a2, z, by omega, a3⟩
                · have hne' : k ≠ n := by
                    intro t
                    rw [t] at a2
                    simp at a2
                  have hbs := (hwb k (by omega)).mp a1
                  have hk10 : k < 10 := by
                    obtain ⟨z, hz1, ho1, -⟩ := besB_iff.mp hbs
                    have := hb.1 z hz1; omega
                  exact ⟨hk10, hne', i, by omega, eo, hbs⟩
              · rintro ⟨a1, a2, z, hz1, a3, a4⟩
                rcases Nat.lt_or_ge z i with t | t
                · exact Or.inl ⟨a1, a2, z, t, a3, a4⟩
                · rw [show z = i by omega] at a4
                  refine Or.inr ⟨(hwb k (by omega)).mpr a4, ?_⟩
                  have : ¬ n = k := fun q => a2 q.symm
                  simp [this]
            · rw [if_neg (by omega)]
              obtain ⟨m', hm', em', hb'⟩ := hbit n hn
              refine ⟨m', hm', em', fun k => ?_⟩
              rw [hb' k]
              constructor
              · rintro ⟨a1, a2, z, hz1, a3⟩
                exact ⟨a1, a2, z, by omega, a3⟩
              · rintro ⟨a1, a2, z, hz1, a3, a4⟩
                refine ⟨a1, a2, z, ?_, a3, a4⟩
                rcases Nat.lt_or_ge z i with t | t
                · exact t
                · rw [show z = i by omega] at a3; omega
    · rw [show zl o 1 = [] by simp [zl, hb.2], List.length_nil, Nat.sub_zero]
    · rw [Nat.zero_testBit]
      constructor
      · intro t; cases t
      · rintro ⟨-, -, z, hz1, a3, -⟩
        rw [show z = 0 by omega, hb.2] at a3; omega
  · rw [su_at]
    by_cases e : n = i
    · rw [if_pos (by omega)]
    · rw [if_neg (by omega)]; exact hz n (by omega)
  · rw [su_at, if_neg (by omega)]; exact ho j hj
/-- the class looks how far who is -/
theorem s_X7_lookFar {σ : St} {s r x y : Nat} {o : Nat → Nat} {Q : St → Prop} (hs : SpRep σ s o) (hb : OB o) (hr : r < 3) (hx : x < 32) (hy : y < 32) (hsl : s < 170 ∨ 180 < s)
    (hQ : ∀ τ, (∀ b, b ≠ 178 → τ b = σ b) → (∀ n, n < 10 → τ 178 (10 * r + n) = nI (far o x y n)) → (∀ j, j < 10 * r ∨ 10 * r + 10 ≤ j → τ 178 j = σ 178 j) → Q τ) : wp_X7_lookFar σ s (nI r) (nI x) (nI y) Q := by
  have hlt : (zl o 2048).length ≤ 2047 := zl_len o hb.2 2048
  unfold wp_X7_lookFar
  rw [n_mul, show r * 10 = 10 * r by omega]
  intro x3 hx3
  rw [hx3]
  refine LP2_nat 10 (fun i τ y => y = nI i ∧ (∀ b, b ≠ 178 → τ b = σ b) ∧ (∀ n, n < i → τ 178 (10 * r + n) = nI 64) ∧ ∀ j, j < 10 * r ∨ 10 * r + 10 ≤ j → τ 178 j = σ 178 j) ?_ 0 _ _ (Nat.zero_le _) ⟨rfl, fun _ _ => rfl, fun n hn => absurd hn (by omega), fun _ _ => rfl⟩
  rintro ih i τ _ hi ⟨rfl, hne, hz, ho⟩ hih
  unfold wp_X7_lookFar_9
  simp (disch := omega) only [forall_eq, forall_eq', n_inT, n_cl, n_lt, n_le, n_eq, n_eq0, n_lt0, n_ge0, n_gt0, n_le0, n_em, n_me, n_add, n_mul, n_00, n_s01, n_1z, n_0z, Nat.one_ne_zero, eq_self, ne_eq, true_and, and_true, true_implies, false_implies, implies_true, not_true_eq_false, not_false_eq_true, false_and, and_false, or_false, false_or, or_true, true_or]
  refine ⟨fun q => ?_, fun q => ⟨n_in (by omega) (by decide), hih _ _ (by omega) ⟨rfl, fun b hb => by rw [su_ne hb]; exact hne b hb, fun n hn => ?_, fun j hj => ?_⟩⟩⟩
  · have ei : i = 10 := by omega
    subst ei
    unfold wp_X7_lookFar_34
    have hsp : ∀ τ' : St, (∀ b, b ≠ 178 → τ' b = σ b) → SpRep τ' s o := fun τ' h' => hs.congr (h' _ (by omega)) (h' _ (by omega)) (h' _ (by omega))
    refine s_X4_zonesOfAll (hsp τ hne) hb ?_
    rw [← nz_len]
    refine LP3_nat 2048 (fun i τ w v => v = nI i ∧ w = nI ((zl o 2048).length - (zl o i).length) ∧ (∀ b, b ≠ 178 → τ b = σ b) ∧ (∀ j, j < 10 * r ∨ 10 * r + 10 ≤ j → τ 178 j = σ 178 j) ∧ ∀ n, n < 10 → τ 178 (10 * r + n) = nI (nfr o x y n 64 i)) ?_ 1 _ _ _ (by decide) ⟨rfl, ?_, hne, ho, fun n hn => ?_⟩
    · rintro ih2 i τ2 _ _ hi2 ⟨rfl, rfl, hne2, ho2, hfar⟩ hih2
      have hmono := zl_mono o (show i ≤ 2048 from hi2)
      unfold wp_X7_lookFar_43
      have fin : (∀ z, i ≤ z → z < 2048 → o z = 0) → Q τ2 := fun hno => by
        refine hQ τ2 hne2 (fun n hn => ?_) ho2
        rw [hfar n hn]
        congr 1
        have key : ∀ k, i ≤ k → k ≤ 2048 → nfr o x y n 64 k = nfr o x y n 64 i := by
          intro k
          induction k with
          | zero => intro a b; rw [show i = 0 by omega]
          | succ k ihk =>
            intro a b
            rcases Nat.lt_or_ge k i with t | t
            · rw [show i = k + 1 by omega]
            · conv => lhs; unfold nfr
              rw [if_neg (by rw [hno k t (by omega)]; omega), ihk t (by omega)]
        exact (key 2048 hi2 (Nat.le_refl _)).symm
      simp (disch := omega) only [forall_eq, forall_eq', n_inT, n_cl, n_lt, n_le, n_eq, n_eq0, n_lt0, n_ge0, n_gt0, n_le0, n_em, n_me, n_add, n_mul, n_00, n_s01, n_1z, n_0z, Nat.one_ne_zero, eq_self, ne_eq, true_and, and_true, true_implies, false_implies, implies_true, not_true_eq_false, not_false_eq_true, false_and, and_false, or_false, false_or, or_true, true_or]
      refine ⟨fun q2 => fin (fun z a b => absurd a (by omega)), fun q2 => ⟨fun q3 => fin (fun z a b => ?_), fun q3 => ⟨n_in (by omega) (by decide), ?_⟩⟩⟩
      · refine Classical.byContradiction fun t => ?_
        have := zl_tail t a b
        omega
      · have hil : i < 2048 := by omega
        have hob := hb.1 i hil
        rw [(hsp τ2 hne2).1 i hil]
        cases eo : o i with
        | zero =>
          rw [n_s01]
          refine ⟨fun _ => hih2 _ _ _ hil ⟨rfl, by rw [zl_succ o i, if_neg (by simpa using eo), List.append_nil], hne2, ho2, fun n hn => ?_⟩, fun t => absurd n_ltm1 t⟩
          conv => rhs; unfold nfr
          rw [if_neg (by omega)]; exact hfar n hn
        | succ p =>
          rw [n_sub (by omega), Nat.add_sub_cancel]
          have z1 := PT.pos hb (show o i ≠ 0 by omega)
          obtain ⟨b1, b2, b3, b4, -, -⟩ := geo_box i hil z1
          refine ⟨fun t => absurd t (by rw [n_lt0 (by omega)]; exact not_false), fun _ => ?_⟩
          refine s_X4_depthOf z1 hil (s_X4_leastX z1 hil (s_X4_wide z1 hil (s_X7_stepsTo hx b1 b3 (s_X4_leastY z1 hil (s_X4_high z1 hil (s_X7_stepsTo hy b2 b4 ?_))))))
          have hl := nfr_le o x y p 64 i
          have hs1 := @stp_le x (zx i) (zw i)
          have hs2 := @stp_le y (zy i) (zh i)
          simp (disch := omega) only [forall_eq, forall_eq', n_inT, n_cl, n_lt, n_le, n_eq, n_eq0, n_lt0, n_ge0, n_gt0, n_le0, n_em, n_me, n_add, n_mul, n_00, n_s01, n_1z, n_0z, Nat.one_ne_zero, eq_self, ne_eq, true_and, and_true, true_implies, false_implies, implies_true, not_true_eq_false, not_false_eq_true, false_and, and_false, or_false, false_or, or_true, true_or]
          rw [hfar p (by omega), n_min (by omega) (by omega), n_dec (by omega)]
          refine hih2 _ _ _ hil ⟨rfl, ?_, fun b hb => by rw [su_ne hb]; exact hne2 b hb, fun j hj => by rw [su_at, if_neg (by omega)]; exact ho2 j hj, fun n hn => ?_⟩
          · rw [zl_succ o i, if_pos (by omega), List.length_append, List.length_singleton, Nat.sub_sub]
          · rw [su_at]
            conv => rhs; unfold nfr
            by_cases en : n = p
            · subst en
              rw [if_pos rfl, if_pos eo]
              rfl
            · rw [if_neg (by omega), if_neg (by omega)]; exact hfar n hn
    · rw [show zl o 1 = [] by simp [zl, hb.2], List.length_nil, Nat.sub_zero]
    · rw [hz n hn]
      unfold nfr
      rw [if_neg (by rw [hb.2]; omega)]
      rfl
  · rw [su_at]
    by_cases e : n = i
    · rw [if_pos (by omega)]
    · rw [if_neg (by omega)]; exact hz n (by omega)
  · rw [su_at, if_neg (by omega)]; exact ho j hj
