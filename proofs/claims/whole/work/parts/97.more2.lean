/-! STRAYS, SPOT, FRIENDS -/
theorem sumN_pick (g : Nat → Nat) (a : Nat) : ∀ N, sumN (fun n => if a = n + 1 then g n else 0) N = if 1 ≤ a ∧ a ≤ N then g (a - 1) else 0
  | 0 => by rw [if_neg (by omega)]; rfl
  | N + 1 => by
    show sumN _ N + (if a = N + 1 then g N else 0) = _
    rw [sumN_pick g a N]
    by_cases e : a = N + 1
    · rw [if_pos e, if_neg (by omega), if_pos (by omega), show a - 1 = N by omega, Nat.zero_add]
    · rw [if_neg e]
      by_cases e2 : 1 ≤ a ∧ a ≤ N
      · rw [if_pos e2, if_pos (by omega), Nat.add_zero]
      · rw [if_neg e2, if_neg (by omega)]
theorem sumN_mulc (c : Nat) (g : Nat → Nat) : ∀ n, sumN (fun i => if 1 < c then g i else 0) n = if 1 < c then sumN g n else 0
  | 0 => by split <;> rfl
  | n + 1 => by
    show sumN _ n + (if 1 < c then g n else 0) = _
    rw [sumN_mulc c g n]
    by_cases h : 1 < c
    · rw [if_pos h, if_pos h, if_pos h]; rfl
    · rw [if_neg h, if_neg h, if_neg h]
def stry (o : Nat → Nat) : Nat := sumN (fun n => if 1 < cnt o n then cnt o n else 0) 10
theorem stry_z {o : Nat → Nat} (hb : OB o) : stry o = sumN (fun z => if o z ≠ 0 then (if 1 < cnt o (o z - 1) then 1 else 0) else 0) 2048 := by
  have h1 : stry o = sumN (fun n => sumN (fun z => if o z = n + 1 then (if 1 < cnt o n then 1 else 0) else 0) 2048) 10 := by
    refine sumN_congr 10 (fun n _ => ?_)
    have := sumN_mulc (cnt o n) (fun z => if o z = n + 1 then 1 else 0) 2048
    show (if 1 < cnt o n then sumN (fun z => if o z = n + 1 then 1 else 0) 2048 else 0) = _
    rw [← this]
    refine sumN_congr 2048 (fun z _ => ?_)
    by_cases c : o z = n + 1
    · rw [if_pos c, if_pos c]
    · rw [if_neg c, if_neg c]; split <;> rfl
  rw [h1, sumN_swap]
  refine sumN_congr 2048 (fun z hz => ?_)
  rw [sumN_pick (fun n => if 1 < cnt o n then 1 else 0)]
  have := hb.1 z hz
  by_cases e : o z = 0
  · rw [if_neg (by omega), if_neg (by simpa using e)]
  · rw [if_pos (by omega), if_pos e]
theorem s_X4_zonesOfTheScattered {σ : St} {s : Nat} {o : Nat → Nat} {Q : Int32 → Prop} (hs : SpRep σ s o) (hQ : Q (nI (stry o))) : wp_X4_zonesOfTheScattered σ s Q := by
  refine LP2_nat 10 (fun i x y => y = nI i ∧ x = nI (sumN (fun n => if 1 < cnt o n then cnt o n else 0) i)) ?_ 0 _ _ (Nat.zero_le _) ⟨rfl, rfl⟩
  rintro ih i _ _ hi ⟨rfl, rfl⟩ hih
  unfold wp_X4_zonesOfTheScattered_4
  simp (disch := omega) only [forall_eq, forall_eq', n_inT, n_cl, n_lt, n_le, n_eq, n_eq0, n_lt0, n_ge0, n_gt0, n_le0, n_em, n_me, n_add, n_mul, n_00, n_s01, n_1z, n_0z, Nat.one_ne_zero, eq_self, ne_eq, true_and, and_true, true_implies, false_implies, implies_true, not_true_eq_false, not_false_eq_true, false_and, and_false, or_false, false_or, or_true, true_or]
  refine ⟨fun q => by rw [show i = 10 by omega]; exact hQ, fun q => ⟨n_in (by omega) (by decide), ?_⟩⟩
  have hil : i < 10 := by omega
  have hc := cnt_31 o i
  rw [hs.2.2 i hil, n_le (by omega) (by decide), n_add]
  refine ⟨fun c => hih _ _ hil ⟨rfl, ?_⟩, fun c => ⟨n_in hil (by decide), hih _ _ hil ⟨rfl, ?_⟩⟩⟩
  · show _ = nI (sumN _ i + (if 1 < cnt o i then cnt o i else 0))
    rw [if_neg (by omega)]
  · show _ = nI (sumN _ i + (if 1 < cnt o i then cnt o i else 0))
    rw [if_pos (by omega)]
theorem s_X9_strays {τ : St} {o : Nat → Nat} {Q : Int32 → Prop} (hb : OB o) (hl : LR τ o) (hQ : Q (nI (stry o))) : wp_X9_strays τ Q := by
  have hll := zl_len o hb.2 2048
  rw [stry_z hb, ← sum_zl o (fun z => if 1 < cnt o (o z - 1) then 1 else 0) 2048] at hQ
  refine LP2_nat (zl o 2048).length (fun j x y => y = nI j ∧ x = nI (sumN (fun a => if 1 < cnt o (o ((zl o 2048).getD a 0) - 1) then 1 else 0) j)) ?_ 0 _ _ (Nat.zero_le _) ⟨rfl, rfl⟩
  rintro ih j _ _ hj ⟨rfl, rfl⟩ hih
  unfold wp_X9_strays_4
  rw [hl.1]
  simp (disch := omega) only [Nat.add_zero, forall_eq, forall_eq', n_inT, n_cl, n_lt, n_le, n_eq, n_eq0, n_lt0, n_ge0, n_gt0, n_le0, n_em, n_me, n_add, n_mul, n_00, n_s01, n_1z, n_0z, Nat.one_ne_zero, eq_self, ne_eq, true_and, and_true, true_implies, false_implies, implies_true, not_true_eq_false, not_false_eq_true, false_and, and_false, or_false, false_or, or_true, true_or]
  refine ⟨fun h => by rw [show j = (zl o 2048).length by omega]; exact hQ, fun h => ?_⟩
  have hjl : j < (zl o 2048).length := by omega
  obtain ⟨z1, z2, z3, z4⟩ := za_ok hb hjl
  obtain ⟨-, w2, -⟩ := hl.2 j hjl
  rw [w2]
  refine s_X9_zonesOf hb hl (by omega) ?_
  have hc := cnt_31 o (o ((zl o 2048).getD j 0) - 1)
  rw [n_le (by omega) (by decide)]
  refine ⟨fun c => hih _ _ hjl ⟨rfl, ?_⟩, fun c => hih _ _ hjl ⟨rfl, ?_⟩⟩
  · show _ = nI (sumN _ j + (if 1 < cnt o (o ((zl o 2048).getD j 0) - 1) then 1 else 0))
    rw [if_neg (by omega), Nat.add_zero]
  · show _ = nI (sumN _ j + (if 1 < cnt o (o ((zl o 2048).getD j 0) - 1) then 1 else 0))
    rw [if_pos (by omega)]
/-- the first zone of one of a set -/
def fzF (o : Nat → Nat) (ups : Nat) : Nat → Option Nat
  | 0 => none
  | n + 1 => match fzF o ups n with
    | some z => some z
    | none => if o n ≠ 0 ∧ ups.testBit (o n - 1) = true then some n else none
theorem fzF_none {o : Nat → Nat} {ups : Nat} : ∀ n, (∀ z, z < n → ¬ (o z ≠ 0 ∧ ups.testBit (o z - 1) = true)) → fzF o ups n = none
  | 0, _ => rfl
  | n + 1, h => by
    unfold fzF
    rw [fzF_none n (fun z hz => h z (by omega))]
    dsimp only
    rw [if_neg (h n (by omega))]
theorem fzF_is {o : Nat → Nat} {ups z : Nat} (hz : o z ≠ 0 ∧ ups.testBit (o z - 1) = true) (hm : ∀ y, y < z → ¬ (o y ≠ 0 ∧ ups.testBit (o y - 1) = true)) : ∀ n, z < n → fzF o ups n = some z
  | 0, h => absurd h (by omega)
  | n + 1, h => by
    unfold fzF
    rcases Nat.lt_or_ge z n with q | q
    · rw [fzF_is hz hm n q]
    · have e : z = n := by omega
      subst e
      rw [fzF_none z hm]
      dsimp only
      rw [if_pos hz]
theorem s_X4_firstZoneOfAny {σ : St} {s ups : Nat} {o : Nat → Nat} {Q : Int32 → Prop} (hs : SpRep σ s o) (hb : OB o) (hu : ups < 1024) (hQ : Q (nO (fzF o ups 2048))) : wp_X4_firstZoneOfAny σ s (nI ups) Q := by
  have h0 : ¬ (o 0 ≠ 0 ∧ ups.testBit (o 0 - 1) = true) := fun q => q.1 hb.2
  refine LP1_nat 2048 (fun i x => x = nI i ∧ 1 ≤ i ∧ ∀ y, y < i → ¬ (o y ≠ 0 ∧ ups.testBit (o y - 1) = true)) ?_ 1 _ (by decide) ⟨rfl, Nat.le_refl _, fun y hy => by rw [show y = 0 by omega]; exact h0⟩
  rintro ih i _ hi ⟨rfl, hi1, hno⟩ hih
  unfold wp_X4_firstZoneOfAny_2
  simp (disch := omega) only [forall_eq, forall_eq', n_inT, n_cl, n_lt, n_le, n_eq, n_eq0, n_lt0, n_ge0, n_gt0, n_le0, n_em, n_me, n_add, n_mul, n_00, n_s01, n_1z, n_0z, Nat.one_ne_zero, eq_self, ne_eq, true_and, and_true, true_implies, false_implies, implies_true, not_true_eq_false, not_false_eq_true, false_and, and_false, or_false, false_or, or_true, true_or]
  refine ⟨fun q => ?_, fun q => ⟨fun c => ?_, fun c => ⟨n_in (by omega) (by decide), ?_⟩⟩⟩
  · rw [show i = 2048 by omega] at hno
    rw [fzF_none 2048 hno] at hQ; exact hQ
  · rw [fzF_none 2048 (fun z _ t => by rw [c] at t; simp at t)] at hQ; exact hQ
  · have hil : i < 2048 := by omega
    have hob := hb.1 i hil
    rw [hs.1 i hil, n_shl (by decide) (by omega), n_bit0 (by omega) (by omega), Nat.pow_one, Nat.mul_comm]
    have tb2 : (2 * ups).testBit (o i) = (decide (o i ≠ 0) && ups.testBit (o i - 1)) := by
      cases e : o i with
      | zero => simp
      | succ p => rw [Nat.testBit_succ, Nat.mul_div_cancel_left _ (by decide)]; simp
    rw [tb2]
    refine ⟨fun d => hih _ hil ⟨rfl, by omega, fun y hy => ?_⟩, fun d => ?_⟩
    · rcases Nat.lt_or_ge y i with t | t
      · exact hno y t
      · rw [show y = i by omega]
        rintro ⟨u1, u2⟩
        simp [u1, u2] at d
    · have d' : o i ≠ 0 ∧ ups.testBit (o i - 1) = true := by
        have : (decide (o i ≠ 0) && ups.testBit (o i - 1)) = true := by simpa using d
        rw [Bool.and_eq_true, decide_eq_true_eq] at this
        exact this
      rw [fzF_is d' hno 2048 hil] at hQ
      exact hQ
theorem s_X9_spot {τ : St} {o : Nat → Nat} {ups : Nat} {Q : Int32 → Prop} (hf : RowOK (τ 245)) (hups : bits (gst (τ 245)) 1 = ups) (hb : OB o) (hl : LR τ o) (hQ : Q (nO (fzF o ups 2048))) : wp_X9_spot τ Q := by
  have hll := zl_len o hb.2 2048
  have hup : ∀ z, z < 2048 → o z ≠ 0 → (ups.testBit (o z - 1) = true ↔ gst (τ 245) (o z - 1) = 1) := fun z hz h0 => by
    have := hb.1 z hz
    rw [← hups, tb_bits]
    have h9 : o z - 1 < 10 := by omega
    simp [h9]
  refine LP2_nat (zl o 2048).length (fun j x y => y = nI j ∧ (x = -1 ∧ (∀ b, b < j → ¬ ups.testBit (o ((zl o 2048).getD b 0) - 1) = true) ∨ ∃ c, c < j ∧ x = nI ((zl o 2048).getD c 0) ∧ ups.testBit (o ((zl o 2048).getD c 0) - 1) = true ∧ ∀ b, b < c → ¬ ups.testBit (o ((zl o 2048).getD b 0) - 1) = true)) ?_ 0 _ _ (Nat.zero_le _) ⟨rfl, Or.inl ⟨rfl, fun b h => absurd h (by omega)⟩⟩
  rintro ih j x _ hj ⟨rfl, hor⟩ hih
  unfold wp_X9_spot_4
  rw [hl.1]
  simp (disch := omega) only [forall_eq, forall_eq', n_inT, n_cl, n_lt, n_le, n_eq, n_eq0, n_lt0, n_ge0, n_gt0, n_le0, n_em, n_me, n_add, n_mul, n_00, n_s01, n_1z, n_0z, Nat.one_ne_zero, eq_self, ne_eq, true_and, and_true, true_implies, false_implies, implies_true, not_true_eq_false, not_false_eq_true, false_and, and_false, or_false, false_or, or_true, true_or]
  refine ⟨fun h => ?_, fun h => ?_⟩
  · rcases hor with ⟨rfl, hno⟩ | ⟨c, hcl, rfl, hcu, hmin⟩
    · rw [fzF_none 2048 (fun z hz t => by
        obtain ⟨i, hi, ei⟩ := zl_idx (o := o) (n := 2048) hz t.1
        refine hno i (by omega) ?_
        rw [show (zl o 2048).getD i 0 = z from ei]; exact t.2)] at hQ
      exact hQ
    · have hcl2 : c < (zl o 2048).length := by omega
      obtain ⟨z1, z2, z3, z4⟩ := za_ok hb hcl2
      rw [fzF_is (z := (zl o 2048).getD c 0) ⟨z3, hcu⟩ (fun y hy t => by
        obtain ⟨i, hi, ei⟩ := zl_idx (o := o) (n := 2048) (show y < 2048 by omega) t.1
        have hic : i < c := by
          rcases Nat.lt_or_ge i c with u | u
          · exact u
          · rcases Nat.lt_or_ge c i with u2 | u2
            · have := zl_rise o 2048 c i u2 hi
              rw [show (zl o 2048).getD i 0 = y from ei] at this
              omega
            · rw [show c = i by omega, show (zl o 2048).getD i 0 = y from ei] at hy; omega
        refine hmin i hic ?_
        rw [show (zl o 2048).getD i 0 = y from ei]; exact t.2) 2048 z1] at hQ
      exact hQ
  · have hjl : j < (zl o 2048).length := by omega
    obtain ⟨z1, z2, z3, z4⟩ := za_ok hb hjl
    obtain ⟨w1, w2, -⟩ := hl.2 j hjl
    have hu := hup ((zl o 2048).getD j 0) z1 z3
    rw [w2, w1]
    refine s_X9_isState hf (by omega) (by decide) (fun c => ⟨fun t => absurd t (by decide), fun _ => ?_⟩) (fun c => ⟨fun _ => hih _ _ hjl ⟨rfl, ?_⟩, fun t => absurd rfl t⟩)
    · rcases hor with ⟨rfl, hno⟩ | ⟨c0, hcl, rfl, hcu, hmin⟩
      · exact ⟨fun _ => hih _ _ hjl ⟨rfl, Or.inr ⟨j, by omega, rfl, hu.mpr c, hno⟩⟩, fun t => absurd rfl t⟩
      · obtain ⟨c1, c2, -, -⟩ := za_ok hb (show c0 < (zl o 2048).length by omega)
        refine ⟨fun t => absurd t (by rw [n_em (by omega)]; exact not_false), fun _ => ?_⟩
        refine s_X9_depthOf z2 z1 (s_X9_depthOf c2 c1 ?_)
        have d1 := zd_le z1 z2
        have d2 := zd_le c1 c2
        have hm := zd_mono c2 (Nat.le_of_lt (zl_rise o 2048 c0 j hcl hjl))
        rw [n_le (by omega) (by omega)]
        exact ⟨fun _ => hih _ _ hjl ⟨rfl, Or.inr ⟨c0, by omega, rfl, hcu, hmin⟩⟩, fun t => absurd hm t⟩
    · rcases hor with ⟨rfl, hno⟩ | ⟨c0, hcl, rfl, hcu, hmin⟩
      · refine Or.inl ⟨rfl, fun b hbj => ?_⟩
        rcases Nat.lt_or_ge b j with t | t
        · exact hno b t
        · rw [show b = j by omega]; exact fun u => c (hu.mp u)
      · exact Or.inr ⟨c0, by omega, rfl, hcu, hmin⟩
/-! friends -/
def frd (f : Nat → Int32) (p : Nat) : Nat → Nat
  | 0 => 1023
  | r + 1 => frd f p r &&& nbn (gow f r) p
def rFriends (s : AS) (x : Int32) : RS := if inR x 10 then (0, nI (frd (sF s) (cl x) (gR (sF s))), s) else (1, 0, s)
theorem s_X8_friends {σ : St} {s : AS} {x : Int32} {QX : String → St → Prop} {Q : Int32 → St → Prop} (h : CR σ s) (hs : Sok s) (hP : PC σ (rFriends s x) (ex3 sIOB sIOB sIOB) QX Q) : wp_X8_friends σ x QX Q := by
  obtain ⟨A, e, l, hN, hA⟩ := h.net
  have hR := hs.1.R3
  unfold rFriends at hP
  unfold wp_X8_friends
  refine s_X8_checkNode (fun a => ?_) (fun a => ?_)
  · rw [if_pos a] at hP
    obtain ⟨i1, i2⟩ := inR_n (by decide) a
    generalize hc1 : cl x = p at *
    rw [i1]
    refine LP3_nat (gR (sF s)) (fun r τ x y => y = nI r ∧ x = nI (frd (sF s) p r) ∧ ∀ b, b ≠ 177 → τ b = σ b) ?_ 0 _ _ _ (Nat.zero_le _) ⟨rfl, rfl, fun _ _ => rfl⟩
    rintro ih r τ _ _ hr ⟨rfl, rfl, hne⟩ hih
    have hNt : NetRep τ A (sF s) := hN.congr hs.1.R3 (fun b b1 b2 => hne b (by omega))
    unfold wp_X8_friends_10
    rw [hne 0 (by decide), e, hNt.re, n_le (by omega) (by omega)]
    refine ⟨l, fun q => ?_, fun q => ⟨l, n_in (by omega) (by decide), ?_⟩⟩
    · rw [show r = gR (sF s) by omega]
      exact hP.sc h hs (fun b hb => hne b (by omega))
    · have hrl : r < gR (sF s) := by omega
      rw [n_cl (by omega)]
      refine s_X7_lookBeside (hNt.sp r hrl) (hs.1.2 r hrl).1.1 (hs.1.hP hrl) (by omega) (Or.inr (by omega)) (fun τ1 a1 a2 a3 => ?_)
      refine s_X7_besideIn (by omega) i2 (a2 p i2) ?_
      rw [n_and, n_add]
      intro u hu v hv
      rw [hu, hv]
      exact hih _ _ _ hrl ⟨rfl, rfl, fun b hb => by rw [a1 b hb]; exact hne b hb⟩
  · rw [if_neg a] at hP
    exact hP.no (by decide) h rfl
theorem s_X9_friends {σ : St} {s : AS} {x : Int32} {Q : Int32 → St → Prop} (h : RR σ s) (hs : Sok s) (hP : PR σ (rFriends s x) Q) : wp_X9_friends σ x Q := by
  have hR := hs.1.R3
  unfold rFriends at hP
  unfold wp_X9_friends
  refine s_X9_isNode (fun a => ⟨fun t => absurd t (by decide), fun _ => ?_⟩) (fun a => ⟨fun _ => ?_, fun t => absurd rfl t⟩)
  · rw [if_pos a] at hP
    unfold wp_X9_friends_13
    intro σ1 h1
    rw [thr_at h1]
    refine ⟨fun _ => ?_, fun t => absurd (by decide) t⟩
    have hR1 := h.thr h1
    obtain ⟨i1, i2⟩ := inR_n (by decide) a
    generalize hc1 : cl x = p at *
    rw [i1]
    refine LP3_nat (gR (sF s)) (fun r τ x y => y = nI r ∧ x = nI (frd (sF s) p r) ∧ Lf σ1 τ) ?_ 0 _ _ _ (Nat.zero_le _) ⟨rfl, rfl, Lf.rf σ1⟩
    rintro ih r τ _ _ hr ⟨rfl, rfl, hL⟩ hih
    have h245 : τ 245 = sF s := by rw [hL.m]; exact hR1.1
    unfold wp_X9_friends_31
    rw [h245, hs.1.1.2.2.2.2.1.1, n_le (by omega) (by omega)]
    refine ⟨fun q => by rw [show r = gR (sF s) by omega]; exact hP.ok h h1 hL.sc, fun q => ?_⟩
    have hrl : r < gR (sF s) := by omega
    have hob := (hs.1.2 r hrl).1.1
    refine s_X9_laysList (by rw [h245]; exact hs.1.1) (by rw [h245]; exact hob) (by rw [h245]; exact hrl) (fun τ' hL' hl => ?_)
    rw [h245] at hl
    refine s_X9_besideNode hob hl i2 ?_
    rw [n_and, n_add]
    intro u hu v hv
    rw [hu, hv]
    exact hih _ _ _ hrl ⟨rfl, rfl, hL.tr hL'⟩
  · rw [if_neg a] at hP
    unfold wp_X9_friends_13
    intro σ1 h1
    rw [thr_at h1]
    exact ⟨fun t => absurd t (by decide), fun _ => s_thr h (by decide) hP σ1 h1⟩
