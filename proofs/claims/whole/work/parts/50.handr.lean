/-! ZONES ARE HANDED: the reference -/
def Mf (σ τ : St) : Prop := (∀ b, b < 244 ∨ (245 < b ∧ b < 250) ∨ 257 < b → τ b = σ b) ∧ ∀ j, j < 13 → τ 244 j = σ 244 j
theorem Mf.rf (σ : St) : Mf σ σ := ⟨fun _ _ => rfl, fun _ _ => rfl⟩
theorem Mf.tr {σ τ ρ : St} (h1 : Mf σ τ) (h2 : Mf τ ρ) : Mf σ ρ := ⟨fun b hb => (h2.1 b hb).trans (h1.1 b hb), fun j hj => (h2.2 j hj).trans (h1.2 j hj)⟩
theorem Sc.mf {σ τ : St} (h : Sc σ τ) : Mf σ τ := ⟨fun b hb => h.1 b (by omega), h.2⟩
theorem Mf.sr {σ τ : St} (h : Mf σ τ) (f : Nat → Int32) : Mf σ (sr τ 245 f) := ⟨fun b hb => by rw [sr_ne (by omega)]; exact h.1 b hb, fun j hj => by rw [sr_ne (by decide)]; exact h.2 j hj⟩
def HJ (o : Nat → Nat) (p : Nat) (L : List Nat) (o' : Nat → Nat) : Prop :=
  OB o' ∧ (∀ y, 2048 ≤ y → o' y = 0) ∧ (∀ y, o' y = p + 1 ↔ (o y = p + 1 ∧ y ∉ L))
theorem HJ.none {o o' : Nat → Nat} {p z : Nat} {L : List Nat} (h : HJ o p L o') (hz : z < 2048) : HJ o p (L ++ [z]) (setO o' z 0) := by
  refine ⟨⟨fun y hy => ?_, ?_⟩, setO_hi hz h.2.1, fun y => ?_⟩
  · by_cases e : y = z
    · rw [e, setO_same]; omega
    · rw [setO_ne e]; exact h.1.1 y hy
  · by_cases e : 0 = z
    · rw [← e, setO_same]
    · rw [setO_ne e]; exact h.1.2
  · by_cases e : y = z
    · rw [e, setO_same]
      constructor
      · intro q; omega
      · rintro ⟨-, q⟩; exact absurd (List.mem_append.mpr (Or.inr List.mem_cons_self)) q
    · rw [setO_ne e, h.2.2 y, List.mem_append, List.mem_singleton]
      constructor
      · rintro ⟨a, b⟩; exact ⟨a, fun q => q.elim b e⟩
      · rintro ⟨a, b⟩; exact ⟨a, fun q => b (Or.inl q)⟩
theorem HI.hj {o o' : Nat → Nat} {p : Nat} {L : List Nat} (h : HI o p L o') : HJ o p L o' := ⟨h.1.1, h.2.1, h.2.2.1⟩
theorem zlp_nodup (o : Nat → Nat) (p n : Nat) : (zlp o p n).Nodup := List.nodup_range.sublist List.filter_sublist
theorem take_next {L : List Nat} {i : Nat} (h : i < L.length) : L.take (i + 1) = L.take i ++ [L.getD i 0] := by
  rw [List.take_add_one, List.getD_eq_getElem?_getD, List.getElem?_eq_getElem h]
  rfl
theorem nodup_take {L : List Nat} (hL : L.Nodup) {i : Nat} (h : i < L.length) : L.getD i 0 ∉ L.take i := by
  have e := take_next h
  have : (L.take (i + 1)).Nodup := hL.sublist (List.take_sublist _ _)
  rw [e, List.nodup_append] at this
  intro q
  exact this.2.2 _ q _ List.mem_cons_self rfl
theorem updO_ok {f : Nat → Int32} {r p : Nat} {L : List Nat} {o o' : Nat → Nat} (hf : RowOK f) (hr : r < 3) (h : HJ o p L o') : RowOK (updO f r o') ∧ gow (updO f r o') r = o' := ⟨hf.updO hr h.1.1, gow_updO h.1.1 h.2.1⟩
theorem giv_set0 (o : Nat → Nat) (z n : Nat) : giv (setO o z 0) z n = giv o z n := by unfold giv; rw [setO_twice]
theorem s_X9_handsAll_47 {σ : St} {r p : Nat} {f : Nat → Int32} {o : Nat → Nat} {Q : St → Prop} (hf : RowOK f) (hr : r < gR f) (hb : OB o) (hhi : ∀ y, 2048 ≤ y → o y = 0) (hp : p < 10) (ups : Nat) (hups : ups = clr (bits (gst f) 1) p) (hup : ups.testBit p = false) (hu : ups < 1024) (hP : ups ≠ 0 → PT o)
    (hσ : σ 245 = updO f r o) (hl : ∀ i, i < (zlp o p 2048).length → σ 256 i = nI ((zlp o p 2048).getD i 0))
    (hQ : ∀ τ, Mf σ τ → τ 245 = updO f r (hnd o p ups) → Q τ) : ∃ n9 : Nat, LP2 (wp_X9_handsAll_47 (nI r) (nI p) (nI (zlp o p 2048).length) Q) n9 σ (nI 0) := by
  have hR := hf.2.2.2.2.1.2.2
  have hlen := zlp_len o p hb.2 2048
  have hmem : ∀ i, i < (zlp o p 2048).length → (zlp o p 2048).getD i 0 < 2048 ∧ o ((zlp o p 2048).getD i 0) = p + 1 := fun i hi => zlp_mem.mp (getD_mem hi)
  have hH : hnd o p ups = (zlp o p 2048).foldl (stepH ups) o := by unfold hnd; exact rfl
  have hdis := zlp_nodup o p 2048
  generalize zlp o p 2048 = L at *
  refine LP2_nat L.length (fun i τ x => x = nI i ∧ Mf σ τ ∧ τ 256 = σ 256 ∧ ∃ o', o' = (L.take i).foldl (stepH ups) o ∧ τ 245 = updO f r o' ∧ HJ o p (L.take i) o' ∧ (ups ≠ 0 → HI o p (L.take i) o')) ?_ 0 _ _ (Nat.zero_le _) ⟨rfl, Mf.rf σ, rfl, o, rfl, hσ, ⟨hb, hhi, fun y => by simp⟩, fun h => ⟨hP h, hhi, fun y => by simp, fun _ _ q => q⟩⟩
  rintro ih i τ _ hi ⟨rfl, hM, h256, o', ho', hτ, hJ, hI⟩ hih
  unfold wp_X9_handsAll_47
  simp (disch := omega) only [forall_eq, forall_eq', n_inT, n_cl, n_lt, n_le, n_eq, n_eq0, n_lt0, n_ge0, n_gt0, n_le0, n_em, n_me, n_add, n_mul, n_00, n_s01, n_1z, n_0z, Nat.one_ne_zero, eq_self, ne_eq, true_and, and_true, true_implies, false_implies, implies_true, not_true_eq_false, not_false_eq_true, false_and, and_false, or_false, false_or, or_true, true_or]
  refine ⟨fun h => ?_, fun h => ?_⟩
  · refine hQ τ hM ?_
    rw [hτ, ho', hH, show i = L.length by omega, List.take_length]
  · have hil : i < L.length := by omega
    have hi2 : i < 2048 := by omega
    obtain ⟨hz, hoz⟩ := hmem i hil
    have hnot := nodup_take hdis hil
    have e1 : o' (L.getD i 0) = p + 1 := (hJ.2.2 _).mpr ⟨hoz, hnot⟩
    have hnext : (L.take (i + 1)).foldl (stepH ups) o = stepH ups o' (L.getD i 0) := by
      rw [take_next hil, List.foldl_append, ← ho']; rfl
    obtain ⟨k1, k2⟩ := updO_ok (r := r) hf (by omega) hJ
    rw [← hτ] at k1 k2
    have k3 : gR (τ 245) = gR f := by rw [hτ, gR_updO]
    have k4 : gst (τ 245) = gst f := by rw [hτ, gst_updO]
    have hl' : τ 256 i = nI (L.getD i 0) := by rw [h256]; exact hl i hil
    rw [hl']
    refine s_X9_heirOf k1 (by rw [k2]; exact hJ.1) (by rw [k3]; exact hr) hz (by rw [k2, e1]; omega) hp (fun τ1 hL1 => ?_)
    have h1 : τ1 256 = τ 256 := hL1.1 256 (by decide) (by omega)
    have h2 := hL1.m
    rw [k2, k4, ← hups]
    rw [h1, hl']
    refine s_X9_owns (v := 0) (f := f) (o := o') (by omega) hz n_m1a ?_ (by rw [h2, hτ])
    have hM1 : Mf σ (sr τ1 245 (updO f r (setO o' (L.getD i 0) 0))) := (hM.tr hL1.sc.mf).sr _
    have h256' : sr τ1 245 (updO f r (setO o' (L.getD i 0) 0)) 256 = σ 256 := by rw [sr_ne (by decide), h1, h256]
    cases e : heir o' (L.getD i 0) ups with
    | none =>
      have hs : stepH ups o' (L.getD i 0) = setO o' (L.getD i 0) 0 := by unfold stepH; rw [e]
      refine ⟨fun _ => hih _ _ hil ⟨rfl, hM1, h256', _, by rw [hnext, hs], sr_same _ _ _, by rw [take_next hil]; exact hJ.none hz, fun h0 => absurd ((heir_no hu).mp e) h0⟩, fun h0 => absurd rfl h0⟩
    | some hh =>
      obtain ⟨g1, g2⟩ := heir_in hu e
      have h0 : ups ≠ 0 := fun q => by rw [q] at g2; simp at g2
      obtain ⟨st1, -, hh', hl2, hb2, hhe, es⟩ := (hI h0).step hu h0 hup hz hoz hnot
      have ehh : hh' = hh := by rw [hhe] at e; cases e; rfl
      subst ehh
      refine ⟨fun q => absurd q (by rw [nO, n_em (by omega)]; exact not_false), fun _ => ?_⟩
      rw [show sr τ1 245 (updO f r (setO o' (L.getD i 0) 0)) 256 i = nI (L.getD i 0) by rw [h256']; exact hl i hil]
      refine s_X9_gives (f := f) (o := setO o' (L.getD i 0) 0) (by omega) g1 (by rw [setO_twice]; exact (hI h0).1.set hz (by omega) g1) hz (sr_same _ _ _) ?_
      rw [giv_set0]
      refine hih _ _ hil ⟨rfl, hM1.sr _, by rw [sr_ne (by decide)]; exact h256', _, by rw [hnext, es], sr_same _ _ _, by rw [take_next hil, ← es]; exact st1.hj, fun _ => by rw [take_next hil, ← es]; exact st1⟩
theorem s_X9_handsAll {σ : St} {r p : Nat} {f : Nat → Int32} {o : Nat → Nat} {Q : St → Prop} (hf : RowOK f) (hr : r < gR f) (hb : OB o) (hhi : ∀ y, 2048 ≤ y → o y = 0) (hp : p < 10) (ups : Nat) (hups : ups = clr (bits (gst f) 1) p) (hup : ups.testBit p = false) (hu : ups < 1024) (hP : ups ≠ 0 → PT o)
    (hσ : σ 245 = updO f r o)
    (hQ : ∀ τ, Mf σ τ → τ 245 = updO f r (hnd o p ups) → Q τ) : wp_X9_handsAll σ (nI r) (nI p) Q := by
  have hR := hf.2.2.2.2.1.2.2
  refine LP3_nat 2048 (fun i τ x y => y = nI i ∧ 1 ≤ i ∧ x = nI (zlp o p i).length ∧ Mf σ τ ∧ τ 245 = σ 245 ∧ ∀ j, j < (zlp o p i).length → τ 256 j = nI ((zlp o p i).getD j 0)) ?_ 1 _ _ _ (by decide) ⟨rfl, by decide, ?_, Mf.rf σ, rfl, ?_⟩
  · rintro ih i τ _ _ hi ⟨rfl, hi1, rfl, hM, h245, hl⟩ hih
    have hlen := zlp_len o p hb.2 i
    unfold wp_X9_handsAll_5
    simp (disch := omega) only [forall_eq, forall_eq', n_inT, n_cl, n_lt, n_le, n_eq, n_eq0, n_lt0, n_ge0, n_gt0, n_le0, n_em, n_me, n_add, n_mul, n_00, n_s01, n_1z, n_0z, Nat.one_ne_zero, eq_self, ne_eq, true_and, and_true, true_implies, false_implies, implies_true, not_true_eq_false, not_false_eq_true, false_and, and_false, or_false, false_or, or_true, true_or]
    refine ⟨fun h => ?_, fun h => ?_⟩
    · have e : i = 2048 := by omega
      subst e
      exact s_X9_handsAll_47 hf hr hb hhi hp ups hups hup hu hP (by rw [h245, hσ]) hl (fun τ' hM' => hQ τ' (hM.tr hM'))
    · have hil : i < 2048 := by omega
      have hbi := hb.1 i hil
      refine s_own' (f := f) (o := o) (by omega) hil (by rw [h245, hσ]) ?_
      rw [nm_eq (by omega) (by omega)]
      refine ⟨fun he => hih _ _ _ hil ⟨rfl, by omega, ?_, ⟨fun b hb => ?_, fun j hj => ?_⟩, ?_, fun j hj => ?_⟩, fun hne => hih _ _ _ hil ⟨rfl, by omega, ?_, hM, h245, fun j hj => ?_⟩⟩
      · rw [zlp_succ, if_pos he, List.length_append, List.length_singleton]
      · rw [su_ne (by omega)]; exact hM.1 b hb
      · rw [su_ne (by decide)]; exact hM.2 j hj
      · rw [su_ne (by decide), h245]
      · rw [zlp_succ, if_pos he, List.length_append, List.length_singleton] at hj
        rw [zlp_succ, if_pos he, getD_snoc, su_at]
        by_cases q : j = (zlp o p i).length
        · rw [if_pos q, if_neg (by omega), if_pos q]
        · rw [if_neg q, if_pos (by omega)]; exact hl j (by omega)
      · rw [zlp_succ, if_neg hne, List.append_nil]
      · rw [zlp_succ, if_neg hne, List.append_nil] at hj ⊢
        exact hl j hj
  · rw [zlp_succ]; simp [zlp, hb.2]
  · intro j hj
    rw [zlp_succ] at hj; simp [zlp, hb.2] at hj
