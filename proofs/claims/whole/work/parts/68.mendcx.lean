theorem s_X1_mendAll {σ : St} {a : Nat} {f : Nat → Int32} {Q : Int32 → St → Prop} (h : NetRep σ a f) (hf : Good f)
    (hQ : ∀ τ, Nf a σ τ → NetRep τ a (mrow f) → Q (nI (lckA f 100)) τ) : wp_X1_mendAll σ a Q := by
  have hb : ∀ r k, r < 3 → k < 100 → mdh f r k ≤ 1 := fun r k hr hk => (mdh_ok hf.1 hr hk).1
  obtain ⟨z1, z2, z3, z4, z5, z6, z7, z8, z9, z10, z11⟩ := hrow_acc f (mdh f) hb
  have hR := hf.1.2.2.2.2.1.2.2
  refine LP3_nat 100 (fun K τ x z => z = nI K ∧ x = nI (lckA f K) ∧ Nf a σ τ ∧ (∀ b, b ≠ a + 8 → τ b = σ b) ∧ rowIs (τ (a + 8)) 100 (hmf (hpt (mdh f) (ghd f) K 0))) ?_ 0 _ _ _ (Nat.zero_le _) ⟨rfl, rfl, Nf.rf a σ, fun _ _ => rfl, by rw [hpt_0]; exact h.hd⟩
  rintro ih K τ _ _ hK ⟨rfl, rfl, hN, hlo, hrow⟩ hih
  unfold wp_X1_mendAll_4
  simp (disch := omega) only [forall_eq, forall_eq', n_inT, n_cl, n_lt, n_le, n_eq, n_eq0, n_lt0, n_ge0, n_gt0, n_le0, n_em, n_me, n_add, n_mul, n_00, n_s01, n_1z, n_0z, Nat.one_ne_zero, eq_self, ne_eq, true_and, and_true, true_implies, false_implies, implies_true, not_true_eq_false, not_false_eq_true, false_and, and_false, or_false, false_or, or_true, true_or]
  refine ⟨fun q => ?_, fun q => ⟨n_in (by omega) (by decide), ?_⟩⟩
  · have eK : K = 100 := by omega
    subst eK
    refine hQ τ hN ?_
    unfold mrow
    refine ⟨?_, ?_, ?_, ?_, ?_, ?_, ?_, ?_, fun k hk => ?_, fun r hr => ?_⟩
    · rw [z5, hlo _ (by omega)]; exact h.re
    · rw [z4, hlo _ (by omega)]; exact h.ma
    · rw [z1, hlo _ (by omega)]; exact h.st
    · rw [z1, z2, hlo _ (by omega)]; exact h.px
    · rw [z1, z3, hlo _ (by omega)]; exact h.py
    · rw [z4, z6, hlo _ (by omega)]; exact h.mx
    · rw [z4, z7, hlo _ (by omega)]; exact h.my
    · rw [z8, z9, hlo _ (by omega)]; exact h.va
    · rw [hrow k hk, hmf_row hb hk]
      congr 1
      exact hmf_ext (fun r _ => by rw [hpt_end hk])
    · rw [z5] at hr
      rw [z11]
      exact (h.sp r hr).congr (hlo _ (by omega)) (hlo _ (by omega)) (hlo _ (by omega))
  · have hK1 : K < 100 := by omega
    have hcur : hmf (hpt (mdh f) (ghd f) K 0) K = hm f K := by
      rw [hm_hmf]
      exact hmf_ext (fun r _ => by unfold hpt; rw [if_neg (by omega)])
    have hml := hm_lt f K
    have hwl := wth_lt hR K
    have hoth : ∀ k, k ≠ K → hmf (hpt (mdh f) (ghd f) K 0) k = hmf (hpt (mdh f) (ghd f) (K + 1) 0) k := fun k hk => by
      refine hmf_ext (fun r _ => ?_)
      unfold hpt
      by_cases d : k < K
      · rw [if_pos (Or.inl d), if_pos (by omega)]
      · rw [if_neg (by omega), if_neg (by omega)]
    rw [hrow K hK1, hcur, n_eq0 (by omega)]
    refine ⟨fun c => hih _ _ _ hK1 ⟨rfl, ?_, hN, hlo, fun k hk => ?_⟩, fun c => ?_⟩
    · have : ∀ n, lck f K n = 0 := by
        intro n
        induction n with
        | zero => rfl
        | succ n ihn => unfold lck; rw [ihn, if_neg (fun t => t.1 c)]
      show _ = nI (lckA f K + lck f K (gR f))
      rw [this]; rfl
    · rw [hrow k hk]
      congr 1
      by_cases d : k = K
      · refine hmf_ext (fun r _ => ?_)
        unfold hpt
        rw [if_neg (by omega), if_pos (by omega), d]
        unfold mdh
        rw [if_neg (fun t => t.1 c)]
      · exact hoth k d
    · refine s_X1_realitiesWithin (f := f) (by rw [hlo _ (by omega)]; exact h.re) (by rw [hlo _ (by omega)]; exact h.st) (fun r hr => (h.sp r hr).congr (hlo _ (by omega)) (hlo _ (by omega)) (hlo _ (by omega))) hf hK1 ?_
      rw [n_not (by omega) (by omega)]
      have hnl : wth f K &&& (hm f K ^^^ 4294967295) < 1024 := Nat.lt_of_le_of_lt Nat.and_le_left (by omega)
      simp (disch := omega) only [forall_eq, forall_eq', n_inT, n_cl, n_lt, n_le, n_eq, n_eq0, n_lt0, n_ge0, n_gt0, n_le0, n_em, n_me, n_add, n_mul, n_00, n_s01, n_1z, n_0z, Nat.one_ne_zero, eq_self, ne_eq, true_and, and_true, true_implies, false_implies, implies_true, not_true_eq_false, not_false_eq_true, false_and, and_false, or_false, false_or, or_true, true_or]
      rw [n_or]
      refine s_J6_bitCount hnl ?_
      rw [← lck_pc hR c, n_add]
      refine hih _ _ _ hK1 ⟨rfl, rfl, hN.su (by omega) (by omega), fun b hb => by rw [su_ne hb]; exact hlo b hb, fun k hk => ?_⟩
      rw [su_at]
      by_cases d : k = K
      · rw [if_pos d, d]
        congr 1
        refine nat_ext10 ?_ (by have := hmf_lt (hpt (mdh f) (ghd f) (K + 1) 0) K; omega) (fun r _ => ?_)
        · exact Nat.or_lt_two_pow (n := 10) (by omega) hnl
        · rw [Nat.testBit_or, tb_not (by omega), tb_hm, tb_hmf]
          unfold hpt wth
          rw [tb_bm, if_pos (by omega)]
          unfold mdh
          by_cases r3 : r < 3
          · by_cases rg : r < gR f
            · cases e : can f K r <;> by_cases g : ghd f r K = 1 <;> simp [r3, rg, g, c]
            · simp [r3, rg]
          · have : ¬ r < gR f := by omega
            simp [r3, this]
      · rw [if_neg d, hrow k hk, hoth k d]
