/-! TEXT: the reference reads -/
def TR (σ : St) (L : Nat) (P : Nat → Nat) : Prop := σ 244 10 = nI L ∧ L ≤ 400 ∧ ∀ i, i < L → σ 249 i = nI (P i) ∧ P i < 256
def Qp (σ τ : St) : Prop := (∀ b, b ≠ 244 → τ b = σ b) ∧ ∀ j, j ≠ 11 → τ 244 j = σ 244 j
def Qf (σ τ : St) : Prop := (∀ b, b ≠ 244 → τ b = σ b) ∧ ∀ j, j ≠ 11 → j ≠ 12 → τ 244 j = σ 244 j
theorem Qp.rf (σ : St) : Qp σ σ := ⟨fun _ _ => rfl, fun _ _ => rfl⟩
theorem Qf.rf (σ : St) : Qf σ σ := ⟨fun _ _ => rfl, fun _ _ _ => rfl⟩
theorem Qp.tr {σ τ ρ : St} (h1 : Qp σ τ) (h2 : Qp τ ρ) : Qp σ ρ := ⟨fun b hb => (h2.1 b hb).trans (h1.1 b hb), fun j hj => (h2.2 j hj).trans (h1.2 j hj)⟩
theorem Qf.tr {σ τ ρ : St} (h1 : Qf σ τ) (h2 : Qf τ ρ) : Qf σ ρ := ⟨fun b hb => (h2.1 b hb).trans (h1.1 b hb), fun j hj hk => (h2.2 j hj hk).trans (h1.2 j hj hk)⟩
theorem Qp.qf {σ τ : St} (h : Qp σ τ) : Qf σ τ := ⟨h.1, fun j hj _ => h.2 j hj⟩
theorem Qp.su {σ τ : St} (v : Int32) (h : τ = su σ 244 11 v) : Qp σ τ := ⟨fun b hb => by rw [h, su_ne hb], fun j hj => by rw [h, su_at, if_neg hj]⟩
theorem Qf.su {σ τ : St} (v : Int32) (h : τ = su σ 244 12 v) : Qf σ τ := ⟨fun b hb => by rw [h, su_ne hb], fun j _ hj => by rw [h, su_at, if_neg hj]⟩
theorem TR.qf {σ τ : St} {L : Nat} {P : Nat → Nat} (h : TR σ L P) (hf : Qf σ τ) : TR τ L P := by
  unfold TR
  rw [hf.2 10 (by decide) (by decide), hf.1 249 (by decide)]
  exact h
theorem s_X9_here {σ : St} {L p : Nat} {P : Nat → Nat} {Q : Int32 → St → Prop} (hX : TR σ L P) (hp : p ≤ L) (e : σ 244 11 = nI p)
    (hQ : ∀ τ, Qp σ τ → τ 244 11 = nI (sk P L p) → Q (nI (sk P L p)) τ) : wp_X9_here σ Q := by
  have hL := hX.2.1
  refine LP1_nat L (fun i τ => τ 244 11 = nI i ∧ Qp σ τ ∧ sk P L i = sk P L p) ?_ p _ hp ⟨e, Qp.rf σ, rfl⟩
  rintro ih i τ hi ⟨ei, hf, es⟩ hih
  have hXt := hX.qf hf.qf
  unfold wp_X9_here_0
  rw [ei, hXt.1, n_le (by omega) (by omega), n_add, n_cl (by omega)]
  refine ⟨fun c => ?_, fun c => ⟨n_in (by omega) (by decide), ?_⟩⟩
  · have es2 : sk P L p = i := by rw [← es, sk_end c]
    have := hQ τ hf (by rw [ei, es2])
    rw [es2] at this
    exact this
  have hil : i < L := by omega
  obtain ⟨b1, b2⟩ := hXt.2.2 i hil
  rw [b1, n_eq (by omega) (by decide)]
  refine ⟨fun d => ?_, fun d σ5 h5 => ?_⟩
  · have es2 : sk P L p = i := by rw [← es, sk_lt hil, if_neg d]
    have := hQ τ hf (by rw [ei, es2])
    rw [es2] at this
    exact this
  · refine hih _ hil ⟨by rw [h5, su_at, if_pos rfl], hf.tr (Qp.su _ h5), ?_⟩
    rw [← es, sk_lt hil, if_pos d]
theorem s_has_5 {σ : St} {L q w : Nat} {P : Nat → Nat} {Q : Int32 → St → Prop} (hX : TR σ L P) (hq : q ≤ L)
    (hQ : ∀ k, q ≤ k → k ≤ L → (∀ i, q ≤ i → i < k → 97 ≤ P i ∧ P i ≤ 122) → ¬ (k < L ∧ 97 ≤ P k ∧ P k ≤ 122) → wp_X9_has_35 σ w (nI k) Q) : ∃ n9 : Nat, LP1 (wp_X9_has_5 σ w Q) n9 (nI q) := by
  have hL := hX.2.1
  refine LP1_nat L (fun i x => x = nI i ∧ q ≤ i ∧ ∀ j, q ≤ j → j < i → 97 ≤ P j ∧ P j ≤ 122) ?_ q _ hq ⟨rfl, Nat.le_refl _, fun j _ _ => by omega⟩
  rintro ih i _ hi ⟨rfl, hqi, hall⟩ hih
  unfold wp_X9_has_5
  rw [hX.1, n_le (by omega) (by omega), n_add, n_cl (by omega)]
  refine ⟨fun c => hQ i hqi hi hall (by omega), fun c => ⟨n_in (by omega) (by decide), ?_⟩⟩
  have hil : i < L := by omega
  obtain ⟨b1, b2⟩ := hX.2.2 i hil
  rw [b1]
  refine s_X9_isInN (by omega) (by decide) (by decide) (fun d => ⟨fun t => absurd t (by decide), fun _ z hz => ?_⟩) (fun d => ⟨fun _ => hQ i hqi hi hall (fun t => d t.2), fun t => absurd rfl t⟩)
  rw [hz]
  refine hih _ hil ⟨rfl, by omega, fun j j1 j2 => ?_⟩
  rcases Nat.lt_or_ge j i with u | u
  · exact hall j j1 u
  · rw [show j = i by omega]; exact d
theorem s_X9_has {σ : St} {L p w : Nat} {P : Nat → Nat} {Q : Int32 → St → Prop} (hw : w < 12) (hX : TR σ L P) (hp : p ≤ L) (e : σ 244 11 = nI p) (hn : σ 244 12 = -1)
    (h1 : wdB P L w (sk P L p) = true → ∀ τ, Qp σ τ → τ 244 11 = nI (sk P L p + wln w) → Q (nI 1) τ) (h0 : wdB P L w (sk P L p) = false → ∀ τ, Qp σ τ → τ 244 11 = nI (sk P L p) → Q (nI 0) τ) : wp_X9_has σ w Q := by
  have hL := hX.2.1
  have hwl := wln_ok w hw
  obtain ⟨k1, k2, -⟩ := sk_ok (P := P) hp
  unfold wp_X9_has
  refine s_X9_here hX hp e (fun τ hf eq => ?_)
  generalize sk P L p = q at *
  have hXt := hX.qf hf.qf
  refine s_has_5 hXt k2 (fun k g1 g2 g3 g4 => ?_)
  have no : ¬ ((q + wln w ≤ L ∧ ¬ (q + wln w < L ∧ 97 ≤ P (q + wln w) ∧ P (q + wln w) ≤ 122)) ∧ ∀ i, i < wln w → P (q + i) = wch w i) → wdB P L w q = false := fun t => by
    cases eb : wdB P L w q with
    | false => rfl
    | true => exact absurd (wdB_iff.mp eb) t
  have eln : litL.getD w 0 = wln w := rfl
  unfold wp_X9_has_35
  rw [hf.2 12 (by decide), hn, eq, n_sub g1, eln, n_eq (by omega) (by omega)]
  refine ⟨fun t => absurd rfl t, fun _ => ⟨fun c => ?_, fun c => h0 (no (fun t => ?_)) τ hf eq⟩⟩
  · refine LP1_nat (wln w) (fun i x => x = nI i ∧ ∀ j, j < i → P (q + j) = wch w j) ?_ 0 _ (Nat.zero_le _) ⟨rfl, fun j hj => absurd hj (by omega)⟩
    rintro ih i _ hi ⟨rfl, hm⟩ hih
    unfold wp_X9_has_60
    rw [eln, n_le (by omega) (by omega), eq, n_add, n_cl (by omega), n_cl (by omega)]
    refine ⟨fun c2 σ2 hσ2 => ?_, fun c2 => ⟨n_in (by omega) (by omega), n_in (by omega) (by omega), ?_⟩⟩
    · refine h1 (wdB_iff.mpr ⟨⟨by omega, ?_⟩, fun j hj => hm j (by omega)⟩) σ2 (hf.tr (Qp.su _ hσ2)) (by rw [hσ2, su_at, if_pos rfl, show k = q + wln w by omega])
      rw [show q + wln w = k by omega]
      exact g4
    · obtain ⟨w1, w2, w3⟩ := wch_ok w hw i (by omega)
      obtain ⟨b1, b2⟩ := hXt.2.2 (q + i) (by omega)
      rw [w1, b1, n_eq (by omega) (by omega)]
      refine ⟨fun g z hz => ?_, fun g => h0 (no (fun t => g (t.2 i (by omega)))) τ hf eq⟩
      rw [hz, n_add]
      refine hih _ (by omega) ⟨rfl, fun j hj => ?_⟩
      rcases Nat.lt_or_ge j i with u | u
      · exact hm j u
      · rw [show j = i by omega]; exact g
  · obtain ⟨⟨t1, t2⟩, t3⟩ := t
    rcases Nat.lt_or_ge k (q + wln w) with u | u
    · obtain ⟨w1, w2, w3⟩ := wch_ok w hw (k - q) (by omega)
      have := t3 (k - q) (by omega)
      rw [show q + (k - q) = k by omega] at this
      exact g4 ⟨by omega, by omega, by omega⟩
    · exact t2 ⟨by omega, g3 (q + wln w) (by omega) (by omega)⟩
theorem s_X9_has_f {σ : St} {L p w : Nat} {P : Nat → Nat} {Q : Int32 → St → Prop} (hX : TR σ L P) (hp : p ≤ L) (e : σ 244 11 = nI p) (hn : σ 244 12 ≠ -1)
    (hQ : ∀ τ, Qp σ τ → τ 244 11 = nI (sk P L p) → Q (nI 0) τ) : wp_X9_has σ w Q := by
  obtain ⟨k1, k2, -⟩ := sk_ok (P := P) hp
  unfold wp_X9_has
  refine s_X9_here hX hp e (fun τ hf eq => ?_)
  refine s_has_5 (hX.qf hf.qf) k2 (fun k g1 g2 g3 g4 => ?_)
  unfold wp_X9_has_35
  rw [hf.2 12 (by decide)]
  exact ⟨fun _ => hQ τ hf eq, fun t => absurd t hn⟩
theorem s_X9_number_f {σ : St} {x y : Int32} {Q : Int32 → St → Prop} (hn : σ 244 12 ≠ -1) (hQ : Q (nI 0) σ) : wp_X9_number σ x y Q := by
  unfold wp_X9_number
  exact ⟨fun t => absurd t hn, fun _ => hQ⟩
theorem s_X9_wrong {σ : St} {x : Int32} {Q : St → Prop} (hn : σ 244 12 = -1) (hQ : ∀ τ, τ = su σ 244 12 x → Q τ) : wp_X9_wrong σ x Q := by
  unfold wp_X9_wrong
  exact ⟨fun t => absurd hn t, fun _ => hQ⟩
theorem s_X9_wrong_f {σ : St} {x : Int32} {Q : St → Prop} (hn : σ 244 12 ≠ -1) (hQ : Q σ) : wp_X9_wrong σ x Q := by
  unfold wp_X9_wrong
  exact ⟨fun _ => hQ, fun t => absurd t hn⟩
theorem s_X9_number {σ : St} {L p lo hi : Nat} {P : Nat → Nat} {Q : Int32 → St → Prop} (hlo : lo < 1000) (hhi : hi < 1000) (hX : TR σ L P) (hp : p ≤ L) (e : σ 244 11 = nI p) (hn : σ 244 12 = -1)
    (h1 : nmB P L lo hi (sk P L p) = true → ∀ τ, Qp σ τ → τ 244 11 = nI (sk P L p + dc P L (sk P L p)) → Q (nI (dv P (sk P L p) (dc P L (sk P L p)))) τ)
    (h0 : nmB P L lo hi (sk P L p) = false → ∀ τ v p', Qf σ τ → p' ≤ L → τ 244 11 = nI p' → τ 244 12 = nI (sk P L p) → Q v τ) : wp_X9_number σ (nI lo) (nI hi) Q := by
  have hL := hX.2.1
  obtain ⟨k1, k2, -⟩ := sk_ok (P := P) hp
  unfold wp_X9_number
  refine ⟨fun _ => ?_, fun t => absurd hn t⟩
  refine s_X9_here hX hp e (fun τ hf eq => ?_)
  generalize sk P L p = q at *
  obtain ⟨d1, d2, d3⟩ := dc_ok (P := P) k2
  refine LP2_nat (min (dc P L q) 4) (fun i τ y => τ 244 11 = nI (q + i) ∧ y = nI (dv P q i) ∧ Qp σ τ) ?_ 0 _ _ (Nat.zero_le _) ⟨eq, rfl, hf⟩
  rintro ih i τ2 _ hii ⟨ei, rfl, hf2⟩ hih
  have hXt := hX.qf hf2.qf
  have hn2 : τ2 244 12 = -1 := by rw [hf2.2 12 (by decide)]; exact hn
  have hv4 : dv P q i < 10000 := by
    have := dv_lt (P := P) (q := q) i (fun j hj => d2 j (by omega))
    have h3 : i = 0 ∨ i = 1 ∨ i = 2 ∨ i = 3 ∨ i = 4 := by omega
    rcases h3 with t | t | t | t | t <;> rw [t] at this ⊢ <;> omega
  have bad : ¬ (1 ≤ dc P L q ∧ dc P L q ≤ 3 ∧ lo ≤ dv P q (dc P L q) ∧ dv P q (dc P L q) ≤ hi) → wp_X9_number_121 τ2 (nI q) (nI (dv P q i)) Q := fun t => by
    unfold wp_X9_number_121
    refine s_X9_wrong hn2 (fun τ3 h3 => ?_)
    exact h0 (nmB_no t) τ3 _ (q + i) (hf2.qf.tr (Qf.su _ h3)) (by omega) (by rw [h3, su_at, if_neg (by decide)]; exact ei) (by rw [h3, su_at, if_pos rfl])
  have fin : i = min (dc P L q) 4 → wp_X9_number_91 τ2 (nI lo) (nI hi) (nI q) (nI (dv P q i)) Q := fun em => by
    unfold wp_X9_number_91
    rw [ei, n_eq (by omega) (by omega), n_sub (by omega), show q + i - q = i by omega, n_lt (by omega) (by omega), n_lt (by omega) (by omega), n_le (by omega) (by omega)]
    refine ⟨fun c => bad (by omega), fun c => ⟨fun c2 => bad (by omega), fun c2 => ?_⟩⟩
    have ed : i = dc P L q := by omega
    refine ⟨fun c3 => bad (by rw [← ed]; omega), fun c3 => ⟨fun c4 => ?_, fun c4 => bad (by rw [← ed]; omega)⟩⟩
    have := h1 (nmB_iff.mpr (by rw [← ed]; omega)) τ2 hf2 (by rw [← ed]; exact ei)
    rw [← ed] at this
    exact this
  unfold wp_X9_number_18
  rw [ei, hXt.1, n_le (by omega) (by omega), n_cl (by omega), n_sub (by omega), show q + i - q = i by omega, n_lt (by omega) (by omega), n_mul, n_add]
  refine ⟨fun c => fin (by omega), fun c => ⟨n_in (by omega) (by decide), ?_⟩⟩
  obtain ⟨b1, b2⟩ := hXt.2.2 (q + i) (by omega)
  rw [b1]
  refine s_X9_isInN (by omega) (by decide) (by decide) (fun g => ⟨fun t => absurd t (by decide), fun _ => ⟨fun c3 => fin (by omega), fun c3 => ⟨n_in (by omega) (by decide), ?_⟩⟩⟩) (fun g => ⟨fun _ => fin ?_, fun t => absurd rfl t⟩)
  · have hil : i < dc P L q := by
      rcases Nat.lt_or_ge i (dc P L q) with t | t
      · exact t
      · have ed : i = dc P L q := by omega
        rw [ed] at g c
        exact absurd g (d3 (by omega))
    rw [n_add, n_sub (by omega)]
    intro x4 hx4 τ3 h3
    rw [hx4]
    refine hih _ _ (by omega) ⟨?_, ?_, hf2.tr (Qp.su _ h3)⟩
    · rw [h3, su_at, if_pos rfl]; rfl
    · show nI (10 * dv P q i + P (q + i) - 48) = nI (dv P q i * 10 + (P (q + i) - 48))
      rw [show 10 * dv P q i + P (q + i) - 48 = dv P q i * 10 + (P (q + i) - 48) by omega]
  · rcases Nat.lt_or_ge i (dc P L q) with t | t
    · exact absurd (d2 i t) g
    · omega
