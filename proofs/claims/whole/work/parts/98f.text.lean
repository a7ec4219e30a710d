/-! TEXT: how it is read -/
def skB (P : Nat → Nat) : Nat → Nat → Nat
  | 0, p => p
  | k + 1, p => if P p = 32 then skB P k (p + 1) else p
/-- past the blanks -/
def sk (P : Nat → Nat) (L p : Nat) : Nat := skB P (L - p) p
theorem skB_ok (P : Nat → Nat) : ∀ k p, p ≤ skB P k p ∧ skB P k p ≤ p + k ∧ (skB P k p < p + k → P (skB P k p) ≠ 32)
  | 0, p => ⟨Nat.le_refl _, Nat.le_refl _, fun h => absurd h (by unfold skB; omega)⟩
  | k + 1, p => by
    unfold skB
    by_cases c : P p = 32
    · rw [if_pos c]
      obtain ⟨h1, h2, h3⟩ := skB_ok P k (p + 1)
      exact ⟨by omega, by omega, fun h => h3 (by omega)⟩
    · rw [if_neg c]
      exact ⟨by omega, by omega, fun _ => c⟩
theorem sk_ok {P : Nat → Nat} {L p : Nat} (hp : p ≤ L) : p ≤ sk P L p ∧ sk P L p ≤ L ∧ (sk P L p < L → P (sk P L p) ≠ 32) := by
  unfold sk
  obtain ⟨h1, h2, h3⟩ := skB_ok P (L - p) p
  exact ⟨h1, by omega, fun h => h3 (by omega)⟩
theorem sk_end {P : Nat → Nat} {L p : Nat} (h : L ≤ p) : sk P L p = p := by
  unfold sk
  rw [show L - p = 0 by omega]
  rfl
theorem sk_lt {P : Nat → Nat} {L p : Nat} (h : p < L) : sk P L p = if P p = 32 then sk P L (p + 1) else p := by
  unfold sk
  rw [show L - p = L - (p + 1) + 1 by omega]
  rfl
theorem sk_idem {P : Nat → Nat} {L p : Nat} (hp : p ≤ L) : sk P L (sk P L p) = sk P L p := by
  obtain ⟨h1, h2, h3⟩ := sk_ok (P := P) hp
  rcases Nat.lt_or_ge (sk P L p) L with q | q
  · rw [sk_lt q, if_neg (h3 q)]
  · exact sk_end q
theorem sbt_lo : ∀ b, b < 256 → b < 128 ∨ sbt b < nI 0 := by decide +kernel
theorem sbt_n {b : Nat} (h : b < 128) : sbt b = nI b := by unfold sbt; rw [if_pos h]
theorem sbt_lt {b lo : Nat} (hb : b < 256) (hlo : lo < 128) : sbt b < nI lo ↔ (128 ≤ b ∨ b < lo) := by
  by_cases c : b < 128
  · rw [sbt_n c, n_lt (by omega) (by omega)]; omega
  · have h1 : sbt b < nI 0 := (sbt_lo b hb).resolve_left c
    have h2 : nI 0 ≤ nI lo := (n_le (by omega) (by omega)).mpr (Nat.zero_le _)
    rw [Int32.lt_iff_toInt_lt] at h1 ⊢
    rw [Int32.le_iff_toInt_le] at h2
    exact ⟨fun _ => Or.inl (by omega), fun _ => by omega⟩
theorem lt_sbt {b hi : Nat} (hb : b < 256) (hh : hi < 128) : nI hi < sbt b ↔ (b < 128 ∧ hi < b) := by
  by_cases c : b < 128
  · rw [sbt_n c, n_lt (by omega) (by omega)]; omega
  · have h1 : sbt b < nI 0 := (sbt_lo b hb).resolve_left c
    have h2 : nI 0 ≤ nI hi := (n_le (by omega) (by omega)).mpr (Nat.zero_le _)
    rw [Int32.lt_iff_toInt_lt] at h1 ⊢
    rw [Int32.le_iff_toInt_le] at h2
    exact ⟨fun _ => by omega, fun t => absurd t.1 c⟩
/-- the class has a text; where it stands is slot 1 of 3 -/
def TX (σ : St) (L : Nat) (P : Nat → Nat) : Prop := σ 1 1 = nI L ∧ L ≤ 400 ∧ ∀ i, i < L → σ 2 i = sbt (P i) ∧ P i < 256
def Pf (σ τ : St) : Prop := (∀ b, b ≠ 3 → τ b = σ b) ∧ ∀ j, j ≠ 1 → τ 3 j = σ 3 j
theorem Pf.rf (σ : St) : Pf σ σ := ⟨fun _ _ => rfl, fun _ _ => rfl⟩
theorem Pf.tr {σ τ ρ : St} (h1 : Pf σ τ) (h2 : Pf τ ρ) : Pf σ ρ := ⟨fun b hb => (h2.1 b hb).trans (h1.1 b hb), fun j hj => (h2.2 j hj).trans (h1.2 j hj)⟩
theorem Pf.su {σ τ : St} (v : Int32) (h : τ = su σ 3 1 v) : Pf σ τ := ⟨fun b hb => by rw [h, su_ne hb], fun j hj => by rw [h, su_at, if_neg hj]⟩
theorem TX.congr {σ τ : St} {L : Nat} {P : Nat → Nat} (h : TX σ L P) (h1 : τ 1 = σ 1) (h2 : τ 2 = σ 2) : TX τ L P := by
  unfold TX
  rw [h1, h2]
  exact h
theorem TX.pf {σ τ : St} {L : Nat} {P : Nat → Nat} (h : TX σ L P) (hf : Pf σ τ) : TX τ L P := h.congr (hf.1 1 (by decide)) (hf.1 2 (by decide))
theorem s_X3_isBetween {σ : St} {L x lo hi : Nat} {P : Nat → Nat} {Q : Int32 → Prop} (hX : TX σ L P) (hx : x < 1000) (hlo : lo < 128) (hhi : hi < 128)
    (h1 : x < L ∧ lo ≤ P x ∧ P x ≤ hi → Q (nI 1)) (h0 : ¬ (x < L ∧ lo ≤ P x ∧ P x ≤ hi) → Q (nI 0)) : wp_X3_isBetween σ (nI x) (nI lo) (nI hi) Q := by
  obtain ⟨e1, hL, hb⟩ := hX
  unfold wp_X3_isBetween
  rw [e1, n_le (by omega) (by omega), n_cl (by omega), n_lt0 (by omega)]
  refine ⟨fun t => t.elim, fun _ => ⟨fun c => h0 (by omega), fun c => ⟨n_in (by omega) (by decide), ?_⟩⟩⟩
  obtain ⟨b1, b2⟩ := hb x (by omega)
  rw [b1, sbt_lt b2 hlo, lt_sbt b2 hhi]
  exact ⟨fun c2 => h0 (by omega), fun c2 => ⟨n_in (by omega) (by decide), fun d => h0 (by omega), fun d => h1 (by omega)⟩⟩
theorem s_X3_skipBlanks {σ : St} {L p : Nat} {P : Nat → Nat} {Q : St → Prop} (hX : TX σ L P) (hp : p ≤ L) (e : σ 3 1 = nI p)
    (hQ : ∀ τ, Pf σ τ → τ 3 1 = nI (sk P L p) → Q τ) : wp_X3_skipBlanks σ Q := by
  have hL := hX.2.1
  refine LP1_nat L (fun i τ => τ 3 1 = nI i ∧ Pf σ τ ∧ sk P L i = sk P L p) ?_ p _ hp ⟨e, Pf.rf σ, rfl⟩
  rintro ih i τ hi ⟨ei, hf, es⟩ hih
  have hXt := hX.pf hf
  unfold wp_X3_skipBlanks_0
  rw [ei, hXt.1, n_le (by omega) (by omega), n_add]
  refine ⟨fun c => hQ τ hf (by rw [ei, ← es, sk_end c]), fun c => ?_⟩
  have hil : i < L := by omega
  refine s_X3_isBetween hXt (by omega) (by decide) (by decide) (fun d => ⟨fun t => absurd t (by decide), fun _ σ5 h5 => ?_⟩) (fun d => ⟨fun _ => ?_, fun t => absurd rfl t⟩)
  · refine hih _ hil ⟨by rw [h5, su_at, if_pos rfl], hf.tr (Pf.su _ h5), ?_⟩
    rw [← es, sk_lt hil, if_pos (by omega)]
  · refine hQ τ hf ?_
    rw [ei, ← es, sk_lt hil, if_neg (by omega)]
/-! words -/
def wch (w i : Nat) : Nat := ((litB.getD w []).getD i 0).toNatClampNeg
def wln (w : Nat) : Nat := litL.getD w 0
theorem wch_ok : ∀ w, w < 12 → ∀ i, i < wln w → (litB.getD w []).getD i 0 = nI (wch w i) ∧ 97 ≤ wch w i ∧ wch w i ≤ 122 := by decide +kernel
theorem wln_ok : ∀ w, w < 12 → 1 ≤ wln w ∧ wln w ≤ 8 := by decide +kernel
def wdB (P : Nat → Nat) (L w q : Nat) : Bool := decide (q + wln w ≤ L ∧ ¬ (q + wln w < L ∧ 97 ≤ P (q + wln w) ∧ P (q + wln w) ≤ 122)) && (List.range (wln w)).all (fun i => P (q + i) == wch w i)
theorem wdB_iff {P : Nat → Nat} {L w q : Nat} : wdB P L w q = true ↔ (q + wln w ≤ L ∧ ¬ (q + wln w < L ∧ 97 ≤ P (q + wln w) ∧ P (q + wln w) ≤ 122)) ∧ ∀ i, i < wln w → P (q + i) = wch w i := by
  unfold wdB
  rw [Bool.and_eq_true, decide_eq_true_eq, List.all_eq_true]
  simp only [List.mem_range, beq_iff_eq]
theorem s_X3_takeWord {σ : St} {L p w : Nat} {P : Nat → Nat} {Q : Int32 → St → Prop} (hw : w < 12) (hX : TX σ L P) (hp : p ≤ L) (e : σ 3 1 = nI p)
    (h1 : wdB P L w (sk P L p) = true → ∀ τ, Pf σ τ → τ 3 1 = nI (sk P L p + wln w) → Q (nI 1) τ) (h0 : wdB P L w (sk P L p) = false → ∀ τ, Pf σ τ → τ 3 1 = nI (sk P L p) → Q (nI 0) τ) : wp_X3_takeWord σ w Q := by
  have hL := hX.2.1
  have hwl := wln_ok w hw
  obtain ⟨k1, k2, -⟩ := sk_ok (P := P) hp
  unfold wp_X3_takeWord
  refine s_X3_skipBlanks hX hp e (fun τ hf eq => ?_)
  generalize sk P L p = q at *
  have hXt := hX.pf hf
  have no : ¬ ((q + wln w ≤ L ∧ ¬ (q + wln w < L ∧ 97 ≤ P (q + wln w) ∧ P (q + wln w) ≤ 122)) ∧ ∀ i, i < wln w → P (q + i) = wch w i) → wdB P L w q = false := fun t => by
    cases eb : wdB P L w q with
    | false => rfl
    | true => exact absurd (wdB_iff.mp eb) t
  intro x2 hx2
  have ex : x2 = nI (q + wln w) := by rw [hx2, eq, ← n_add]; rfl
  rw [ex, hXt.1, n_lt (by omega) (by omega)]
  refine ⟨fun c => h0 (no (fun t => by omega)) τ hf eq, fun c => ?_⟩
  refine s_X3_isBetween hXt (by omega) (by decide) (by decide) (fun d => ⟨fun t => absurd t (by decide), fun _ => h0 (no (fun t => t.1.2 d)) τ hf eq⟩) (fun d => ⟨fun _ => ?_, fun t => absurd rfl t⟩)
  refine LP1_nat (wln w) (fun i x => x = nI i ∧ ∀ j, j < i → P (q + j) = wch w j) ?_ 0 _ (Nat.zero_le _) ⟨rfl, fun j hj => absurd hj (by omega)⟩
  rintro ih i _ hi ⟨rfl, hm⟩ hih
  unfold wp_X3_takeWord_41
  have eln : litL.getD w 0 = wln w := rfl
  rw [eln, n_le (by omega) (by omega), n_cl (by omega), eq]
  refine ⟨fun c2 σ2 hσ2 => ?_, fun c2 => ⟨n_in (by omega) (by omega), n_in (by omega) (by omega), ?_⟩⟩
  · refine h1 (wdB_iff.mpr ⟨⟨by omega, d⟩, fun j hj => hm j (by omega)⟩) σ2 (hf.tr (Pf.su _ hσ2)) (by rw [hσ2, su_at, if_pos rfl])
  · obtain ⟨w1, w2, w3⟩ := wch_ok w hw i (by omega)
    rw [w1, n_add]
    refine s_X3_isBetween hXt (by omega) (by omega) (by omega) (fun g => ⟨fun _ z hz => ?_, fun t => absurd t (by decide)⟩) (fun g => ⟨fun t => absurd rfl t, fun _ => ?_⟩)
    · rw [hz, n_add]
      refine hih _ (by omega) ⟨rfl, fun j hj => ?_⟩
      rcases Nat.lt_or_ge j i with u | u
      · exact hm j u
      · rw [show j = i by omega]; omega
    · refine h0 (no (fun t => g ⟨by omega, ?_, ?_⟩)) τ hf eq
      · rw [t.2 i (by omega)]; exact Nat.le_refl _
      · rw [t.2 i (by omega)]; exact Nat.le_refl _
/-! numbers -/
def dgc (P : Nat → Nat) : Nat → Nat → Nat
  | 0, _ => 0
  | k + 1, q => if 48 ≤ P q ∧ P q ≤ 57 then dgc P k (q + 1) + 1 else 0
theorem dgc_ok (P : Nat → Nat) : ∀ k q, dgc P k q ≤ k ∧ (∀ j, j < dgc P k q → 48 ≤ P (q + j) ∧ P (q + j) ≤ 57) ∧ (dgc P k q < k → ¬ (48 ≤ P (q + dgc P k q) ∧ P (q + dgc P k q) ≤ 57))
  | 0, q => ⟨Nat.le_refl _, fun j h => absurd h (by unfold dgc; omega), fun h => absurd h (by unfold dgc; omega)⟩
  | k + 1, q => by
    unfold dgc
    by_cases c : 48 ≤ P q ∧ P q ≤ 57
    · rw [if_pos c]
      obtain ⟨h1, h2, h3⟩ := dgc_ok P k (q + 1)
      refine ⟨by omega, fun j hj => ?_, fun h => ?_⟩
      · cases j with
        | zero => exact c
        | succ j => rw [show q + (j + 1) = q + 1 + j by omega]; exact h2 j (by omega)
      · rw [show q + (dgc P k (q + 1) + 1) = q + 1 + dgc P k (q + 1) by omega]; exact h3 (by omega)
    · rw [if_neg c]
      exact ⟨by omega, fun j h => absurd h (by omega), fun _ => c⟩
/-- how many digits; what they mean -/
def dc (P : Nat → Nat) (L q : Nat) : Nat := dgc P (L - q) q
theorem dc_ok {P : Nat → Nat} {L q : Nat} (hq : q ≤ L) : q + dc P L q ≤ L ∧ (∀ j, j < dc P L q → 48 ≤ P (q + j) ∧ P (q + j) ≤ 57) ∧ (q + dc P L q < L → ¬ (48 ≤ P (q + dc P L q) ∧ P (q + dc P L q) ≤ 57)) := by
  obtain ⟨h1, h2, h3⟩ := dgc_ok P (L - q) q
  unfold dc
  exact ⟨by omega, h2, fun h => h3 (by omega)⟩
def dv (P : Nat → Nat) (q : Nat) : Nat → Nat
  | 0 => 0
  | n + 1 => dv P q n * 10 + (P (q + n) - 48)
theorem dv_lt {P : Nat → Nat} {q : Nat} : ∀ n, (∀ j, j < n → 48 ≤ P (q + j) ∧ P (q + j) ≤ 57) → dv P q n < 10 ^ n
  | 0, _ => Nat.one_pos
  | n + 1, h => by
    unfold dv
    have := dv_lt n (fun j hj => h j (by omega))
    have := h n (by omega)
    rw [Nat.pow_succ]
    omega
def nmB (P : Nat → Nat) (L lo hi q : Nat) : Bool := decide (1 ≤ dc P L q ∧ dc P L q ≤ 3 ∧ lo ≤ dv P q (dc P L q) ∧ dv P q (dc P L q) ≤ hi)
theorem nmB_iff {P : Nat → Nat} {L lo hi q : Nat} : nmB P L lo hi q = true ↔ 1 ≤ dc P L q ∧ dc P L q ≤ 3 ∧ lo ≤ dv P q (dc P L q) ∧ dv P q (dc P L q) ≤ hi := by
  unfold nmB
  rw [decide_eq_true_eq]
theorem nmB_no {P : Nat → Nat} {L lo hi q : Nat} (h : ¬ (1 ≤ dc P L q ∧ dc P L q ≤ 3 ∧ lo ≤ dv P q (dc P L q) ∧ dv P q (dc P L q) ≤ hi)) : nmB P L lo hi q = false := by
  cases e : nmB P L lo hi q with
  | false => rfl
  | true => exact absurd (nmB_iff.mp e) h
def Pg (σ τ : St) (s : Nat) (v : Int32) : Prop := (∀ b, b ≠ 3 → b ≠ 5 → τ b = σ b) ∧ (∀ j, j ≠ 1 → τ 3 j = σ 3 j) ∧ (∀ j, j ≠ s → τ 5 j = σ 5 j) ∧ τ 5 s = v
theorem s_X3_takeNumber {σ : St} {L p s lo hi : Nat} {P : Nat → Nat} {Q : Int32 → St → Prop} (hs : s < 4) (hlo : lo < 1000) (hhi : hi < 1000) (hX : TX σ L P) (hp : p ≤ L) (e : σ 3 1 = nI p)
    (h1 : nmB P L lo hi (sk P L p) = true → ∀ τ, Pg σ τ s (nI (dv P (sk P L p) (dc P L (sk P L p)))) → τ 3 1 = nI (sk P L p + dc P L (sk P L p)) → Q (nI 1) τ) (h0 : nmB P L lo hi (sk P L p) = false → ∀ τ, Pf σ τ → τ 3 1 = nI (sk P L p) → Q (nI 0) τ) : wp_X3_takeNumber σ (nI s) (nI lo) (nI hi) Q := by
  have hL := hX.2.1
  obtain ⟨k1, k2, -⟩ := sk_ok (P := P) hp
  unfold wp_X3_takeNumber
  refine s_X3_skipBlanks hX hp e (fun τ hf eq => ?_)
  generalize sk P L p = q at *
  have hXt := hX.pf hf
  obtain ⟨d1, d2, d3⟩ := dc_ok (P := P) k2
  intro x5 hx5
  rw [hx5, eq]
  refine LP2_nat (dc P L q) (fun i x y => x = nI (q + i) ∧ y = nI (dv P q (min i 3))) ?_ 0 _ _ (Nat.zero_le _) ⟨rfl, rfl⟩
  rintro ih i _ _ hii ⟨rfl, rfl⟩ hih
  have hv3 : dv P q (min i 3) < 1000 := by
    have := dv_lt (P := P) (q := q) (min i 3) (fun j hj => d2 j (by omega))
    have h3 : min i 3 = 0 ∨ min i 3 = 1 ∨ min i 3 = 2 ∨ min i 3 = 3 := by omega
    rcases h3 with t | t | t | t <;> rw [t] at this ⊢ <;> omega
  have fin : i = dc P L q → wp_X3_takeNumber_76 τ (nI s) (nI lo) (nI hi) (nI (q + i)) (nI (dv P q (min i 3))) Q := fun ei => by
    unfold wp_X3_takeNumber_76
    rw [eq, n_sub (by omega), show q + i - q = i by omega]
    intro x7 hx7
    rw [hx7, n_lt (by omega) (by omega), n_lt (by omega) (by omega), n_lt (by omega) (by omega), n_le (by omega) (by omega), n_le (by omega) (by omega), n_lt0 (by omega), n_cl (by omega)]
    subst ei
    refine ⟨fun c => h0 (nmB_no (by omega)) τ hf eq, fun c1 => ⟨fun c => h0 (nmB_no (by omega)) τ hf eq, fun c2 => ?_⟩⟩
    rw [Nat.min_eq_left (by omega)]
    refine ⟨fun c => h0 (nmB_no (by omega)) τ hf eq, fun c3 => ⟨fun c4 => ⟨fun t => t.elim, fun _ => ⟨fun t => absurd t (by omega), fun _ => ⟨n_in (by omega) (by decide), fun σ1 g1 σ2 g2 => ?_⟩⟩⟩, fun c => h0 (nmB_no (by omega)) τ hf eq⟩⟩
    refine h1 (nmB_iff.mpr (by omega)) σ2 ⟨fun b b1 b2 => ?_, fun j hj => ?_, fun j hj => ?_, ?_⟩ (by rw [g2, su_at, if_pos rfl])
    · rw [g2, su_ne b1, g1, su_ne b2]; exact hf.1 b b1
    · rw [g2, su_at, if_neg hj, g1, su_ne (by decide)]; exact hf.2 j hj
    · rw [g2, su_ne (by decide), g1, su_at, if_neg hj, hf.1 5 (by decide)]
    · rw [g2, su_ne (by decide), g1, su_at, if_pos rfl]
  unfold wp_X3_takeNumber_13
  rw [eq, hXt.1, n_le (by omega) (by omega), n_add, n_le (by omega) (by omega), n_cl (by omega), n_add, n_mul]
  refine ⟨fun c => fin (by omega), fun c => ?_⟩
  refine s_X3_isBetween hXt (by omega) (by decide) (by decide) (fun g => ⟨fun t => absurd t (by decide), fun _ => ?_⟩) (fun g => ⟨fun _ => fin ?_, fun t => absurd rfl t⟩)
  · have hil : i < dc P L q := by
      rcases Nat.lt_or_ge i (dc P L q) with t | t
      · exact t
      · have ei : i = dc P L q := by omega
        rw [ei] at g
        exact absurd g.2 (d3 g.1)
    refine ⟨fun g2 z hz => ?_, fun g2 => ⟨n_in (by omega) (by decide), ?_⟩⟩
    · rw [hz]
      refine hih _ _ hil ⟨rfl, ?_⟩
      rw [Nat.min_eq_right (by omega), Nat.min_eq_right (by omega)]
    · obtain ⟨b1, b2⟩ := hXt.2.2 (q + i) (by omega)
      rw [b1, sbt_n (by omega), n_sub (by omega), n_add]
      intro x6 hx6 z hz
      rw [hx6, hz]
      refine hih _ _ hil ⟨rfl, ?_⟩
      rw [Nat.min_eq_left (by omega), Nat.min_eq_left (by omega)]
      rfl
  · rcases Nat.lt_or_ge i (dc P L q) with t | t
    · exact absurd ⟨by omega, d2 i t⟩ g
    · omega
