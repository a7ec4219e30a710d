/-! seek: the reference -/
def Kf (σ τ : St) : Prop := (∀ b, b ≠ 244 → b < 250 ∨ 255 < b → τ b = σ b) ∧ ∀ j, j < 13 ∨ (16 < j ∧ j ≠ 23 ∧ j ≠ 29) → τ 244 j = σ 244 j
theorem Kf.rf (σ : St) : Kf σ σ := ⟨fun _ _ _ => rfl, fun _ _ => rfl⟩
theorem Kf.tr {σ τ ρ : St} (h1 : Kf σ τ) (h2 : Kf τ ρ) : Kf σ ρ := ⟨fun b hb hc => (h2.1 b hb hc).trans (h1.1 b hb hc), fun j hj => (h2.2 j hj).trans (h1.2 j hj)⟩
theorem Kf.m {σ τ : St} (h : Kf σ τ) : τ 245 = σ 245 := h.1 245 (by decide) (by omega)
theorem Lf.kf {σ τ : St} (h : Lf σ τ) : Kf σ τ := ⟨h.1, fun j hj => h.2 j (by omega)⟩
theorem Kf.sc {σ τ : St} (h : Kf σ τ) : Sc σ τ := ⟨fun b hb => h.1 b (by omega) (by omega), fun j hj => h.2 j (by omega)⟩
def kfa (f : Nat → Int32) (k r n : Nat) : Nat := far (gow f r) (pnt k r % 32) (pnt k r / 32) n
def kbe (f : Nat → Int32) (r n : Nat) : Nat := nbn (gow f r) n
def mnG (rs : Nat) (fa : Nat → Nat → Nat) (n : Nat) : Nat → Nat
  | 0 => 1000000
  | r + 1 => if rs.testBit r then min (mnG rs fa n r) (fa r n) else mnG rs fa n r
theorem mnG_le (rs : Nat) (fa : Nat → Nat → Nat) (n : Nat) : ∀ k, mnG rs fa n k ≤ 1000000
  | 0 => Nat.le_refl _
  | k + 1 => by
    unfold mnG
    split
    · exact Nat.le_trans (Nat.min_le_left _ _) (mnG_le rs fa n k)
    · exact mnG_le rs fa n k
theorem mnF_G (rs : Nat) (fa : Nat → Nat → Nat) (n : Nat) : ∀ k, mnF rs fa n k = min 64 (mnG rs fa n k)
  | 0 => by show 64 = min 64 1000000; decide
  | k + 1 => by
    unfold mnF mnG
    split
    · rw [mnF_G rs fa n k, Nat.min_assoc]
    · exact mnF_G rs fa n k
theorem mnG_r {rs : Nat} {fa : Nat → Nat → Nat} {n r : Nat} (hr : rs.testBit r = true) : ∀ k, r < k → mnG rs fa n k ≤ fa r n
  | 0, h => absurd h (by omega)
  | k + 1, h => by
    unfold mnG
    by_cases e : r = k
    · rw [if_pos (by rw [← e]; exact hr), e]
      exact Nat.min_le_right _ _
    · have ih := mnG_r (fa := fa) (n := n) hr k (by omega)
      split
      · exact Nat.le_trans (Nat.min_le_left _ _) ih
      · exact ih
theorem mnG_top {rs : Nat} {fa : Nat → Nat → Nat} {n k : Nat} (h : ∀ r, k ≤ r → rs.testBit r = false) : ∀ j, mnG rs fa n (k + j) = mnG rs fa n k
  | 0 => rfl
  | j + 1 => by
    show mnG rs fa n (k + j + 1) = _
    conv => lhs; unfold mnG
    rw [if_neg (by rw [h _ (by omega)]; decide)]
    exact mnG_top h j
theorem thF_top {rs : Nat} {fa be : Nat → Nat → Nat} {ups p B k : Nat} (h : ∀ r, k ≤ r → rs.testBit r = false) : ∀ j, thF rs fa be ups p B (k + j) = thF rs fa be ups p B k
  | 0 => rfl
  | j + 1 => by
    show thF rs fa be ups p B (k + j + 1) = _
    conv => lhs; unfold thF
    rw [if_neg (by rw [h _ (by omega)]; decide)]
    exact thF_top h j
theorem hm_top {f : Nat → Int32} (hf : RowOK f) {k : Nat} (hk : k < 100) : ∀ r, gR f ≤ r → (hm f k).testBit r = false := fun r hr => by
  rw [tb_hm]
  by_cases c : r < 3
  · rw [(ghd_ok hf c hk).2.2 hr]; simp
  · simp [c]
theorem hm_bit {f : Nat → Int32} {k r : Nat} (hr : r < 3) : (hm f k).testBit r = true ↔ ghd f r k = 1 := by
  rw [tb_hm]
  simp [hr]
/-- from a lower bound on: what is found -/
theorem thF_B {rs : Nat} {fa be : Nat → Nat → Nat} {ups p B B0 : Nat} (hB : B ≤ B0) : ∀ k, thF rs fa be ups p B k = if (thF rs fa be ups p B0 k).1 < B then thF rs fa be ups p B0 k else (B, none)
  | 0 => by
    show (B, none) = if B0 < B then (B0, none) else (B, none)
    rw [if_neg (by omega)]
  | k + 1 => by
    have ih := thF_B (rs := rs) (fa := fa) (be := be) (ups := ups) (p := p) hB k
    by_cases c : rs.testBit k = true
    · have e1 : thF rs fa be ups p B (k + 1) = sc1 (fa k) (be k p &&& ups) (thF rs fa be ups p B k).1 (thF rs fa be ups p B k).2 10 := by
        conv => lhs; unfold thF
        rw [if_pos c]
      have e2 : thF rs fa be ups p B0 (k + 1) = sc1 (fa k) (be k p &&& ups) (thF rs fa be ups p B0 k).1 (thF rs fa be ups p B0 k).2 10 := by
        conv => lhs; unfold thF
        rw [if_pos c]
      rw [e1, e2, ih]
      generalize thF rs fa be ups p B0 k = w
      by_cases d : w.1 < B
      · rw [if_pos d, if_pos]
        exact Nat.lt_of_le_of_lt (sc1_le _ _ _ _ _) d
      · rw [if_neg d]
        cases e : lst (fa k) (be k p &&& ups) 10 with
        | none =>
          have q1 : sc1 (fa k) (be k p &&& ups) w.1 w.2 10 = (w.1, w.2) := by unfold sc1; rw [e]
          have q2 : sc1 (fa k) (be k p &&& ups) (B, (none : Option Nat)).1 (B, (none : Option Nat)).2 10 = (B, none) := by unfold sc1; rw [e]
          rw [q1, q2, if_neg d]
        | some b =>
          have q1 : sc1 (fa k) (be k p &&& ups) w.1 w.2 10 = if fa k b < w.1 then (fa k b, some b) else (w.1, w.2) := by unfold sc1; rw [e]
          have q2 : sc1 (fa k) (be k p &&& ups) (B, (none : Option Nat)).1 (B, (none : Option Nat)).2 10 = if fa k b < B then (fa k b, some b) else (B, none) := by unfold sc1; rw [e]
          rw [q1, q2]
          by_cases u : fa k b < B
          · rw [if_pos u, if_pos (show fa k b < w.1 by omega), if_pos u]
          · rw [if_neg u]
            by_cases v : fa k b < w.1
            · rw [if_pos v, if_neg u]
            · rw [if_neg v, if_neg d]
    · have e1 : thF rs fa be ups p B (k + 1) = thF rs fa be ups p B k := by
        conv => lhs; unfold thF
        rw [if_neg c]
      have e2 : thF rs fa be ups p B0 (k + 1) = thF rs fa be ups p B0 k := by
        conv => lhs; unfold thF
        rw [if_neg c]
      rw [e1, e2, ih]
/-- a node that is up has zones everywhere -/
theorem Good.own {f : Nat → Int32} (hf : Good f) {r p : Nat} (hr : r < gR f) (hp : p < 10) (h : gst f p = 1) : own1 (gow f r) p := (hf.2 r hr).2 p hp (by omega)
theorem frA_G {f : Nat → Int32} (hf : Good f) {k p : Nat} (hk : k < 100) (hp : p < 10) (hu : gst f p = 1) (hm0 : hm f k ≠ 0) : mnG (hm f k) (kfa f k) p (gR f) = frA (hm f k) (kfa f k) p := by
  have hR := hf.R3
  have h3 : mnG (hm f k) (kfa f k) p 3 = mnG (hm f k) (kfa f k) p (gR f) := by
    have := mnG_top (fa := kfa f k) (n := p) (hm_top hf.1 hk) (3 - gR f)
    rw [show gR f + (3 - gR f) = 3 by omega] at this
    exact this
  have hex : ∃ r, r < gR f ∧ (hm f k).testBit r = true := by
    refine Classical.byContradiction fun q => hm0 ?_
    have hl := hm_lt f k
    rw [z10 (by omega)]
    intro j _
    cases e : (hm f k).testBit j with
    | false => rfl
    | true =>
      rcases Nat.lt_or_ge j (gR f) with t | t
      · exact absurd ⟨j, t, e⟩ q
      · rw [hm_top hf.1 hk j t] at e; cases e
  obtain ⟨r, hr, hb⟩ := hex
  have h1 := mnG_r (fa := kfa f k) (n := p) hb 3 (by omega)
  have h2 : kfa f k r p ≤ 62 := far_own (hf.own hr hp hu) _ _
  unfold frA
  rw [mnF_G, ← h3, Nat.min_eq_right (by omega)]
theorem s_X9_farFromKey {σ : St} {k p : Nat} {f : Nat → Int32} {Q : Int32 → St → Prop} (hσ : σ 245 = f) (hf : Good f) (hk : k < 100) (hp : p < 10) (hu : gst f p = 1) (hm0 : hm f k ≠ 0) (hQ : ∀ τ, Kf σ τ → τ 244 29 = σ 244 29 → Q (nI (frA (hm f k) (kfa f k) p)) τ) : wp_X9_farFromKey σ (nI p) (nI k) Q := by
  have hR := hf.R3
  rw [← frA_G hf hk hp hu hm0] at hQ
  refine LP3_nat (gR f) (fun r τ x y => y = nI r ∧ x = nI (mnG (hm f k) (kfa f k) p r) ∧ Kf σ τ ∧ τ 244 29 = σ 244 29) ?_ 0 _ _ _ (Nat.zero_le _) ⟨rfl, rfl, Kf.rf σ, rfl⟩
  rintro ih r τ _ _ hr ⟨rfl, rfl, hK, h29⟩ hih
  have h245 : τ 245 = f := by rw [hK.m]; exact hσ
  have hle := mnG_le (hm f k) (kfa f k) p r
  unfold wp_X9_farFromKey_7
  rw [h245, hf.1.2.2.2.2.1.1]
  simp (disch := omega) only [forall_eq, forall_eq', n_inT, n_cl, n_lt, n_le, n_eq, n_eq0, n_lt0, n_ge0, n_gt0, n_le0, n_em, n_me, n_add, n_mul, n_00, n_s01, n_1z, n_0z, Nat.one_ne_zero, eq_self, ne_eq, true_and, and_true, true_implies, false_implies, implies_true, not_true_eq_false, not_false_eq_true, false_and, and_false, or_false, false_or, or_true, true_or]
  refine ⟨fun q => by rw [show r = gR f by omega]; exact hQ τ hK h29, fun q => ?_⟩
  have hrl : r < gR f := by omega
  have hob := (hf.2 r hrl).1.1
  refine s_X9_isHeld (by rw [h245]; exact hf.1) (by omega) hk (fun c => ⟨fun _ => ?_, fun t => absurd t (by decide)⟩) (fun c => ⟨fun t => absurd rfl t, fun _ => ?_⟩)
  · rw [h245] at c
    refine s_X9_laysList (by rw [h245]; exact hf.1) (by rw [h245]; exact hob) (by rw [h245]; exact hrl) (fun τ' hL hl => ?_)
    rw [h245] at hl
    refine s_X9_pointX hk (by omega) (s_X9_pointY hk (by omega) (s_X9_farOf hob hl hp (Nat.mod_lt _ (by decide)) (pnt_y k r) (hf.own hrl hp hu) ?_))
    have hfl := far_le (gow f r) (pnt k r % 32) (pnt k r / 32) p
    refine s_X9_lesser (by omega) (by omega) ?_
    refine hih _ _ _ hrl ⟨rfl, ?_, hK.tr hL.kf, by rw [hL.2 29 (by omega)]; exact h29⟩
    conv => rhs; unfold mnG
    rw [if_pos ((hm_bit (by omega)).mpr c)]
    rfl
  · rw [h245] at c
    refine hih _ _ _ hrl ⟨rfl, ?_, hK, h29⟩
    conv => rhs; unfold mnG
    rw [if_neg (fun t => c ((hm_bit (by omega)).mp t))]
theorem s_X9_nextToKey {σ : St} {k p : Nat} {f : Nat → Int32} {Q : Int32 → St → Prop} (hσ : σ 245 = f) (hf : Good f) (hk : k < 100) (hp : p < 10) (hQ : ∀ τ, Kf σ τ → τ 244 29 = nI (thF (hm f k) (kfa f k) (kbe f) (bits (gst f) 1) p 1000000 3).1 → Q (nO (thF (hm f k) (kfa f k) (kbe f) (bits (gst f) 1) p 1000000 3).2) τ) : wp_X9_nextToKey σ (nI p) (nI k) Q := by
  have hR := hf.R3
  have h3 : thF (hm f k) (kfa f k) (kbe f) (bits (gst f) 1) p 1000000 3 = thF (hm f k) (kfa f k) (kbe f) (bits (gst f) 1) p 1000000 (gR f) := by
    have := thF_top (fa := kfa f k) (be := kbe f) (ups := bits (gst f) 1) (p := p) (B := 1000000) (hm_top hf.1 hk) (3 - gR f)
    rw [show gR f + (3 - gR f) = 3 by omega] at this
    exact this
  rw [h3] at hQ
  unfold wp_X9_nextToKey
  intro σ1 h1
  have k1 : Kf σ σ1 := ⟨fun b hb _ => by rw [h1, su_ne hb], fun j hj => by rw [h1, su_at, if_neg (by omega)]⟩
  refine LP3_nat (gR f) (fun r τ x y => y = nI r ∧ x = nO (thF (hm f k) (kfa f k) (kbe f) (bits (gst f) 1) p 1000000 r).2 ∧ Kf σ τ ∧ τ 244 29 = nI (thF (hm f k) (kfa f k) (kbe f) (bits (gst f) 1) p 1000000 r).1) ?_ 0 _ _ _ (Nat.zero_le _) ⟨rfl, rfl, k1, by rw [h1, su_at, if_pos rfl]; rfl⟩
  rintro ih r τ _ _ hr ⟨rfl, rfl, hK, h29⟩ hih
  have h245 : τ 245 = f := by rw [hK.m]; exact hσ
  have hle := (thF_ok (rs := hm f k) (fa := kfa f k) (be := kbe f) (ups := bits (gst f) 1) (p := p) (B := 1000000) r).1
  unfold wp_X9_nextToKey_12
  rw [h245, hf.1.2.2.2.2.1.1]
  simp (disch := omega) only [forall_eq, forall_eq', n_inT, n_cl, n_lt, n_le, n_eq, n_eq0, n_lt0, n_ge0, n_gt0, n_le0, n_em, n_me, n_add, n_mul, n_00, n_s01, n_1z, n_0z, Nat.one_ne_zero, eq_self, ne_eq, true_and, and_true, true_implies, false_implies, implies_true, not_true_eq_false, not_false_eq_true, false_and, and_false, or_false, false_or, or_true, true_or]
  refine ⟨fun q => by rw [show r = gR f by omega] at h29 ⊢; exact hQ τ hK h29, fun q => ?_⟩
  have hrl : r < gR f := by omega
  have hob := (hf.2 r hrl).1.1
  refine s_X9_isHeld (by rw [h245]; exact hf.1) (by omega) hk (fun c => ⟨fun _ => ?_, fun t => absurd t (by decide)⟩) (fun c => ⟨fun t => absurd rfl t, fun _ => ?_⟩)
  · rw [h245] at c
    have hbit := (hm_bit (f := f) (k := k) (show r < 3 by omega)).mpr c
    have es : thF (hm f k) (kfa f k) (kbe f) (bits (gst f) 1) p 1000000 (r + 1) = sc1 (kfa f k r) (kbe f r p &&& bits (gst f) 1) (thF (hm f k) (kfa f k) (kbe f) (bits (gst f) 1) p 1000000 r).1 (thF (hm f k) (kfa f k) (kbe f) (bits (gst f) 1) p 1000000 r).2 10 := by
      conv => lhs; unfold thF
      rw [if_pos hbit]
    refine s_X9_laysList (by rw [h245]; exact hf.1) (by rw [h245]; exact hob) (by rw [h245]; exact hrl) (fun τ' hL hl => ?_)
    rw [h245] at hl
    have t245 : τ' 245 = f := by rw [hL.m]; exact h245
    have t29 : τ' 244 29 = nI (thF (hm f k) (kfa f k) (kbe f) (bits (gst f) 1) p 1000000 r).1 := by rw [hL.2 29 (by omega)]; exact h29
    have hxx : pnt k r % 32 < 32 := Nat.mod_lt _ (by decide)
    have hyy := pnt_y k r
    refine s_X9_pointX hk (by omega) (s_X9_pointY hk (by omega) (s_X9_nearestTo (ups := bits (gst f) 1) (by rw [t245]; exact hf.1) (by rw [t245]) hob hl hp hxx hyy ?_))
    generalize hw : thF (hm f k) (kfa f k) (kbe f) (bits (gst f) 1) p 1000000 r = w at *
    cases e : lst (far (gow f r) (pnt k r % 32) (pnt k r / 32)) (nbn (gow f r) p &&& bits (gst f) 1) 10 with
    | none =>
      have q1 : sc1 (kfa f k r) (kbe f r p &&& bits (gst f) 1) w.1 w.2 10 = (w.1, w.2) := by
        unfold sc1
        show (match lst (far (gow f r) (pnt k r % 32) (pnt k r / 32)) (nbn (gow f r) p &&& bits (gst f) 1) 10 with | none => (w.1, w.2) | some b => _) = _
        rw [e]
      rw [q1] at es
      refine ⟨fun _ => hih _ _ _ hrl ⟨rfl, by rw [es], hK.tr hL.kf, by rw [es]; exact t29⟩, fun t => absurd rfl t⟩
    | some b =>
      obtain ⟨l1, l2⟩ := lst_lt 10 b e
      rw [Nat.testBit_and, Bool.and_eq_true] at l2
      have hob2 := nbn_own l2.1
      have hfl := far_le (gow f r) (pnt k r % 32) (pnt k r / 32) b
      have q1 : sc1 (kfa f k r) (kbe f r p &&& bits (gst f) 1) w.1 w.2 10 = if far (gow f r) (pnt k r % 32) (pnt k r / 32) b < w.1 then (far (gow f r) (pnt k r % 32) (pnt k r / 32) b, some b) else (w.1, w.2) := by
        unfold sc1
        show (match lst (far (gow f r) (pnt k r % 32) (pnt k r / 32)) (nbn (gow f r) p &&& bits (gst f) 1) 10 with | none => (w.1, w.2) | some b => _) = _
        rw [e]
        rfl
      rw [q1] at es
      refine ⟨fun t => absurd t (by rw [nO, n_em (by omega)]; exact not_false), fun _ => ?_⟩
      rw [nO]
      refine s_X9_pointX hk (by omega) (s_X9_pointY hk (by omega) (s_X9_farOf hob hl l1 hxx hyy hob2 ?_))
      rw [t29, n_lt (by omega) (by omega)]
      refine ⟨fun d => s_X9_pointX hk (by omega) (s_X9_pointY hk (by omega) (s_X9_farOf hob hl l1 hxx hyy hob2 ?_)), fun d => ?_⟩
      · rw [if_pos d] at es
        refine hih _ _ _ hrl ⟨rfl, by rw [es]; rfl, hK.tr (hL.kf.tr ⟨fun b hb _ => su_ne hb, fun j hj => by rw [su_at, if_neg (by omega)]⟩), ?_⟩
        rw [su_at, if_pos rfl, es]
      · rw [if_neg d] at es
        exact hih _ _ _ hrl ⟨rfl, by rw [es], hK.tr hL.kf, by rw [es]; exact t29⟩
  · rw [h245] at c
    have es : thF (hm f k) (kfa f k) (kbe f) (bits (gst f) 1) p 1000000 (r + 1) = thF (hm f k) (kfa f k) (kbe f) (bits (gst f) 1) p 1000000 r := by
      conv => lhs; unfold thF
      rw [if_neg (fun t => c ((hm_bit (by omega)).mp t))]
    exact hih _ _ _ hrl ⟨rfl, by rw [es], hK, by rw [es]; exact h29⟩
/-- the way to a key -/
def skL (f : Nat → Int32) (k p : Nat) : List Nat := wyL (frA (hm f k) (kfa f k)) (nxA (hm f k) (kfa f k) (kbe f) (bits (gst f) 1)) 10 p
def skS (f : Nat → Int32) (k p : Nat) : Bool := wyS (frA (hm f k) (kfa f k)) (nxA (hm f k) (kfa f k) (kbe f) (bits (gst f) 1)) 10 p
/-- what seeking scribbles on -/
def Xf (σ τ : St) : Prop := (∀ b, b ≠ 244 → b ≠ 257 → b < 250 ∨ 255 < b → τ b = σ b) ∧ ∀ j, j < 13 → τ 244 j = σ 244 j
theorem Xf.tr {σ τ ρ : St} (h1 : Xf σ τ) (h2 : Xf τ ρ) : Xf σ ρ := ⟨fun b x y z => (h2.1 b x y z).trans (h1.1 b x y z), fun j x => (h2.2 j x).trans (h1.2 j x)⟩
theorem Xf.sc {σ τ : St} (h : Xf σ τ) : Sc σ τ := ⟨fun b hb => h.1 b (by omega) (by omega) (by omega), fun j hj => h.2 j hj⟩
theorem Kf.xf {σ τ : St} (h : Kf σ τ) : Xf σ τ := ⟨fun b x _ z => h.1 b x z, fun j hj => h.2 j (by omega)⟩
theorem up_bit {f : Nat → Int32} {q : Nat} (h : (bits (gst f) 1).testBit q = true) : q < 10 ∧ gst f q = 1 := by
  rw [tb_bits] at h
  simp at h
  exact h
theorem hm_none {f : Nat → Int32} {k p : Nat} (h : hm f k = 0) : skL f k p = [p] ∧ skS f k p = true := by
  have e0 : frA (hm f k) (kfa f k) p ≠ 0 := by
    rw [h]
    show mnF 0 _ p 3 ≠ 0
    have e : mnF 0 (kfa f k) p 3 = 64 := by simp [mnF]
    rw [e]; decide
  have e1 : nxA (hm f k) (kfa f k) (kbe f) (bits (gst f) 1) p = none := by
    rw [h]
    unfold nxA
    simp [thF]
  unfold skL skS
  constructor
  · unfold wyL
    rw [if_neg e0, e1]
  · unfold wyS
    rw [if_neg e0, e1]
theorem s_X9_seeks {σ : St} {k p0 : Nat} {f : Nat → Int32} {Q : St → Prop} (hσ : σ 245 = f) (hf : Good f) (hk : k < 100) (hp : p0 < 10) (hu : gst f p0 = 1)
    (hQ : ∀ τ, Xf σ τ → WayR τ (skL f k p0) (skS f k p0) → Q τ) : wp_X9_seeks σ (nI p0) (nI k) Q := by
  have hml := hm_lt f k
  unfold wp_X9_seeks
  intro σ1 h1 σ2 h2
  have m2 : ∀ b, b ≠ 244 → b ≠ 257 → σ2 b = σ b := fun b b1 b2 => by rw [h2, su_ne b2, h1, su_ne b1]
  have g2 : ∀ j, j ≠ 26 → σ2 244 j = σ 244 j := fun j j1 => by rw [h2, su_ne (by decide), h1, su_at, if_neg j1]
  have a26 : σ2 244 26 = nI 1 := by rw [h2, su_ne (by decide), h1, su_at, if_pos rfl]
  have a0 : σ2 257 0 = nI p0 := by rw [h2, su_at, if_pos rfl]
  have s245 : σ2 245 = f := by rw [m2 245 (by decide) (by decide)]; exact hσ
  refine s_X9_heldIn (by rw [s245]; exact hf.1) hk ?_
  rw [s245, n_eq0 (by omega)]
  refine ⟨fun c σ3 h3 => ?_, fun c σ3 h3 => ?_⟩
  · unfold skL skS at hQ
    generalize hT : wyL (frA (hm f k) (kfa f k)) (nxA (hm f k) (kfa f k) (kbe f) (bits (gst f) 1)) 10 p0 = T at hQ
    have m3 : Xf σ σ3 := ⟨fun b b1 b2 _ => by rw [h3, su_ne b1]; exact m2 b b1 b2, fun j hj => by rw [h3, su_at, if_neg (by omega)]; exact g2 j (by omega)⟩
    have c26 : σ3 244 26 = nI 1 := by rw [h3, su_at, if_neg (by decide)]; exact a26
    have c27 : σ3 244 27 = nI 0 := by rw [h3, su_at, if_pos rfl]
    have c0 : σ3 257 0 = nI p0 := by rw [h3, su_ne (by decide)]; exact a0
    refine LP2_in (fun τ z => Xf σ τ ∧ ∃ h p, z = nI p ∧ gst f p = 1 ∧ WI (frA (hm f k) (kfa f k)) (nxA (hm f k) (kfa f k) (kbe f) (bits (gst f) 1)) p0 h p ∧ τ 244 26 = nI (h + 1) ∧ (∀ i, i ≤ h → τ 257 i = nI (T.getD i 0)) ∧ (τ 244 27 = nI 0 ∨ τ 244 27 = nI 1 ∧ frA (hm f k) (kfa f k) p ≠ 0 ∧ nxA (hm f k) (kfa f k) (kbe f) (bits (gst f) 1) p = none)) (fun τ z => 40 - 2 * (τ 244 26).toNatClampNeg - (τ 244 27).toNatClampNeg) ?_ _ _ ⟨m3, 0, p0, rfl, hu, WI.start hp, c26, fun i hi => by rw [show i = 0 by omega, c0, ← hT, wyL_0], Or.inl c27⟩
    rintro ih τ _ ⟨hX, h, p, rfl, hup, hI, t26, hpath, hst⟩ hih
    have h9 := hI.le
    have hpl := hI.1
    have h245 : τ 245 = f := by rw [hX.1 245 (by decide) (by decide) (by omega)]; exact hσ
    unfold wp_X9_seeks_31
    rcases hst with hst | ⟨hst, d1, d2⟩
    · rw [hst]
      refine ⟨fun t => absurd rfl t, fun _ => s_X9_farFromKey h245 hf hk hpl hup c (fun τ1 hK1 h29 => ?_)⟩
      have hfl : frA (hm f k) (kfa f k) p ≤ 64 := mnF_le _ _ _ _
      have keep : ∀ τ', Kf τ τ' → τ' 244 26 = nI (h + 1) ∧ τ' 244 27 = nI 0 ∧ τ' 257 = τ 257 ∧ τ' 245 = f := fun τ' hK => ⟨by rw [hK.2 26 (by omega)]; exact t26, by rw [hK.2 27 (by omega)]; exact hst, hK.1 257 (by decide) (by omega), by rw [hK.m]; exact h245⟩
      obtain ⟨k26, k27, k257, k245⟩ := keep τ1 hK1
      rw [n_le0 (by omega)]
      refine ⟨fun d => ?_, fun d => ?_⟩
      · obtain ⟨w1, w2⟩ := hI.end0 d
        rw [hT] at w2
        exact hQ τ1 (hX.tr hK1.xf) ⟨by rw [k26, w2], by rw [k27, w1]; rfl, fun i hi => by rw [k257]; exact hpath i (by omega)⟩
      · refine s_X9_nextToKey k245 hf hk hpl (fun τ2 hK2 g29 => ?_)
        have hK12 := hK1.tr hK2
        obtain ⟨j26, j27, j257, j245⟩ := keep τ2 hK12
        have stuck : nxA (hm f k) (kfa f k) (kbe f) (bits (gst f) 1) p = none → ∀ τ3, Kf τ τ3 → ∀ τ', τ' = su τ3 244 27 (nI 1) → ih τ' (nI p) := fun hn τ3 hK3 τ' hτ => by
          obtain ⟨i26, i27, i257, i245⟩ := keep τ3 hK3
          refine hih _ _ ⟨hX.tr (hK3.xf.tr ⟨fun b b1 b2 _ => by rw [hτ, su_ne b1], fun j hj => by rw [hτ, su_at, if_neg (by omega)]⟩), h, p, rfl, hup, hI, by rw [hτ, su_at, if_neg (by decide)]; exact i26, fun i hi => by rw [hτ, su_ne (by decide), i257]; exact hpath i hi, Or.inr ⟨by rw [hτ, su_at, if_pos rfl], d, hn⟩⟩ ?_
          rw [hτ, su_at, if_neg (by decide), su_at, if_pos rfl, i26, t26, hst, n_cl (by omega), n_cl (by omega), n_cl (by omega)]
          omega
        have hB := thF_B (rs := hm f k) (fa := kfa f k) (be := kbe f) (ups := bits (gst f) 1) (p := p) (B := frA (hm f k) (kfa f k) p) (B0 := 1000000) (by omega) 3
        have hle := (thF_ok (rs := hm f k) (fa := kfa f k) (be := kbe f) (ups := bits (gst f) 1) (p := p) (B := 1000000) 3).1
        have hnx : nxA (hm f k) (kfa f k) (kbe f) (bits (gst f) 1) p = if (thF (hm f k) (kfa f k) (kbe f) (bits (gst f) 1) p 1000000 3).1 < frA (hm f k) (kfa f k) p then (thF (hm f k) (kfa f k) (kbe f) (bits (gst f) 1) p 1000000 3).2 else none := by
          unfold nxA
          rw [hB]
          split <;> rfl
        generalize hw : thF (hm f k) (kfa f k) (kbe f) (bits (gst f) 1) p 1000000 3 = w at *
        cases ew : w.2 with
        | none =>
          have hn : nxA (hm f k) (kfa f k) (kbe f) (bits (gst f) 1) p = none := by rw [hnx, ew]; split <;> rfl
          exact ⟨fun _ => stuck hn τ2 hK12, fun t => absurd rfl t⟩
        | some q =>
          have hq10 : q < 10 := by
            have := (thF_ok (rs := hm f k) (fa := kfa f k) (be := kbe f) (ups := bits (gst f) 1) (p := p) (B := 1000000) 3).2 q (by rw [hw]; exact ew)
            exact this.1
          refine ⟨fun t => absurd t (by rw [nO, n_em (by omega)]; exact not_false), fun _ => ?_⟩
          refine s_X9_farFromKey j245 hf hk hpl hup c (fun τ3 hK3 h29' => ?_)
          have hK123 := hK12.tr hK3
          obtain ⟨i26, i27, i257, i245⟩ := keep τ3 hK123
          rw [g29, n_lt (by omega) (by omega), i26, n_cl (by omega)]
          refine ⟨fun u => ?_, fun u => stuck (by rw [hnx, if_neg u]) τ3 hK123⟩
          have hn : nxA (hm f k) (kfa f k) (kbe f) (bits (gst f) 1) p = some q := by rw [hnx, if_pos u]; exact ew
          obtain ⟨v1, v2, v3⟩ := nxA_ok hn
          have hI' := hI.step d hn v1 v2
          have h9' := hI'.le
          refine ⟨n_in (by omega) (by decide), fun τ4 e4 τ5 e5 => ?_⟩
          have g26 : τ4 244 26 = nI (h + 1) := by rw [e4, su_ne (by decide)]; exact i26
          rw [g26, n_add] at e5
          have f26 : τ5 244 26 = nI (h + 1 + 1) := by rw [e5, su_at, if_pos rfl]
          have f27 : τ5 244 27 = nI 0 := by rw [e5, su_at, if_neg (by decide), e4, su_ne (by decide)]; exact i27
          refine hih _ _ ⟨hX.tr (hK123.xf.tr ⟨fun b b1 b2 _ => by rw [e5, su_ne b1, e4, su_ne b2], fun j hj => by rw [e5, su_at, if_neg (by omega), e4, su_ne (by decide)]⟩), h + 1, q, rfl, (up_bit v3).2, hI', f26, fun i hi => ?_, Or.inl f27⟩ ?_
          · rw [e5, su_ne (by decide), e4, su_at]
            by_cases ei : i = h + 1
            · rw [if_pos ei, ei, ← hT, hI'.at_]; rfl
            · rw [if_neg ei, i257]; exact hpath i (by omega)
          · rw [f27, f26, hst, t26, n_cl (by omega), n_cl (by omega), n_cl (by omega)]
            omega
    · rw [hst]
      obtain ⟨w1, w2⟩ := hI.end1 d1 d2
      rw [hT] at w2
      exact ⟨fun _ => hQ τ hX ⟨by rw [t26, w2], by rw [hst, w1]; rfl, fun i hi => hpath i (by omega)⟩, fun t => absurd t (by decide)⟩
  · obtain ⟨e1, e2⟩ := hm_none (p := p0) c
    rw [e1, e2] at hQ
    have c27 : σ3 244 27 = nI 1 := by rw [h3, su_at, if_pos rfl]
    have hq := hQ σ3 ⟨fun b b1 b2 _ => by rw [h3, su_ne b1]; exact m2 b b1 b2, fun j hj => by rw [h3, su_at, if_neg (by omega)]; exact g2 j (by omega)⟩ ⟨by rw [h3, su_at, if_neg (by decide)]; exact a26, by rw [c27]; rfl, fun i hi => by
      have : i = 0 := by have : i < 1 := hi; omega
      subst this
      rw [h3, su_ne (by decide)]; exact a0⟩
    refine LP2_nat 0 (fun _ τ _ => τ = σ3) ?_ 0 _ _ (Nat.zero_le _) rfl
    rintro ih i τ x hi rfl hih
    unfold wp_X9_seeks_31
    rw [c27]
    exact ⟨fun _ => hq, fun t => absurd t (by decide)⟩
