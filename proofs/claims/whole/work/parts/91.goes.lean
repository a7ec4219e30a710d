/-! WAYS: the reference -/
theorem s_X9_around {σ : St} {p f m : Nat} {Q : Int32 → Prop} (hp : p < 32) (hm : 1 ≤ m) (hf : f + m ≤ 32) (hQ : Q (nI (stp p f m))) : wp_X9_around σ (nI p) (nI f) (nI m) Q := by
  unfold wp_X9_around
  unfold stp at hQ
  have e1 : nI f - nI p + nI 32 = nI (f + 32 - p) := by
    rw [n_subw (by omega), n_add, show f + 4294967296 - p + 32 = (f + 32 - p) + 4294967296 by omega, n_wrap]
  have e2 : nI p - nI f - nI m + nI 1 + nI 64 = nI (p + 65 - f - m) := by
    rw [n_subw (by omega), n_sub (by omega), n_add, n_add, show p + 4294967296 - f - m + 1 + 64 = (p + 65 - f - m) + 4294967296 by omega, n_wrap]
  rw [e1, e2, n_mod32 (by omega), n_mod32 (by omega), n_add, n_sub (by omega)]
  refine s_X9_isInN (by omega) (by omega) (by omega) (fun c => ⟨fun t => absurd t (by decide), fun _ => ?_⟩) (fun c => ⟨fun _ => s_X9_lesser (by omega) (by omega) ?_, fun t => absurd rfl t⟩)
  · rw [if_pos (by omega)] at hQ; exact hQ
  · rw [if_neg (by omega)] at hQ; exact hQ
theorem nfr_att (o : Nat → Nat) (x y p d : Nat) : ∀ n, nfr o x y p d n = d ∨ ∃ z, z < n ∧ o z = p + 1 ∧ nfr o x y p d n = stz x y z
  | 0 => Or.inl rfl
  | n + 1 => by
    unfold nfr
    have ih := nfr_att o x y p d n
    by_cases c : o n = p + 1
    · rw [if_pos c]
      by_cases e : nfr o x y p d n ≤ stz x y n
      · rw [Nat.min_eq_left e]
        rcases ih with ih | ⟨z, hz, h1, h2⟩
        · exact Or.inl ih
        · exact Or.inr ⟨z, by omega, h1, h2⟩
      · rw [Nat.min_eq_right (by omega)]
        exact Or.inr ⟨n, by omega, c, rfl⟩
    · rw [if_neg c]
      rcases ih with ih | ⟨z, hz, h1, h2⟩
      · exact Or.inl ih
      · exact Or.inr ⟨z, by omega, h1, h2⟩
theorem s_X9_farOf {τ : St} {o : Nat → Nat} {p x y : Nat} {Q : Int32 → Prop} (hb : OB o) (hl : LR τ o) (hp : p < 10) (hx : x < 32) (hy : y < 32) (hown : own1 o p) (hQ : Q (nI (far o x y p))) : wp_X9_farOf τ (nI p) (nI x) (nI y) Q := by
  have hll := zl_len o hb.2 2048
  rw [← far_ref hown] at hQ
  refine LP2_nat (zl o 2048).length (fun j u w => w = nI j ∧ ∃ v, u = nI v ∧ v ≤ 1000000 ∧ (v = 1000000 ∨ ∃ b, b < j ∧ o ((zl o 2048).getD b 0) = p + 1 ∧ v = stz x y ((zl o 2048).getD b 0)) ∧ ∀ b, b < j → o ((zl o 2048).getD b 0) = p + 1 → v ≤ stz x y ((zl o 2048).getD b 0)) ?_ 0 _ _ (Nat.zero_le _) ⟨rfl, 1000000, rfl, Nat.le_refl _, Or.inl rfl, fun b h => absurd h (by omega)⟩
  rintro ih j _ _ hj ⟨rfl, v, rfl, hv, hat, hmin⟩ hih
  unfold wp_X9_farOf_8
  rw [hl.1]
  simp (disch := omega) only [forall_eq, forall_eq', n_inT, n_cl, n_lt, n_le, n_eq, n_eq0, n_lt0, n_ge0, n_gt0, n_le0, n_em, n_me, n_add, n_mul, n_00, n_s01, n_1z, n_0z, Nat.one_ne_zero, eq_self, ne_eq, true_and, and_true, true_implies, false_implies, implies_true, not_true_eq_false, not_false_eq_true, false_and, and_false, or_false, false_or, or_true, true_or]
  refine ⟨fun h => ?_, fun h => ?_⟩
  · have e : v = nfr o x y p 1000000 2048 := by
      have a1 := nfr_le o x y p 1000000 2048
      have le1 : nfr o x y p 1000000 2048 ≤ v := by
        rcases hat with e | ⟨b, hb1, hb2, e⟩
        · rw [e]; exact a1
        · rw [e]; exact nfr_z hb2 2048 (za_ok hb (show b < (zl o 2048).length by omega)).1
      have le2 : v ≤ nfr o x y p 1000000 2048 := by
        rcases nfr_att o x y p 1000000 2048 with e | ⟨z, hz, h1, e⟩
        · rw [e]; exact hv
        · obtain ⟨i, hi, ei⟩ := zl_idx (o := o) (n := 2048) hz (by omega)
          rw [e]
          have := hmin i (by omega) (by rw [show (zl o 2048).getD i 0 = z from ei]; exact h1)
          rw [show (zl o 2048).getD i 0 = z from ei] at this
          exact this
      omega
    rw [e]; exact hQ
  · have hjl : j < (zl o 2048).length := by omega
    obtain ⟨z1, z2, z3, z4⟩ := za_ok hb hjl
    obtain ⟨-, w2, w3, w4, w5, w6⟩ := hl.2 j hjl
    obtain ⟨b1, b2, b3, b4, -, -⟩ := geo_box _ z1 z2
    rw [w2, w3, w4, w5, w6, n_eq (by omega) (by omega)]
    refine ⟨fun c => s_X9_around hx b1 b3 (s_X9_around hy b2 b4 ?_), fun c => ?_⟩
    · have s1 := @stp_le x (zx ((zl o 2048).getD j 0)) (zw ((zl o 2048).getD j 0))
      have s2 := @stp_le y (zy ((zl o 2048).getD j 0)) (zh ((zl o 2048).getD j 0))
      rw [n_add]
      refine s_X9_lesser (by omega) (by omega) (hih _ _ hjl ⟨rfl, _, rfl, ?_, ?_, fun b hb1 hb2 => ?_⟩)
      · exact Nat.le_trans (Nat.min_le_left _ _) hv
      · by_cases d : v ≤ stp x (zx ((zl o 2048).getD j 0)) (zw ((zl o 2048).getD j 0)) + stp y (zy ((zl o 2048).getD j 0)) (zh ((zl o 2048).getD j 0))
        · rw [Nat.min_eq_left d]
          rcases hat with e | ⟨b, hb1, hb2, e⟩
          · exact Or.inl e
          · exact Or.inr ⟨b, by omega, hb2, e⟩
        · rw [Nat.min_eq_right (by omega)]
          exact Or.inr ⟨j, by omega, by omega, rfl⟩
      · rcases Nat.lt_or_ge b j with t | t
        · exact Nat.le_trans (Nat.min_le_left _ _) (hmin b t hb2)
        · rw [show b = j by omega]; exact Nat.min_le_right _ _
    · refine hih _ _ hjl ⟨rfl, v, rfl, hv, ?_, fun b hb1 hb2 => ?_⟩
      · rcases hat with e | ⟨b, hb1, hb2, e⟩
        · exact Or.inl e
        · exact Or.inr ⟨b, by omega, hb2, e⟩
      · rcases Nat.lt_or_ge b j with t | t
        · exact hmin b t hb2
        · rw [show b = j by omega] at hb2; omega
theorem nbn_own {o : Nat → Nat} {p q : Nat} (h : (nbn o p).testBit q = true) : own1 o q := by
  obtain ⟨-, -, z, hz, ho, hbs⟩ := tb_nbn.mp h
  obtain ⟨z', hz', ho', -⟩ := besB_iff.mp hbs
  exact ⟨z', hz', ho'⟩
theorem s_X9_nearestTo {τ : St} {o : Nat → Nat} {p x y ups : Nat} {Q : Int32 → Prop} (hf : RowOK (τ 245)) (hups : bits (gst (τ 245)) 1 = ups) (hb : OB o) (hl : LR τ o) (hp : p < 10) (hx : x < 32) (hy : y < 32) (hQ : Q (nO (lst (far o x y) (nbn o p &&& ups) 10))) : wp_X9_nearestTo τ (nI p) (nI x) (nI y) Q := by
  unfold wp_X9_nearestTo
  refine s_X9_besideNode hb hl hp (s_X9_bitsOf hf (by decide) ?_)
  rw [hups, n_and]
  intro x4 hx4
  rw [hx4]
  have hml : nbn o p &&& ups < 1024 := Nat.lt_of_le_of_lt Nat.and_le_left (nbn_lt o p)
  have hown : ∀ q, (nbn o p &&& ups).testBit q = true → own1 o q := fun q h => by
    rw [Nat.testBit_and, Bool.and_eq_true] at h
    exact nbn_own h.1
  generalize nbn o p &&& ups = m at *
  refine LP2_nat 10 (fun j u w => w = nI j ∧ u = nO (lst (far o x y) m j)) ?_ 0 _ _ (Nat.zero_le _) ⟨rfl, rfl⟩
  rintro ih j _ _ hj ⟨rfl, rfl⟩ hih
  unfold wp_X9_nearestTo_19
  simp (disch := omega) only [forall_eq, forall_eq', n_inT, n_cl, n_lt, n_le, n_eq, n_eq0, n_lt0, n_ge0, n_gt0, n_le0, n_em, n_me, n_add, n_mul, n_00, n_s01, n_1z, n_0z, Nat.one_ne_zero, eq_self, ne_eq, true_and, and_true, true_implies, false_implies, implies_true, not_true_eq_false, not_false_eq_true, false_and, and_false, or_false, false_or, or_true, true_or]
  refine ⟨fun h => by have e : j = 10 := (by omega); subst e; exact hQ, fun h => ?_⟩
  rw [n_bit0 (by omega) (by omega)]
  refine ⟨fun hbit => ?_, fun hbit => hih _ _ (by omega) ⟨rfl, ?_⟩⟩
  · have hbt : m.testBit j = true := by simpa using hbit
    cases e : lst (far o x y) m j with
    | none =>
      refine ⟨fun _ => hih _ _ (by omega) ⟨rfl, ?_⟩, fun q => absurd rfl q⟩
      simp [lst, e, hbt, nO]
    | some b =>
      obtain ⟨hbl, hbb⟩ := lst_lt j b e
      refine ⟨fun q => absurd q (by rw [nO, n_em (by omega)]; exact not_false), fun _ => ?_⟩
      rw [nO]
      refine s_X9_farOf hb hl (by omega) hx hy (hown j hbt) (s_X9_farOf hb hl (by omega) hx hy (hown b hbb) ?_)
      have v1 := far_le o x y b
      have v2 := far_le o x y j
      simp (disch := omega) only [forall_eq, forall_eq', n_inT, n_cl, n_lt, n_le, n_eq, n_eq0, n_lt0, n_ge0, n_gt0, n_le0, n_em, n_me, n_add, n_mul, n_00, n_s01, n_1z, n_0z, Nat.one_ne_zero, eq_self, ne_eq, true_and, and_true, true_implies, false_implies, implies_true, not_true_eq_false, not_false_eq_true, false_and, and_false, or_false, false_or, or_true, true_or]
      refine ⟨fun q => hih _ _ (by omega) ⟨rfl, ?_⟩, fun q => hih _ _ (by omega) ⟨rfl, ?_⟩⟩
      · simp [lst, e, nO, show ¬ far o x y j < far o x y b by omega]
      · simp [lst, e, nO, hbt, show far o x y j < far o x y b by omega]
  · cases e : lst (far o x y) m j with
    | none => simp [lst, e, hbit]
    | some b => simp [lst, e, hbit]
/-- the next node in one reality -/
def nx1 (o : Nat → Nat) (ups x y p : Nat) : Option Nat := match lst (far o x y) (nbn o p &&& ups) 10 with
  | none => none
  | some b => if far o x y b < far o x y p then some b else none
theorem nx1_ok {o : Nat → Nat} {ups x y p q : Nat} (h : nx1 o ups x y p = some q) : q < 10 ∧ far o x y q < far o x y p ∧ ups.testBit q = true ∧ own1 o q := by
  unfold nx1 at h
  cases e : lst (far o x y) (nbn o p &&& ups) 10 with
  | none => rw [e] at h; cases h
  | some b =>
    rw [e] at h
    dsimp only at h
    obtain ⟨l1, l2⟩ := lst_lt 10 b e
    rw [Nat.testBit_and, Bool.and_eq_true] at l2
    by_cases c : far o x y b < far o x y p
    · rw [if_pos c] at h
      cases h
      exact ⟨l1, c, l2.2, nbn_own l2.1⟩
    · rw [if_neg c] at h; cases h
/-- the way in one reality, and is it stuck -/
def wayL (o : Nat → Nat) (ups x y p : Nat) : List Nat := wyL (far o x y) (nx1 o ups x y) 10 p
def wayS (o : Nat → Nat) (ups x y p : Nat) : Bool := wyS (far o x y) (nx1 o ups x y) 10 p
/-- a way, as the reference has it -/
def WayR (τ : St) (L : List Nat) (b : Bool) : Prop := τ 244 26 = nI L.length ∧ τ 244 27 = bI b ∧ ∀ i, i < L.length → τ 257 i = nI (L.getD i 0)
/-- what a way scribbles on -/
def Wf (σ τ : St) : Prop := (∀ b, b ≠ 244 → b ≠ 257 → τ b = σ b) ∧ ∀ j, j ≠ 26 → j ≠ 27 → τ 244 j = σ 244 j
theorem Wf.rf (σ : St) : Wf σ σ := ⟨fun _ _ _ => rfl, fun _ _ _ => rfl⟩
theorem Wf.tr {σ τ ρ : St} (h1 : Wf σ τ) (h2 : Wf τ ρ) : Wf σ ρ := ⟨fun b x y => (h2.1 b x y).trans (h1.1 b x y), fun j x y => (h2.2 j x y).trans (h1.2 j x y)⟩
theorem Wf.sc {σ τ : St} (h : Wf σ τ) : Sc σ τ := ⟨fun b hb => h.1 b (by omega) (by omega), fun j hj => h.2 j (by omega) (by omega)⟩
theorem Wf.lr {σ τ : St} {o : Nat → Nat} (h : Wf σ τ) (hl : LR σ o) : LR τ o := by
  refine ⟨by rw [h.2 23 (by decide) (by decide)]; exact hl.1, fun i hi => ?_⟩
  rw [h.1 250 (by decide) (by decide), h.1 251 (by decide) (by decide), h.1 252 (by decide) (by decide), h.1 253 (by decide) (by decide), h.1 254 (by decide) (by decide), h.1 255 (by decide) (by decide)]
  exact hl.2 i hi
theorem s_X9_goes {σ : St} {o : Nat → Nat} {p0 x y ups : Nat} {Q : St → Prop} (hf : RowOK (σ 245)) (hups : bits (gst (σ 245)) 1 = ups) (hb : OB o) (hl : LR σ o) (hp : p0 < 10) (hx : x < 32) (hy : y < 32) (hown : own1 o p0)
    (hQ : ∀ τ, Wf σ τ → WayR τ (wayL o ups x y p0) (wayS o ups x y p0) → Q τ) : wp_X9_goes σ (nI p0) (nI x) (nI y) Q := by
  unfold wayL wayS at hQ
  generalize hT : wyL (far o x y) (nx1 o ups x y) 10 p0 = T at hQ
  unfold wp_X9_goes
  intro σ1 h1 σ2 h2 σ3 h3
  have m3 : Wf σ σ3 := ⟨fun b b1 b2 => by rw [h3, su_ne b1, h2, su_ne b2, h1, su_ne b1], fun j j1 j2 => by rw [h3, su_at, if_neg j2, h2, su_ne (by decide), h1, su_at, if_neg j1]⟩
  have a3 : σ3 244 26 = nI 1 := by rw [h3, su_at, if_neg (by decide), h2, su_ne (by decide), h1, su_at, if_pos rfl]
  have a4 : σ3 244 27 = nI 0 := by rw [h3, su_at, if_pos rfl]
  have a0 : σ3 257 0 = nI p0 := by rw [h3, su_ne (by decide), h2, su_at, if_pos rfl]
  refine LP2_in (fun τ z => Wf σ τ ∧ ∃ h p, z = nI p ∧ own1 o p ∧ WI (far o x y) (nx1 o ups x y) p0 h p ∧ τ 244 26 = nI (h + 1) ∧ (∀ i, i ≤ h → τ 257 i = nI (T.getD i 0)) ∧ (τ 244 27 = nI 0 ∨ τ 244 27 = nI 1 ∧ far o x y p ≠ 0 ∧ nx1 o ups x y p = none)) (fun τ z => 40 - 2 * (τ 244 26).toNatClampNeg - (τ 244 27).toNatClampNeg) ?_ _ _ ⟨m3, 0, p0, rfl, hown, WI.start hp, a3, fun i hi => by rw [show i = 0 by omega, a0, ← hT, wyL_0], Or.inl a4⟩
  rintro ih τ _ ⟨hW, h, p, rfl, hop, hI, t26, hpath, hst⟩ hih
  have h9 := hI.le
  have hpl := hI.1
  have hR : RowOK (τ 245) := by rw [hW.1 245 (by decide) (by decide)]; exact hf
  have hup : bits (gst (τ 245)) 1 = ups := by rw [hW.1 245 (by decide) (by decide)]; exact hups
  have hl' := hW.lr hl
  unfold wp_X9_goes_20
  rcases hst with hst | ⟨hst, d1, d2⟩
  · rw [hst]
    refine ⟨fun t => absurd rfl t, fun _ => s_X9_farOf hb hl' hpl hx hy hop ?_⟩
    have hfl := far_le o x y p
    rw [n_le0 (by omega)]
    refine ⟨fun c => ?_, fun c => ?_⟩
    · obtain ⟨w1, w2⟩ := hI.end0 c
      rw [hT] at w2
      exact hQ τ hW ⟨by rw [t26, w2], by rw [hst, w1]; rfl, fun i hi => hpath i (by omega)⟩
    · refine s_X9_nearestTo hR hup hb hl' hpl hx hy ?_
      have stuck : nx1 o ups x y p = none → ∀ τ', τ' = su τ 244 27 (nI 1) → ih τ' (nI p) := fun hn τ' hτ => by
        refine hih _ _ ⟨hW.tr ⟨fun b b1 b2 => by rw [hτ, su_ne b1], fun j j1 j2 => by rw [hτ, su_at, if_neg j2]⟩, h, p, rfl, hop, hI, by rw [hτ, su_at, if_neg (by decide)]; exact t26, fun i hi => by rw [hτ, su_ne (by decide)]; exact hpath i hi, Or.inr ⟨by rw [hτ, su_at, if_pos rfl], c, hn⟩⟩ ?_
        rw [hτ, su_at, if_neg (by decide), su_at, if_pos rfl, t26, hst, n_cl (by omega), n_cl (by omega), n_cl (by omega)]
        omega
      cases e : lst (far o x y) (nbn o p &&& ups) 10 with
      | none =>
        have hn : nx1 o ups x y p = none := by unfold nx1; rw [e]
        exact ⟨fun _ => stuck hn, fun t => absurd rfl t⟩
      | some b =>
        obtain ⟨l1, l2⟩ := lst_lt 10 b e
        rw [Nat.testBit_and, Bool.and_eq_true] at l2
        have hob := nbn_own l2.1
        have hbl := far_le o x y b
        refine ⟨fun t => absurd t (by rw [nO, n_em (by omega)]; exact not_false), fun _ => ?_⟩
        rw [nO]
        refine s_X9_farOf hb hl' l1 hx hy hob (s_X9_farOf hb hl' hpl hx hy hop ?_)
        rw [n_lt (by omega) (by omega)]
        refine ⟨fun c2 => ?_, fun c2 => stuck (by unfold nx1; rw [e]; dsimp only; rw [if_neg c2])⟩
        have hn : nx1 o ups x y p = some b := by unfold nx1; rw [e]; dsimp only; rw [if_pos c2]
        have hI' := hI.step c hn l1 c2
        have h9' := hI'.le
        rw [t26, n_cl (by omega)]
        refine ⟨n_in (by omega) (by decide), fun τ1 e1 τ2 e2 => ?_⟩
        have g26 : τ1 244 26 = nI (h + 1) := by rw [e1, su_ne (by decide)]; exact t26
        rw [g26, n_add] at e2
        refine hih _ _ ⟨hW.tr ⟨fun b b1 b2 => by rw [e2, su_ne b1, e1, su_ne b2], fun j j1 j2 => by rw [e2, su_at, if_neg j1, e1, su_ne (by decide)]⟩, h + 1, b, rfl, hob, hI', by rw [e2, su_at, if_pos rfl], fun i hi => ?_, Or.inl (by rw [e2, su_at, if_neg (by decide), e1, su_ne (by decide)]; exact hst)⟩ ?_
        · rw [e2, su_ne (by decide), e1, su_at]
          by_cases ei : i = h + 1
          · rw [if_pos ei, ei, ← hT, hI'.at_]
          · rw [if_neg ei]; exact hpath i (by omega)
        · have g27 : τ2 244 27 = nI 0 := by rw [e2, su_at, if_neg (by decide), e1, su_ne (by decide)]; exact hst
          have g26' : τ2 244 26 = nI (h + 1 + 1) := by rw [e2, su_at, if_pos rfl]
          rw [g27, g26', hst, t26, n_cl (by omega), n_cl (by omega), n_cl (by omega)]
          omega
  · rw [hst]
    obtain ⟨w1, w2⟩ := hI.end1 d1 d2
    rw [hT] at w2
    exact ⟨fun _ => hQ τ hW ⟨by rw [t26, w2], by rw [hst, w1]; rfl, fun i hi => hpath i (by omega)⟩, fun t => absurd t (by decide)⟩
