/-! ALL WAYS of a reality: the class -/
def maxN (g : Nat → Nat) : Nat → Nat
  | 0 => 0
  | n + 1 => max (maxN g n) (g n)
theorem maxN_le {g : Nat → Nat} {v : Nat} : ∀ n, maxN g n ≤ v ↔ ∀ i, i < n → g i ≤ v
  | 0 => by simp [maxN]
  | n + 1 => by
    unfold maxN
    rw [Nat.max_le, maxN_le n]
    constructor
    · rintro ⟨h1, h2⟩ i hi
      rcases Nat.lt_or_ge i n with q | q
      · exact h1 i q
      · rw [show i = n by omega]; exact h2
    · intro h
      exact ⟨fun i hi => h i (by omega), h n (by omega)⟩
theorem maxN_swap (g : Nat → Nat → Nat) (m n : Nat) : maxN (fun i => maxN (fun j => g i j) m) n = maxN (fun j => maxN (fun i => g i j) n) m := by
  apply Nat.le_antisymm
  · rw [maxN_le]
    intro i hi
    rw [maxN_le]
    intro j hj
    exact Nat.le_trans ((maxN_le n).mp (Nat.le_refl (maxN (fun i => g i j) n)) i hi) ((maxN_le m).mp (Nat.le_refl (maxN (fun j => maxN (fun i => g i j) n) m)) j hj)
  · rw [maxN_le]
    intro j hj
    rw [maxN_le]
    intro i hi
    exact Nat.le_trans ((maxN_le m).mp (Nat.le_refl (maxN (fun j => g i j) m)) j hj) ((maxN_le n).mp (Nat.le_refl (maxN (fun i => maxN (fun j => g i j) m) n)) i hi)
def okp (o st : Nat → Nat) (ups a b : Nat) : Bool := prs st a b && !pwS o ups a b
def hpc (o st : Nat → Nat) (ups a b : Nat) : Nat := if okp o st ups a b then (pwL o ups a b).length - 1 else 0
def wpc (o st : Nat → Nat) (ups a b : Nat) : Nat := if okp o st ups a b then 1 else 0
def mpc (o st : Nat → Nat) (ups a b : Nat) : Nat := if okp o st ups a b then (pwL o ups a b).length else 0
theorem okp_iff {o st : Nat → Nat} {ups a b : Nat} : okp o st ups a b = true ↔ prs st a b = true ∧ pwS o ups a b = false := by
  unfold okp
  rw [Bool.and_eq_true, Bool.not_eq_true']
theorem pwL_len (o : Nat → Nat) (ups a b : Nat) : 1 ≤ (pwL o ups a b).length ∧ (pwL o ups a b).length ≤ 11 := wyL_len _ _ 10 a
theorem mpc_le (o st : Nat → Nat) (ups a b : Nat) : mpc o st ups a b ≤ 11 := by
  have := pwL_len o ups a b
  unfold mpc
  split <;> omega
theorem s_X7_nodesBetween {τ : St} {L : List Nat} {b : Bool} {Q : Int32 → Prop} (hW : WayOK τ L b) (h1 : 1 ≤ L.length) (h2 : L.length ≤ 11) (hL : ∀ i, i < L.length → L.getD i 0 < 10) (hQ : ∀ m, m < 1024 → (∀ n, m.testBit n = true ↔ btw L n) → Q (nI m)) : wp_X7_nodesBetween τ Q := by
  unfold wp_X7_nodesBetween
  rcases Nat.lt_or_ge L.length 2 with q | q
  · refine LP2_nat 0 (fun _ x y => x = nI 0 ∧ y = nI 1) ?_ 0 _ _ (Nat.zero_le _) ⟨rfl, rfl⟩
    rintro ih i _ _ hi ⟨rfl, rfl⟩ hih
    unfold wp_X7_nodesBetween_4
    rw [hW.1, n_le (by omega) (by decide)]
    refine ⟨fun _ => hQ 0 (by decide) (fun n => ?_), fun t => absurd (by omega) t⟩
    rw [Nat.zero_testBit]
    exact ⟨fun t => absurd t (by decide), fun ⟨i, a, c, _⟩ => by omega⟩
  · refine LP2_nat (L.length - 1) (fun j x y => y = nI j ∧ 1 ≤ j ∧ ∃ m, x = nI m ∧ m < 1024 ∧ ∀ n, m.testBit n = true ↔ ∃ i, 1 ≤ i ∧ i < j ∧ L.getD i 0 = n) ?_ 1 _ _ (by omega) ⟨rfl, Nat.le_refl _, 0, rfl, by decide, fun n => ?_⟩
    · rintro ih j _ _ hj ⟨rfl, hj1, m, rfl, hm, hbit⟩ hih
      unfold wp_X7_nodesBetween_4
      rw [hW.1, n_le (by omega) (by omega), n_cl (by omega)]
      refine ⟨fun c => hQ m hm (fun n => ?_), fun c => ⟨n_in (by omega) (by decide), ?_⟩⟩
      · rw [hbit n]
        constructor
        · rintro ⟨i, a1, a2, a3⟩; exact ⟨i, a1, by omega, a3⟩
        · rintro ⟨i, a1, a2, a3⟩; exact ⟨i, a1, by omega, a3⟩
      · have hv := hL j (by omega)
        rw [hW.2.2 j (by omega), n_one (by omega), n_or, n_add]
        intro u hu v hv2
        rw [hu, hv2]
        refine hih _ _ (by omega) ⟨rfl, by omega, _, rfl, or_lt10 hm (pow_lt10 hv), fun n => ?_⟩
        rw [Nat.testBit_or, Bool.or_eq_true, hbit n, Nat.testBit_two_pow, decide_eq_true_eq]
        constructor
        · rintro (⟨i, a1, a2, a3⟩ | a)
          · exact ⟨i, a1, by omega, a3⟩
          · exact ⟨j, hj1, by omega, a⟩
        · rintro ⟨i, a1, a2, a3⟩
          rcases Nat.lt_or_ge i j with t | t
          · exact Or.inl ⟨i, a1, t, a3⟩
          · exact Or.inr (by rw [show j = i by omega]; exact a3)
    · rw [Nat.zero_testBit]
      exact ⟨fun t => absurd t (by decide), fun ⟨i, a, c, _⟩ => by omega⟩
/-- what a survey scribbles on -/
def Vf (σ τ : St) : Prop := (∀ b, b ≠ 176 → b ≠ 179 → b ≠ 180 → τ b = σ b)
theorem Vf.tr {σ τ ρ : St} (h1 : Vf σ τ) (h2 : Vf τ ρ) : Vf σ ρ := fun b x y z => (h2 b x y z).trans (h1 b x y z)
theorem s_fol {σ : St} {o : Nat → Nat} {r ups a b : Nat} {Q : St → Prop} (hr : r < 3) (ha : a < 10) (hu : ups < 1024) (hlook : LookOK σ (2 ^ r) (fun _ n => far o (txo o b) (tyo o b) n) (fun _ n => nbn o n))
    (hQ : ∀ τ, (∀ b, b ≠ 176 → b ≠ 179 → τ b = σ b) → WayOK τ (pwL o ups a b) (pwS o ups a b) → Q τ) : wp_X7_follow σ (nI a) (nI (2 ^ r)) (nI ups) Q := by
  refine s_X7_follow hlook (pow_lt8 r hr) hu ha (fun τ g1 hW => hQ τ g1 ?_)
  rw [frA_1 hr, nxA_1 hr] at hW
  exact hW
theorem s_X5_addHinges {σ : St} {o st : Nat → Nat} {r ups a b G : Nat} {Q : St → Prop} (hr : r < 3) (ha : a < 10) (hups : ups = bits st 1) (hlook : LookOK σ (2 ^ r) (fun _ n => far o (txo o b) (tyo o b) n) (fun _ n => nbn o n)) (hok : okp o st ups a b = true) (hW : WayOK σ (pwL o ups a b) false) (hG : G < 1024) (h4 : σ 180 4 = nI G)
    (hQ : ∀ τ G', Vf σ τ → (∀ j, j ≠ 4 → τ 180 j = σ 180 j) → G' < 1024 → τ 180 4 = nI G' → (∀ n, n < 10 → (G'.testBit n = true ↔ G.testBit n = true ∨ HBp o st ups a b n)) → Q τ) : wp_X5_addHinges σ (nI a) (nI (2 ^ r)) (nI ups) Q := by
  have hu : ups < 1024 := by rw [hups]; exact bits_lt _ _
  obtain ⟨hp, hS⟩ := okp_iff.mp hok
  have hlen := pwL_len o ups a b
  have hel : ∀ i, i < (pwL o ups a b).length → (pwL o ups a b).getD i 0 < 10 := fun i hi => by
    unfold pwL wayL at hi ⊢
    exact wyL_all (fr := far o (txo o b) (tyo o b)) (nx := nx1 o ups (txo o b) (tyo o b)) (P := fun q => q < 10) (fun p q h => (nx1_ok h).1) 10 a ha i hi
  unfold wp_X5_addHinges
  refine s_X7_nodesBetween hW hlen.1 hlen.2 hel (fun m hm hbit => ?_)
  rw [h4, n_not hm hG]
  intro x4 hx4
  rw [hx4]
  have tbm : ∀ n, (m &&& (G ^^^ 4294967295)).testBit n = (m.testBit n && !G.testBit n) := fun n => tb_not hm
  have hml : m &&& (G ^^^ 4294967295) < 1024 := Nat.lt_of_le_of_lt Nat.and_le_left hm
  generalize m &&& (G ^^^ 4294967295) = w at *
  refine LP2_nat 10 (fun n τ z => z = nI n ∧ Vf σ τ ∧ (∀ j, j ≠ 4 → τ 180 j = σ 180 j) ∧ ∃ G', G' < 1024 ∧ τ 180 4 = nI G' ∧ ∀ k, k < 10 → (G'.testBit k = true ↔ G.testBit k = true ∨ (k < n ∧ HBp o st ups a b k))) ?_ 0 _ _ (Nat.zero_le _) ⟨rfl, fun _ _ _ _ => rfl, fun _ _ => rfl, G, hG, h4, fun k hk => ⟨Or.inl, fun t => t.elim id (fun u => absurd u.1 (by omega))⟩⟩
  rintro ih n τ _ hn ⟨rfl, hV, hj, G', hG', h4', hset⟩ hih
  unfold wp_X5_addHinges_19
  rw [n_le (by decide) (by omega)]
  refine ⟨fun q => hQ τ G' hV hj hG' h4' (fun k hk => ?_), fun q => ?_⟩
  · rw [hset k hk]
    constructor
    · rintro (t | t)
      · exact Or.inl t
      · exact Or.inr t.2
    · rintro (t | t)
      · exact Or.inl t
      · exact Or.inr ⟨by omega, t⟩
  · have hnl : n < 10 := by omega
    rw [n_bit0 (by omega) (by omega), tbm n]
    have skip : ¬ (HBp o st ups a b n ∧ G.testBit n = false) → ∀ k, k < 10 → (G'.testBit k = true ↔ G.testBit k = true ∨ (k < n + 1 ∧ HBp o st ups a b k)) := fun hno k hk => by
      rw [hset k hk]
      constructor
      · rintro (t | t)
        · exact Or.inl t
        · exact Or.inr ⟨by omega, t.2⟩
      · rintro (t | ⟨t1, t2⟩)
        · exact Or.inl t
        · rcases Nat.lt_or_ge k n with u | u
          · exact Or.inr ⟨u, t2⟩
          · rw [show k = n by omega] at t2 ⊢
            cases eg : G.testBit n with
            | true => exact Or.inl rfl
            | false => exact absurd ⟨t2, eg⟩ hno
    refine ⟨fun c => ?_, fun c => ?_⟩
    · rw [n_add]
      intro z hz
      rw [hz]
      refine hih _ _ hnl ⟨rfl, hV, hj, G', hG', h4', skip ?_⟩
      rintro ⟨t1, t2⟩
      rw [t2, (hbit n).mpr t1.2.2.1] at c
      simp at c
    · have cb : m.testBit n = true ∧ G.testBit n = false := by
        have : (m.testBit n && !G.testBit n) = true := by simpa using c
        rw [Bool.and_eq_true, Bool.not_eq_true'] at this
        exact this
      rw [n_clr (by omega)]
      refine s_fol (b := b) hr ha (Nat.lt_of_le_of_lt (clr_le _ _) hu) (hlook.congr (hV 177 (by decide) (by decide) (by decide)) (hV 178 (by decide) (by decide) (by decide))) (fun τ2 g1 hW2 => ?_)
      have e180 : τ2 180 = τ 180 := g1 180 (by decide) (by decide)
      rw [hW2.2.1, e180, h4']
      cases es : pwS o (clr ups n) a b with
      | false =>
        refine ⟨fun _ τ3 e3 z hz => ?_, fun t => absurd rfl t⟩
        rw [hz, n_add]
        rw [n_or, Nat.or_zero] at e3
        refine hih _ _ hnl ⟨rfl, hV.tr (fun b x y z => by rw [e3, su_ne z]; exact g1 b x y), fun j jh => by rw [e3, su_at, if_neg jh, e180]; exact hj j jh, G', hG', by rw [e3, su_at, if_pos rfl], skip ?_⟩
        rintro ⟨t1, -⟩
        rw [t1.2.2.2] at es; cases es
      | true =>
        refine ⟨fun t => absurd t (by decide), fun _ τ3 e3 z hz => ?_⟩
        rw [hz, n_add]
        rw [n_one (by omega), n_or] at e3
        have hB : HBp o st ups a b n := ⟨hp, hS, (hbit n).mp cb.1, es⟩
        refine hih _ _ hnl ⟨rfl, hV.tr (fun b x y z => by rw [e3, su_ne z]; exact g1 b x y), fun j jh => by rw [e3, su_at, if_neg jh, e180]; exact hj j jh, G' ||| 2 ^ n, or_lt10 hG' (pow_lt10 hnl), by rw [e3, su_at, if_pos rfl], fun k hk => ?_⟩
        rw [Nat.testBit_or, Bool.or_eq_true, hset k hk, Nat.testBit_two_pow, decide_eq_true_eq]
        constructor
        · rintro ((t | t) | t)
          · exact Or.inl t
          · exact Or.inr ⟨by omega, t.2⟩
          · exact Or.inr ⟨by omega, by rw [← t]; exact hB⟩
        · rintro (t | ⟨t1, t2⟩)
          · exact Or.inl (Or.inl t)
          · rcases Nat.lt_or_ge k n with u | u
            · exact Or.inl (Or.inr ⟨u, t2⟩)
            · exact Or.inr (by omega)
/-- the survey's numbers -/
def SvOK (τ : St) (H W M G : Nat) : Prop := τ 180 1 = nI H ∧ τ 180 2 = nI W ∧ τ 180 3 = nI M - nI 1 ∧ τ 180 4 = nI G ∧ G < 1024 ∧ M ≤ 11
theorem imax_m {M h : Nat} (hM : M ≤ 11) (hh : h ≤ 11) : imax (nI M - nI 1) (nI h) = nI (max M (h + 1)) - nI 1 := by
  have key : ∀ M, M < 12 → ∀ h, h < 12 → imax (nI M - nI 1) (nI h) = nI (max M (h + 1)) - nI 1 := by decide +kernel
  exact key M (by omega) h (by omega)
theorem s_X5_walkTo {σ : St} {o st : Nat → Nat} {r ups b H W M G : Nat} {fh : Bool} {Q : St → Prop} (hr : r < 3) (hb : b < 10) (hups : ups = bits st 1) (hub : st b = 1) (hlook : LookOK σ (2 ^ r) (fun _ n => far o (txo o b) (tyo o b) n) (fun _ n => nbn o n)) (hSv : SvOK σ H W M G)
    (hQ : ∀ τ G', Vf σ τ → SvOK τ (H + sumN (fun a => hpc o st ups a b) 10) (W + sumN (fun a => wpc o st ups a b) 10) (max M (maxN (fun a => mpc o st ups a b) 10)) G' → (fh = true → ∀ n, n < 10 → (G'.testBit n = true ↔ G.testBit n = true ∨ ∃ a, a < 10 ∧ HBp o st ups a b n)) → Q τ) : wp_X5_walkTo σ (nI b) (nI (2 ^ r)) (nI ups) (bI fh) Q := by
  have hu : ups < 1024 := by rw [hups]; exact bits_lt _ _
  refine LP2_nat 10 (fun i τ z => z = nI i ∧ Vf σ τ ∧ ∃ G', SvOK τ (H + sumN (fun a => hpc o st ups a b) i) (W + sumN (fun a => wpc o st ups a b) i) (max M (maxN (fun a => mpc o st ups a b) i)) G' ∧ (fh = true → ∀ n, n < 10 → (G'.testBit n = true ↔ G.testBit n = true ∨ ∃ a, a < i ∧ HBp o st ups a b n))) ?_ 0 _ _ (Nat.zero_le _) ⟨rfl, fun _ _ _ _ => rfl, G, by
    show SvOK σ (H + 0) (W + 0) (max M 0) G
    rw [Nat.add_zero, Nat.add_zero, Nat.max_zero]; exact hSv, fun _ n _ => ⟨Or.inl, fun t => t.elim id (fun ⟨a, h, _⟩ => absurd h (by omega))⟩⟩
  rintro ih i τ _ hi ⟨rfl, hV, G', hSv', hset⟩ hih
  unfold wp_X5_walkTo_3
  rw [n_le (by decide) (by omega), n_eq (by omega) (by omega)]
  refine ⟨fun q => ?_, fun q => ?_⟩
  · have ei : i = 10 := by omega
    subst ei
    exact hQ τ G' hV hSv' hset
  · have hil : i < 10 := by omega
    have noB : okp o st ups i b = false → ∀ n, ¬ HBp o st ups i b n := fun hk n t => by
      have : okp o st ups i b = true := okp_iff.mpr ⟨t.1, t.2.1⟩
      rw [hk] at this; cases this
    have skip : okp o st ups i b = false → ∀ τ', Vf τ τ' → τ' 180 = τ 180 → ih τ' (nI (i + 1)) := fun hk τ' hV' e180 => by
      have e1 : hpc o st ups i b = 0 := by unfold hpc; rw [hk]; rfl
      have e2 : wpc o st ups i b = 0 := by unfold wpc; rw [hk]; rfl
      have e3 : mpc o st ups i b = 0 := by unfold mpc; rw [hk]; rfl
      refine hih _ _ hil ⟨rfl, hV.tr hV', G', ?_, fun hf n hn => ?_⟩
      · show SvOK τ' (H + (sumN (fun a => hpc o st ups a b) i + hpc o st ups i b)) (W + (sumN (fun a => wpc o st ups a b) i + wpc o st ups i b)) (max M (max (maxN (fun a => mpc o st ups a b) i) (mpc o st ups i b))) G'
        rw [e1, e2, e3, Nat.add_zero, Nat.add_zero, Nat.max_zero]
        unfold SvOK
        rw [e180]; exact hSv'
      · rw [hset hf n hn]
        constructor
        · rintro (t | ⟨a, h1, h2⟩)
          · exact Or.inl t
          · exact Or.inr ⟨a, by omega, h2⟩
        · rintro (t | ⟨a, h1, h2⟩)
          · exact Or.inl t
          · rcases Nat.lt_or_ge a i with u | u
            · exact Or.inr ⟨a, u, h2⟩
            · rw [show a = i by omega] at h2; exact absurd h2 (noB hk n)
    have nok : ¬ prs st i b = true → okp o st ups i b = false := fun h => by
      cases e : okp o st ups i b with
      | false => rfl
      | true => exact absurd (okp_iff.mp e).1 h
    rw [n_add, n_bit0 (by omega) (by omega), hups, tb_bits, ← hups]
    refine ⟨fun c => fun z hz => by rw [hz]; exact skip (nok (fun t => (prs_iff.mp t).1 c)) τ (fun _ _ _ _ => rfl) rfl, fun c => ⟨fun d z hz => ?_, fun d => ?_⟩⟩
    · rw [hz]
      refine skip (nok (fun t => ?_)) τ (fun _ _ _ _ => rfl) rfl
      have := (prs_iff.mp t).2.1
      simp [hil, this] at d
    · have hsi : st i = 1 := by
        by_cases u : st i = 1
        · exact u
        · exact absurd (by simp [u]) d
      have hp : prs st i b = true := prs_iff.mpr ⟨c, hsi, hub⟩
      have hlook' := hlook.congr (hV 177 (by decide) (by decide) (by decide)) (hV 178 (by decide) (by decide) (by decide))
      refine s_fol (b := b) hr hil hu hlook' (fun τ2 g1 hW => ?_)
      have hV2 : Vf τ τ2 := fun b x y _ => g1 b x y
      have e180 : τ2 180 = τ 180 := g1 180 (by decide) (by decide)
      have hlen := pwL_len o ups i b
      rw [hW.2.1, hW.1]
      cases es : pwS o ups i b with
      | true =>
        have hk : okp o st ups i b = false := by unfold okp; rw [es]; simp
        exact ⟨fun _ z hz => by rw [hz]; exact skip hk τ2 hV2 e180, fun t => absurd t (by decide)⟩
      | false =>
        have hk : okp o st ups i b = true := okp_iff.mpr ⟨hp, es⟩
        have e1 : hpc o st ups i b = (pwL o ups i b).length - 1 := by unfold hpc; rw [hk]; rfl
        have e2 : wpc o st ups i b = 1 := by unfold wpc; rw [hk]; rfl
        have e3 : mpc o st ups i b = (pwL o ups i b).length := by unfold mpc; rw [hk]; rfl
        obtain ⟨v1, v2, v3, v4, v5, v6⟩ := hSv'
        refine ⟨fun t => absurd rfl t, fun _ τ3 q3 τ4 q4 τ5 q5 => ?_⟩
        rw [e180, v1, n_add] at q3
        have y2 : τ3 180 2 = nI (W + sumN (fun a => wpc o st ups a b) i) := by rw [q3, su_at, if_neg (by decide), e180]; exact v2
        rw [y2, n_add] at q4
        have y3 : τ4 180 3 = nI (max M (maxN (fun a => mpc o st ups a b) i)) - nI 1 := by rw [q4, su_at, if_neg (by decide), q3, su_at, if_neg (by decide), e180]; exact v3
        have y176 : τ4 176 = τ2 176 := by rw [q4, su_ne (by decide), q3, su_ne (by decide)]
        rw [y3, y176, hW.1, imax_m v6 (by omega)] at q5
        have n5 : ∀ b, b ≠ 180 → τ5 b = τ2 b := fun b hb => by rw [q5, su_ne hb, q4, su_ne hb, q3, su_ne hb]
        have hV5 : Vf σ τ5 := hV.tr (fun b x y z => by rw [n5 b z]; exact g1 b x y)
        have s1 : τ5 180 1 = nI (H + sumN (fun a => hpc o st ups a b) i + ((pwL o ups i b).length - 1)) := by rw [q5, su_at, if_neg (by decide), q4, su_at, if_neg (by decide), q3, su_at, if_pos rfl]
        have s2 : τ5 180 2 = nI (W + sumN (fun a => wpc o st ups a b) i + 1) := by rw [q5, su_at, if_neg (by decide), q4, su_at, if_pos rfl]
        have s3 : τ5 180 3 = nI (max (max M (maxN (fun a => mpc o st ups a b) i)) ((pwL o ups i b).length - 1 + 1)) - nI 1 := by rw [q5, su_at, if_pos rfl]
        have s4 : τ5 180 4 = nI G' := by rw [q5, su_at, if_neg (by decide), q4, su_at, if_neg (by decide), q3, su_at, if_neg (by decide), e180]; exact v4
        have fin : ∀ τ6 G6, Vf τ5 τ6 → (∀ j, j ≠ 4 → τ6 180 j = τ5 180 j) → G6 < 1024 → τ6 180 4 = nI G6 → (fh = true → ∀ n, n < 10 → (G6.testBit n = true ↔ G'.testBit n = true ∨ HBp o st ups i b n)) → ih τ6 (nI (i + 1)) := fun τ6 G6 hV6 hj6 hG6 h46 hset6 => by
          refine hih _ _ hil ⟨rfl, hV5.tr hV6, G6, ?_, fun hf n hn => ?_⟩
          · show SvOK τ6 (H + (sumN (fun a => hpc o st ups a b) i + hpc o st ups i b)) (W + (sumN (fun a => wpc o st ups a b) i + wpc o st ups i b)) (max M (max (maxN (fun a => mpc o st ups a b) i) (mpc o st ups i b))) G6
            rw [e1, e2, e3]
            refine ⟨?_, ?_, ?_, h46, hG6, ?_⟩
            · rw [hj6 1 (by decide), s1, Nat.add_assoc]
            · rw [hj6 2 (by decide), s2, Nat.add_assoc]
            · rw [hj6 3 (by decide), s3, Nat.max_assoc, show (pwL o ups i b).length - 1 + 1 = (pwL o ups i b).length by omega]
            · rw [← Nat.max_assoc]; exact Nat.max_le.mpr ⟨v6, by omega⟩
          · rw [hset6 hf n hn, hset hf n hn]
            constructor
            · rintro ((t | ⟨a, h1, h2⟩) | t)
              · exact Or.inl t
              · exact Or.inr ⟨a, by omega, h2⟩
              · exact Or.inr ⟨i, by omega, t⟩
            · rintro (t | ⟨a, h1, h2⟩)
              · exact Or.inl (Or.inl t)
              · rcases Nat.lt_or_ge a i with u | u
                · exact Or.inl (Or.inr ⟨a, u, h2⟩)
                · exact Or.inr (by rw [show i = a by omega]; exact h2)
        cases fh with
        | false => exact ⟨fun _ z hz => by rw [hz]; exact fin τ5 G' (fun _ _ _ _ => rfl) (fun _ _ => rfl) v5 s4 (fun t => by cases t), fun t => absurd rfl t⟩
        | true =>
          refine ⟨fun t => absurd t (by decide), fun _ => ?_⟩
          have hW5 : WayOK τ5 (pwL o ups i b) false := by
            rw [es] at hW
            unfold WayOK
            rw [n5 176 (by decide), n5 179 (by decide)]
            exact hW
          refine s_X5_addHinges (o := o) (st := st) (b := b) (G := G') hr hil hups (hlook.congr (hV5 177 (by decide) (by decide) (by decide)) (hV5 178 (by decide) (by decide) (by decide))) hk hW5 v5 s4 (fun τ6 G6 hV6 hj6 hG6 h46 hset6 z hz => ?_)
          rw [hz]
          exact fin τ6 G6 hV6 hj6 hG6 h46 (fun _ => hset6)
