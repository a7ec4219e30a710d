/-! ALL WAYS: both sides -/
def svH (o st : Nat → Nat) (ups : Nat) : Nat := sumN (fun b => sumN (fun a => hpc o st ups a b) 10) 10
def svW (o st : Nat → Nat) (ups : Nat) : Nat := sumN (fun b => sumN (fun a => wpc o st ups a b) 10) 10
def svM (o st : Nat → Nat) (ups : Nat) : Nat := maxN (fun b => maxN (fun a => mpc o st ups a b) 10) 10
def isHb (o st : Nat → Nat) (ups n : Nat) : Bool := (List.range 10).any (fun a => (List.range 10).any (fun b => decide (a ≠ n ∧ b ≠ n ∧ prs st a b = true ∧ pwS o ups a b = false ∧ pwS o (clr ups n) a b = true)))
theorem isHb_iff {o st : Nat → Nat} {ups n : Nat} : isHb o st ups n = true ↔ ∃ a b, a < 10 ∧ b < 10 ∧ a ≠ n ∧ b ≠ n ∧ prs st a b = true ∧ pwS o ups a b = false ∧ pwS o (clr ups n) a b = true := by
  unfold isHb
  simp only [List.any_eq_true, List.mem_range, decide_eq_true_eq]
  constructor
  · rintro ⟨a, ha, b, hb, h⟩; exact ⟨a, b, ha, hb, h⟩
  · rintro ⟨a, b, ha, hb, h⟩; exact ⟨a, ha, b, hb, h⟩
def svG (o st : Nat → Nat) (ups : Nat) : Nat := bm (fun n => decide (st n = 1) && isHb o st ups n) 10
theorem maxN_11 {g : Nat → Nat} (h : ∀ i, g i ≤ 11) (n : Nat) : maxN g n ≤ 11 := (maxN_le n).mpr (fun i _ => h i)
theorem prs_no {o st : Nat → Nat} {ups a b : Nat} (h : st b ≠ 1) : okp o st ups a b = false := by
  cases e : okp o st ups a b with
  | false => rfl
  | true => exact absurd (prs_iff.mp (okp_iff.mp e).1).2.2 h
theorem col0 {o st : Nat → Nat} {ups b : Nat} (h : st b ≠ 1) : sumN (fun a => hpc o st ups a b) 10 = 0 ∧ sumN (fun a => wpc o st ups a b) 10 = 0 ∧ maxN (fun a => mpc o st ups a b) 10 = 0 := by
  have e1 : (fun a => hpc o st ups a b) = fun _ => 0 := by funext a; unfold hpc; rw [prs_no h]; rfl
  have e2 : (fun a => wpc o st ups a b) = fun _ => 0 := by funext a; unfold wpc; rw [prs_no h]; rfl
  have e3 : (fun a => mpc o st ups a b) = fun _ => 0 := by funext a; unfold mpc; rw [prs_no h]; rfl
  rw [e1, e2, e3, sumN_zero]
  refine ⟨rfl, rfl, ?_⟩
  have := (maxN_le (g := fun _ => 0) (v := 0) 10).mpr (fun _ _ => Nat.le_refl _)
  omega
theorem s_X5_walkAll {σ : St} {s r ups : Nat} {o st : Nat → Nat} {fh : Bool} {Q : St → Prop} (hs : SpRep σ s o) (hb : OB o) (hc : chain o) (hP : ∀ z, z < 2048 → o z ≠ 0 → PT o) (hr : r < 3) (hsl : 180 < s) (hups : ups = bits st 1) (hown : ∀ p, p < 10 → st p = 1 → own1 o p)
    (hQ : ∀ τ G, (∀ b, b < 176 ∨ 180 < b → τ b = σ b) → SvOK τ (svH o st ups) (svW o st ups) (svM o st ups) G → (fh = true → G = svG o st ups) → Q τ) : wp_X5_walkAll σ s (nI r) (nI ups) (bI fh) Q := by
  have hu : ups < 1024 := by rw [hups]; exact bits_lt _ _
  unfold wp_X5_walkAll
  intro σ1 h1 σ2 h2 σ3 h3 σ4 h4
  have m4 : ∀ b, b ≠ 180 → σ4 b = σ b := fun b hb => by rw [h4, su_ne hb, h3, su_ne hb, h2, su_ne hb, h1, su_ne hb]
  have sv4 : SvOK σ4 0 0 0 0 := by
    refine ⟨?_, ?_, ?_, ?_, by decide, by decide⟩
    · rw [h4, su_at, if_neg (by decide), h3, su_at, if_neg (by decide), h2, su_at, if_neg (by decide), h1, su_at, if_pos rfl]
    · rw [h4, su_at, if_neg (by decide), h3, su_at, if_neg (by decide), h2, su_at, if_pos rfl]
    · rw [h4, su_at, if_neg (by decide), h3, su_at, if_pos rfl, n_s01]
    · rw [h4, su_at, if_pos rfl]
  have hs4 : SpRep σ4 s o := hs.congr (m4 _ (by omega)) (m4 _ (by omega)) (m4 _ (by omega))
  refine s_X7_lookBeside hs4 hb hP hr (Or.inr hsl) (fun τ0 a1 a2 a3 => ?_)
  refine LP2_nat 10 (fun i τ z => z = nI i ∧ (∀ b, b < 176 ∨ 180 < b → τ b = σ b) ∧ (∀ n, n < 10 → τ 177 (10 * r + n) = nI (nbn o n)) ∧ ∃ G, SvOK τ (sumN (fun b => sumN (fun a => hpc o st ups a b) 10) i) (sumN (fun b => sumN (fun a => wpc o st ups a b) 10) i) (maxN (fun b => maxN (fun a => mpc o st ups a b) 10) i) G ∧ (fh = true → ∀ n, n < 10 → (G.testBit n = true ↔ ∃ b a, b < i ∧ a < 10 ∧ HBp o st ups a b n))) ?_ 0 _ _ (Nat.zero_le _) ⟨rfl, fun b hb => by rw [a1 b (by omega), m4 b (by omega)], a2, 0, ?_, fun _ n _ => ?_⟩
  · rintro ih i τ _ hi ⟨rfl, hne, h177, G, hSv, hset⟩ hih
    unfold wp_X5_walkAll_32
    rw [n_le (by decide) (by omega)]
    refine ⟨fun q => ?_, fun q => ?_⟩
    · have ei : i = 10 := by omega
      subst ei
      refine hQ τ G hne hSv (fun hf => ?_)
      refine nat_ext10 hSv.2.2.2.2.1 (bm_1024 _) (fun n hn => ?_)
      rw [Bool.eq_iff_iff, hset hf n hn]
      unfold svG
      rw [tb_bm]
      simp only [hn, decide_true, Bool.true_and, Bool.and_eq_true, decide_eq_true_eq]
      rw [isHb_iff]
      have he := hinge_eq (n := n) hb hc hups hown
      constructor
      · rintro ⟨b, a, hb1, ha1, hB⟩
        obtain ⟨-, t2, t3⟩ := he.mp ⟨a, b, ha1, hb1, hB⟩
        exact ⟨t2, t3⟩
      · rintro ⟨t2, t3⟩
        obtain ⟨a, b, ha1, hb1, hB⟩ := he.mpr ⟨hn, t2, t3⟩
        exact ⟨b, a, hb1, ha1, hB⟩
    · have hil : i < 10 := by omega
      have hspt : SpRep τ s o := hs.congr (hne _ (by omega)) (hne _ (by omega)) (hne _ (by omega))
      rw [n_bit0 (by omega) (by omega), hups, tb_bits, ← hups]
      refine ⟨fun c => ?_, fun c => ?_⟩
      · have hst : st i ≠ 1 := fun t => by simp [hil, t] at c
        unfold wp_X5_walkAll_59
        refine ⟨fun _ z hz => ?_, fun t => absurd rfl t⟩
        rw [hz, n_add]
        obtain ⟨c1, c2, c3⟩ := col0 (o := o) (ups := ups) hst
        refine hih _ _ hil ⟨rfl, hne, h177, G, ?_, fun hf n hn => ?_⟩
        · show SvOK τ (sumN (fun b => sumN (fun a => hpc o st ups a b) 10) i + sumN (fun a => hpc o st ups a i) 10) (sumN (fun b => sumN (fun a => wpc o st ups a b) 10) i + sumN (fun a => wpc o st ups a i) 10) (max (maxN (fun b => maxN (fun a => mpc o st ups a b) 10) i) (maxN (fun a => mpc o st ups a i) 10)) G
          rw [c1, c2, c3, Nat.add_zero, Nat.add_zero, Nat.max_zero]; exact hSv
        · rw [hset hf n hn]
          constructor
          · rintro ⟨b, a, t1, t2⟩; exact ⟨b, a, by omega, t2⟩
          · rintro ⟨b, a, t1, t2, t3⟩
            rcases Nat.lt_or_ge b i with u | u
            · exact ⟨b, a, u, t2, t3⟩
            · rw [show b = i by omega] at t3
              exact absurd (prs_iff.mp t3.1).2.2 hst
      · have hst : st i = 1 := by
          by_cases t : st i = 1
          · exact t
          · exact absurd (by simp [t]) c
        have how := hown i hil hst
        obtain ⟨f1, f2⟩ := fzo_ok how
        obtain ⟨t1, t2⟩ := txo_lt hb how
        have z1 := PT.pos hb (show o (fzo o i) ≠ 0 by omega)
        have hcnt : 0 < cnt o i := by
          rcases Nat.eq_zero_or_pos (cnt o i) with u | u
          · exact absurd f2 (cnt_0.mp u _ f1)
          · exact u
        refine s_X4_zoneOfN (k := 0) hspt hb hil hcnt ?_
        unfold wp_X5_walkAll_59
        show ((nI (fzo o i) = -1 → _) ∧ (¬ nI (fzo o i) = -1 → _))
        refine ⟨fun t => absurd t (by rw [n_em (by omega)]; exact not_false), fun _ => ?_⟩
        refine s_X4_depthOf z1 f1 (s_X4_leastX z1 f1 (s_X4_leastY z1 f1 ?_))
        refine s_X7_lookFar (x := txo o i) (y := tyo o i) hspt hb hr t1 t2 (Or.inr hsl) (fun τ2 b1 b2 b3 => ?_)
        rw [n_one (by omega)]
        have hlook := look1 (τ := τ2) (o := o) (x := txo o i) (y := tyo o i) (r := r) (fun n hn => by rw [b1 177 (by decide)]; exact h177 n hn) b2
        have hSv2 : SvOK τ2 (sumN (fun b => sumN (fun a => hpc o st ups a b) 10) i) (sumN (fun b => sumN (fun a => wpc o st ups a b) 10) i) (maxN (fun b => maxN (fun a => mpc o st ups a b) 10) i) G := by
          unfold SvOK
          rw [b1 180 (by decide)]
          exact hSv
        refine s_X5_walkTo (fh := fh) hr hil hups hst hlook hSv2 (fun τ3 G3 hV3 hSv3 hset3 z hz => ?_)
        rw [hz, n_add]
        refine hih _ _ hil ⟨rfl, fun b hb => by rw [hV3 b (by omega) (by omega) (by omega), b1 b (by omega)]; exact hne b hb, fun n hn => by rw [hV3 177 (by decide) (by decide) (by decide), b1 177 (by decide)]; exact h177 n hn, G3, hSv3, fun hf n hn => ?_⟩
        rw [hset3 hf n hn, hset hf n hn]
        constructor
        · rintro (⟨b, a, u1, u2⟩ | ⟨a, u1, u2⟩)
          · exact ⟨b, a, by omega, u2⟩
          · exact ⟨i, a, by omega, u1, u2⟩
        · rintro ⟨b, a, u1, u2, u3⟩
          rcases Nat.lt_or_ge b i with v | v
          · exact Or.inl ⟨b, a, v, u2, u3⟩
          · exact Or.inr ⟨a, u2, by rw [show i = b by omega]; exact u3⟩
  · show SvOK τ0 0 0 0 0
    unfold SvOK
    rw [a1 180 (by decide)]
    exact sv4
  · rw [Nat.zero_testBit]
    exact ⟨fun t => absurd t (by decide), fun ⟨b, a, u, _⟩ => by omega⟩
/-! the reference -/
theorem zl_first {o : Nat → Nat} {b : Nat} (h : own1 o b) : ∃ i, i < (zl o 2048).length ∧ (zl o 2048).getD i 0 = fzo o b ∧ ∀ j, j < i → o ((zl o 2048).getD j 0) ≠ b + 1 := by
  obtain ⟨f1, f2⟩ := fzo_ok h
  obtain ⟨i, hi, ei⟩ := zl_idx (o := o) (n := 2048) f1 (by omega)
  refine ⟨i, hi, ei, fun j hj e => ?_⟩
  have hjl : j < (zl o 2048).length := by omega
  have hrise := zl_rise o 2048 j i hj hi
  rw [ei] at hrise
  have hm : (zl o 2048).getD j 0 ∈ zlp o b 2048 := zlp_mem.mpr ⟨(zl_get hjl).1, e⟩
  obtain ⟨k, hk, ek⟩ := List.mem_iff_getElem.mp hm
  have ek2 : (zlp o b 2048).getD k 0 = (zl o 2048).getD j 0 := by rw [List.getD_eq_getElem?_getD, List.getElem?_eq_getElem hk]; exact ek
  rcases Nat.eq_zero_or_pos k with q | q
  · rw [q] at ek2
    have : fzo o b = (zl o 2048).getD j 0 := ek2
    omega
  · have := zlp_rise o b 2048 0 k q hk
    rw [ek2] at this
    have e3 : (zlp o b 2048).getD 0 0 = fzo o b := rfl
    omega
theorem s_X9_goesTo {σ : St} {o : Nat → Nat} {a b ups : Nat} {Q : St → Prop} (hf : RowOK (σ 245)) (hups : bits (gst (σ 245)) 1 = ups) (hb : OB o) (hl : LR σ o) (ha : a < 10) (hbb : b < 10) (hoa : own1 o a) (hob : own1 o b)
    (hQ : ∀ τ, Wf σ τ → WayR τ (pwL o ups a b) (pwS o ups a b) → Q τ) : wp_X9_goesTo σ (nI a) (nI b) Q := by
  have hll := zl_len o hb.2 2048
  obtain ⟨i, hi, ei, hno⟩ := zl_first hob
  obtain ⟨t1, t2⟩ := txo_lt hb hob
  refine LP1_nat i (fun j x => x = nI j) ?_ 0 _ (Nat.zero_le _) rfl
  rintro ih j _ hj rfl hih
  unfold wp_X9_goesTo_2
  have hjl : j < (zl o 2048).length := by omega
  obtain ⟨z1, z2, z3, z4⟩ := za_ok hb hjl
  obtain ⟨-, w2, w3, w4, -, -⟩ := hl.2 j hjl
  rw [n_cl (by omega), w2, n_eq (by omega) (by omega)]
  refine ⟨n_in (by omega) (by decide), fun c => ?_, fun c => ?_⟩
  · have ej : j = i := by
      rcases Nat.lt_or_ge j i with t | t
      · exact absurd (by omega) (hno j t)
      · omega
    subst ej
    unfold wp_X9_goesTo_18
    rw [n_cl (by omega), w3, w4, ei]
    exact ⟨n_in (by omega) (by decide), n_in (by omega) (by decide), s_X9_goes (x := txo o b) (y := tyo o b) hf hups hb hl ha t1 t2 hoa hQ⟩
  · rw [n_add]
    intro z hz
    rw [hz]
    refine hih _ ?_ rfl
    rcases Nat.lt_or_ge j i with t | t
    · exact t
    · have ej : j = i := by omega
      rw [ej, ei, (fzo_ok hob).2] at c
      omega
theorem s_X9_arePair {σ : St} {a b : Nat} {Q : Int32 → Prop} (hf : RowOK (σ 245)) (ha : a < 10) (hb : b < 10) (h1 : prs (gst (σ 245)) a b = true → Q (nI 1)) (h0 : ¬ prs (gst (σ 245)) a b = true → Q (nI 0)) : wp_X9_arePair σ (nI a) (nI b) Q := by
  rw [prs_iff] at h1 h0
  unfold wp_X9_arePair
  rw [n_eq (by omega) (by omega)]
  refine ⟨fun c => h0 (fun t => t.1 c), fun c => s_X9_isState hf ha (by decide) (fun d => ⟨fun t => absurd t (by decide), fun _ => s_X9_isState hf hb (by decide) (fun e => ⟨fun t => absurd t (by decide), fun _ => h1 ⟨c, d, e⟩⟩) (fun e => ⟨fun _ => h0 (fun t => e t.2.2), fun t => absurd rfl t⟩)⟩) (fun d => ⟨fun _ => h0 (fun t => d t.2.1), fun t => absurd rfl t⟩)⟩
/-- what all ways scribble on -/
def Uf (σ τ : St) : Prop := (∀ b, b ≠ 244 → b ≠ 257 → τ b = σ b) ∧ ∀ j, j < 26 → τ 244 j = σ 244 j
theorem Uf.rf (σ : St) : Uf σ σ := ⟨fun _ _ _ => rfl, fun _ _ => rfl⟩
theorem Uf.tr {σ τ ρ : St} (h1 : Uf σ τ) (h2 : Uf τ ρ) : Uf σ ρ := ⟨fun b x y => (h2.1 b x y).trans (h1.1 b x y), fun j x => (h2.2 j x).trans (h1.2 j x)⟩
theorem Uf.sc {σ τ : St} (h : Uf σ τ) : Sc σ τ := ⟨fun b hb => h.1 b (by omega) (by omega), fun j hj => h.2 j (by omega)⟩
theorem Wf.uf {σ τ : St} (h : Wf σ τ) : Uf σ τ := ⟨h.1, fun j hj => h.2 j (by omega) (by omega)⟩
theorem Uf.lr {σ τ : St} {o : Nat → Nat} (h : Uf σ τ) (hl : LR σ o) : LR τ o := by
  refine ⟨by rw [h.2 23 (by decide)]; exact hl.1, fun i hi => ?_⟩
  rw [h.1 250 (by decide) (by decide), h.1 251 (by decide) (by decide), h.1 252 (by decide) (by decide), h.1 253 (by decide) (by decide), h.1 254 (by decide) (by decide), h.1 255 (by decide) (by decide)]
  exact hl.2 i hi
theorem s_X9_allWays {σ : St} {o st : Nat → Nat} {ups : Nat} {Q : St → Prop} (hf : RowOK (σ 245)) (hst : gst (σ 245) = st) (hups : ups = bits st 1) (hb : OB o) (hl : LR σ o) (hown : ∀ p, p < 10 → st p = 1 → own1 o p)
    (hQ : ∀ τ, Uf σ τ → τ 244 30 = nI (svM o st ups) - nI 1 → τ 244 31 = nI (svH o st ups) → τ 244 32 = nI (svW o st ups) → Q τ) : wp_X9_allWays σ Q := by
  have eH : svH o st ups = sumN (fun a => sumN (fun b => hpc o st ups a b) 10) 10 := sumN_swap (fun b a => hpc o st ups a b) 10 10
  have eW : svW o st ups = sumN (fun a => sumN (fun b => wpc o st ups a b) 10) 10 := sumN_swap (fun b a => wpc o st ups a b) 10 10
  have eM : svM o st ups = maxN (fun a => maxN (fun b => mpc o st ups a b) 10) 10 := maxN_swap (fun b a => mpc o st ups a b) 10 10
  rw [eH, eW, eM] at hQ
  unfold wp_X9_allWays
  intro σ1 h1 σ2 h2 σ3 h3
  have u3 : Uf σ σ3 := ⟨fun b b1 b2 => by rw [h3, su_ne b1, h2, su_ne b1, h1, su_ne b1], fun j hj => by rw [h3, su_at, if_neg (by omega), h2, su_at, if_neg (by omega), h1, su_at, if_neg (by omega)]⟩
  refine LP2_nat 10 (fun i τ z => z = nI i ∧ Uf σ τ ∧ τ 244 30 = nI (maxN (fun a => maxN (fun b => mpc o st ups a b) 10) i) - nI 1 ∧ τ 244 31 = nI (sumN (fun a => sumN (fun b => hpc o st ups a b) 10) i) ∧ τ 244 32 = nI (sumN (fun a => sumN (fun b => wpc o st ups a b) 10) i)) ?_ 0 _ _ (Nat.zero_le _) ⟨rfl, u3, by rw [h3, su_at, if_neg (by decide), h2, su_at, if_neg (by decide), h1, su_at, if_pos rfl]; exact n_s01.symm, by rw [h3, su_at, if_neg (by decide), h2, su_at, if_pos rfl]; rfl, by rw [h3, su_at, if_pos rfl]; rfl⟩
  rintro ih i τ _ hi ⟨rfl, hU, g30, g31, g32⟩ hih
  unfold wp_X9_allWays_17
  rw [n_le (by decide) (by omega)]
  refine ⟨fun q => by
    have ei : i = 10 := by omega
    subst ei
    exact hQ τ hU g30 g31 g32, fun q => ?_⟩
  have hil : i < 10 := by omega
  refine LP2_nat 10 (fun j τ z => z = nI j ∧ Uf σ τ ∧ τ 244 30 = nI (max (maxN (fun a => maxN (fun b => mpc o st ups a b) 10) i) (maxN (fun b => mpc o st ups i b) j)) - nI 1 ∧ τ 244 31 = nI (sumN (fun a => sumN (fun b => hpc o st ups a b) 10) i + sumN (fun b => hpc o st ups i b) j) ∧ τ 244 32 = nI (sumN (fun a => sumN (fun b => wpc o st ups a b) 10) i + sumN (fun b => wpc o st ups i b) j)) ?_ 0 _ _ (Nat.zero_le _) ⟨rfl, hU, by rw [g30]; show _ = nI (max _ 0) - nI 1; rw [Nat.max_zero], g31, g32⟩
  rintro ih2 j τ2 _ hj ⟨rfl, hU2, k30, k31, k32⟩ hih2
  have t245 : τ2 245 = σ 245 := hU2.1 245 (by decide) (by decide)
  unfold wp_X9_allWays_25
  rw [n_le (by decide) (by omega)]
  refine ⟨fun q2 z hz => ?_, fun q2 => ?_⟩
  · have ej : j = 10 := by omega
    subst ej
    rw [hz, n_add]
    exact hih _ _ hil ⟨rfl, hU2, k30, k31, k32⟩
  · have hjl : j < 10 := by omega
    have skip : okp o st ups i j = false → ∀ τ', Uf τ2 τ' → τ' 244 30 = τ2 244 30 → τ' 244 31 = τ2 244 31 → τ' 244 32 = τ2 244 32 → ih2 τ' (nI (j + 1)) := fun hk τ' hU' e30 e31 e32 => by
      have e1 : hpc o st ups i j = 0 := by unfold hpc; rw [hk]; rfl
      have e2 : wpc o st ups i j = 0 := by unfold wpc; rw [hk]; rfl
      have e3 : mpc o st ups i j = 0 := by unfold mpc; rw [hk]; rfl
      refine hih2 _ _ hjl ⟨rfl, hU2.tr hU', ?_, ?_, ?_⟩
      · rw [e30, k30]
        show _ = nI (max _ (max (maxN (fun b => mpc o st ups i b) j) (mpc o st ups i j))) - nI 1
        rw [e3, Nat.max_zero]
      · rw [e31, k31]
        show _ = nI (_ + (sumN (fun b => hpc o st ups i b) j + hpc o st ups i j))
        rw [e1, Nat.add_zero]
      · rw [e32, k32]
        show _ = nI (_ + (sumN (fun b => wpc o st ups i b) j + wpc o st ups i j))
        rw [e2, Nat.add_zero]
    refine s_X9_arePair (by rw [t245]; exact hf) hil hjl (fun hp => ⟨fun _ => ?_, fun t => absurd t (by decide)⟩) (fun hp => ⟨fun t => absurd rfl t, fun _ z hz => ?_⟩)
    · rw [t245, hst] at hp
      obtain ⟨p1, p2, p3⟩ := prs_iff.mp hp
      refine s_X9_goesTo (ups := ups) (by rw [t245]; exact hf) (by rw [t245, hst, hups]) hb (hU2.lr hl) hil hjl (hown i hil p2) (hown j hjl p3) (fun τ3 hW hY => ?_)
      have hlen := pwL_len o ups i j
      have w30 : τ3 244 30 = τ2 244 30 := hW.2 30 (by decide) (by decide)
      have w31 : τ3 244 31 = τ2 244 31 := hW.2 31 (by decide) (by decide)
      have w32 : τ3 244 32 = τ2 244 32 := hW.2 32 (by decide) (by decide)
      obtain ⟨y1, y2, y3⟩ := hY
      rw [y1, y2]
      cases es : pwS o ups i j with
      | true =>
        refine ⟨fun t => absurd t (by decide), fun _ z hz => ?_⟩
        rw [hz, n_add]
        exact skip (by unfold okp; rw [es]; simp) τ3 hW.uf w30 w31 w32
      | false =>
        have hk : okp o st ups i j = true := okp_iff.mpr ⟨hp, es⟩
        have e1 : hpc o st ups i j = (pwL o ups i j).length - 1 := by unfold hpc; rw [hk]; rfl
        have e2 : wpc o st ups i j = 1 := by unfold wpc; rw [hk]; rfl
        have e3 : mpc o st ups i j = (pwL o ups i j).length := by unfold mpc; rw [hk]; rfl
        have hM : max (maxN (fun a => maxN (fun b => mpc o st ups a b) 10) i) (maxN (fun b => mpc o st ups i b) j) ≤ 11 := Nat.max_le.mpr ⟨maxN_11 (fun a => maxN_11 (fun b => mpc_le o st ups a b) 10) i, maxN_11 (fun b => mpc_le o st ups i b) j⟩
        have h82 : ∀ τ4, Uf τ2 τ4 → τ4 244 30 = nI (max (max (maxN (fun a => maxN (fun b => mpc o st ups a b) 10) i) (maxN (fun b => mpc o st ups i b) j)) (pwL o ups i j).length) - nI 1 → τ4 244 31 = τ2 244 31 → τ4 244 32 = τ2 244 32 → τ4 244 26 = nI (pwL o ups i j).length → wp_X9_allWays_82 τ4 (nI i) (nI j) ih ih2 Q := fun τ4 hU4 f30 f31 f32 f26 => by
          unfold wp_X9_allWays_82
          rw [f26, f31, k31, n_sub hlen.1, n_add]
          intro τ5 q5 τ6 q6 z hz
          have r32 : τ5 244 32 = nI (sumN (fun a => sumN (fun b => wpc o st ups a b) 10) i + sumN (fun b => wpc o st ups i b) j) := by rw [q5, su_at, if_neg (by decide), f32]; exact k32
          rw [r32, n_add] at q6
          rw [hz, n_add]
          refine hih2 _ _ hjl ⟨rfl, hU2.tr (hU4.tr ⟨fun b b1 b2 => by rw [q6, su_ne b1, q5, su_ne b1], fun j hj => by rw [q6, su_at, if_neg (by omega), q5, su_at, if_neg (by omega)]⟩), ?_, ?_, ?_⟩
          · rw [q6, su_at, if_neg (by decide), q5, su_at, if_neg (by decide), f30]
            show _ = nI (max _ (max (maxN (fun b => mpc o st ups i b) j) (mpc o st ups i j))) - nI 1
            rw [e3, Nat.max_assoc]
          · rw [q6, su_at, if_neg (by decide), q5, su_at, if_pos rfl]
            show _ = nI (_ + (sumN (fun b => hpc o st ups i b) j + hpc o st ups i j))
            rw [e1, Nat.add_assoc]
          · rw [q6, su_at, if_pos rfl]
            show _ = nI (_ + (sumN (fun b => wpc o st ups i b) j + wpc o st ups i j))
            rw [e2, Nat.add_assoc]
        refine ⟨fun _ => ?_, fun t => absurd rfl t⟩
        rw [w30, k30, n_sub hlen.1]
        generalize hMM : max (maxN (fun a => maxN (fun b => mpc o st ups a b) 10) i) (maxN (fun b => mpc o st ups i b) j) = M at *
        have cmp : ∀ M, M < 12 → ∀ h, h < 12 → 1 ≤ h → (nI (h - 1) ≤ nI M - nI 1 ↔ h ≤ M) := by decide +kernel
        rw [cmp M (by omega) (pwL o ups i j).length (by omega) hlen.1]
        refine ⟨fun d => h82 τ3 hW.uf ?_ w31 w32 y1, fun d τ4 q4 => h82 τ4 (hW.uf.tr ⟨fun b b1 b2 => by rw [q4, su_ne b1], fun j hj => by rw [q4, su_at, if_neg (by omega)]⟩) ?_ ?_ ?_ ?_⟩
        · rw [w30, k30, Nat.max_eq_left d]
        · rw [q4, su_at, if_pos rfl, Nat.max_eq_right (by omega), n_sub hlen.1]
        · rw [q4, su_at, if_neg (by decide)]; exact w31
        · rw [q4, su_at, if_neg (by decide)]; exact w32
        · rw [q4, su_at, if_neg (by decide)]; exact y1
    · rw [t245, hst] at hp
      rw [hz, n_add]
      refine skip ?_ τ2 (Uf.rf τ2) rfl rfl rfl
      cases e : okp o st ups i j with
      | false => rfl
      | true => exact absurd (okp_iff.mp e).1 hp
