/-! A ZONE IS PARTED -/
def spz (o : Nat → Nat) (h n : Nat) : Nat → Nat := setO (setO (setO o (h / 2) 0) h (n + 1)) (h ^^^ 1) (o (h / 2))
theorem spz_v {o : Nat → Nat} {h n : Nat} (hl : h < 2048) (h1 : 1 < h) (y : Nat) : spz o h n y = if y = h ^^^ 1 then o (h / 2) else if y = h then n + 1 else if y = h / 2 then 0 else o y := by
  unfold spz setO
  rfl
theorem PT.sp {o : Nat → Nat} (hP : PT o) {h n : Nat} (hl : h < 2048) (h1 : 1 < h) (hn : n < 10) (ho : o (h / 2) ≠ 0) : PT (spz o h n) := by
  obtain ⟨a1, a2, a3, a4, a5, a6, a7⟩ := xor1_f hl h1
  have ev := spz_v (o := o) (n := n) hl h1
  have hz := hP.1.1 (h / 2) (by omega)
  refine ⟨⟨fun y hy => ?_, ?_⟩, fun c c1 c2 => ?_, fun y j hy hj hne => ?_⟩
  · rw [ev]
    have := hP.1.1 y hy
    split
    · exact hz
    · split
      · omega
      · split <;> omega
  · rw [ev, if_neg (by omega), if_neg (by omega), if_neg (by omega)]
    exact hP.1.2
  · obtain ⟨d, hd, hne⟩ := hP.2.1 c c1 c2
    by_cases e : c / 2 ^ d = h / 2
    · have hd1 : d ≠ 0 := fun q => by rw [q, Nat.pow_zero, Nat.div_one] at e; omega
      obtain ⟨i, rfl⟩ : ∃ i, d = i + 1 := ⟨d - 1, by omega⟩
      refine ⟨i, by omega, ?_⟩
      rw [Nat.pow_succ, ← Nat.div_div_eq_div_mul] at e
      rw [ev]
      rcases half_or hl h1 e with q | q
      · rw [if_neg (by omega), if_pos q]; omega
      · rw [if_pos q]; exact ho
    · refine ⟨d, hd, ?_⟩
      rw [ev]
      split
      · exact ho
      · split
        · omega
        · first | exact hne | (rw [if_neg e]; exact hne)
  · rw [ev] at hne
    have htop : ∀ j, 1 ≤ j → spz o h n (h / 2 ^ j) = 0 := by
      intro j hj
      obtain ⟨i, rfl⟩ : ∃ i, j = i + 1 := ⟨j - 1, by omega⟩
      have e : h / 2 ^ (i + 1) = h / 2 / 2 ^ i := by rw [Nat.div_div_eq_div_mul, Nat.pow_succ, Nat.mul_comm]
      have hle : h / 2 / 2 ^ i ≤ h / 2 := Nat.div_le_self _ _
      rw [e, ev, if_neg (by omega), if_neg (by omega)]
      split
      · rfl
      · rename_i q
        refine hP.2.2 (h / 2) i (by omega) ?_ ho
        rcases Nat.eq_zero_or_pos i with q2 | q2
        · rw [q2, Nat.pow_zero, Nat.div_one] at q; exact absurd rfl q
        · exact q2
    by_cases q1 : y = h ^^^ 1
    · have e : y / 2 ^ j = h / 2 ^ j := by
        obtain ⟨i, rfl⟩ : ∃ i, j = i + 1 := ⟨j - 1, by omega⟩
        rw [q1, Nat.pow_succ, Nat.mul_comm, ← Nat.div_div_eq_div_mul, ← Nat.div_div_eq_div_mul, a2]
      rw [e]; exact htop j hj
    · rw [if_neg q1] at hne
      by_cases q2 : y = h
      · rw [q2]; exact htop j hj
      · rw [if_neg q2] at hne
        by_cases q3 : y = h / 2
        · rw [if_pos q3] at hne; exact absurd rfl hne
        · rw [if_neg q3] at hne
          have hc := hP.2.2 y j hy hj hne
          have hno : (y / 2 ^ j) / 2 ≠ h / 2 := by
            intro q
            rw [Nat.div_div_eq_div_mul, ← Nat.pow_succ] at q
            have := hP.2.2 y (j + 1) hy (by omega) hne
            rw [q] at this
            exact ho this
          rw [ev, if_neg (fun q => hno (by rw [q]; exact a2)), if_neg (fun q => hno (by rw [q]))]
          split
          · rfl
          · exact hc
theorem spz_cell {o : Nat → Nat} {h n : Nat} (hP : PT o) (hl : h < 2048) (h1 : 1 < h) (ho : o (h / 2) ≠ 0) : o h = 0 ∧ o (h ^^^ 1) = 0 := by
  obtain ⟨a1, a2, a3, a4, a5, a6, a7⟩ := xor1_f hl h1
  constructor
  · refine Classical.byContradiction fun q => ?_
    have := hP.2.2 h 1 hl (by decide) q
    rw [Nat.pow_one] at this
    exact ho this
  · refine Classical.byContradiction fun q => ?_
    have := hP.2.2 (h ^^^ 1) 1 a4 (by decide) q
    rw [Nat.pow_one, a2] at this
    exact ho this
theorem spz_vol {o : Nat → Nat} {h n : Nat} (hP : PT o) (hl : h < 2048) (h1 : 1 < h) (ho : o (h / 2) = n + 1) (m : Nat) : vol (spz o h n) m = vol o m ∧ cnt (spz o h n) m = cnt o m + (if m = n then 1 else 0) := by
  obtain ⟨a1, a2, a3, a4, a5, a6, a7⟩ := xor1_f hl h1
  obtain ⟨b1, b2⟩ := spz_cell (n := n) hP hl h1 (by omega)
  have hs := zsz_half hl h1
  have v1 := vol_set o (z := h / 2) (by omega) 0 m
  have v2 := vol_set (setO o (h / 2) 0) hl (n + 1) m
  have v3 := vol_set (setO (setO o (h / 2) 0) h (n + 1)) a4 (o (h / 2)) m
  have c1 := cnt_set o (z := h / 2) (by omega) 0 m
  have c2 := cnt_set (setO o (h / 2) 0) hl (n + 1) m
  have c3 := cnt_set (setO (setO o (h / 2) 0) h (n + 1)) a4 (o (h / 2)) m
  rw [setO_ne (by omega)] at v2 c2
  rw [setO_ne a1, setO_ne (by omega)] at v3 c3
  unfold spz
  rw [ho] at *
  by_cases e : m = n
  · subst e
    simp only [if_true, b1, b2] at *
    simp at *
    omega
  · have e1 : ¬ n + 1 = m + 1 := by omega
    have e2 : ¬ 0 = m + 1 := by omega
    simp only [b1, b2, if_neg e, if_neg e1, if_neg e2] at *
    omega
theorem mrg_stop {n z : Nat} {o : Nat → Nat} (h : ¬ (1 < z ∧ o (z ^^^ 1) = n + 1)) : ∀ d, mrg n d o z = o
  | 0 => rfl
  | d + 1 => by unfold mrg; rw [if_neg h]
/-- where the cell's half begins -/
def hlf (o : Nat → Nat) (c : Nat) : Nat := c / 2 ^ (9 - zd (zat o c))
def spl (o : Nat → Nat) (c n : Nat) : Nat → Nat := spz o (hlf o c) n
theorem hlf_ok {o : Nat → Nat} {X Y : Nat} (hX : X < 32) (hY : Y < 32) (hcv : covers1 o) (hz : zat o (cn X Y) < 1024) : ∃ i, i < 10 ∧ zat o (cn X Y) = cn X Y / 2 ^ (10 - i) ∧ hlf o (cn X Y) = cn X Y / 2 ^ (10 - (i + 1)) ∧ 1 < hlf o (cn X Y) ∧ hlf o (cn X Y) < 2048 ∧ hlf o (cn X Y) / 2 = zat o (cn X Y) ∧ o (zat o (cn X Y)) ≠ 0 ∧ 1 ≤ zat o (cn X Y) := by
  obtain ⟨hc1, hc2⟩ := cn_lt hX hY
  obtain ⟨j, hj, e, hne⟩ := zat_some hcv hc1 hc2
  have hj0 : j ≠ 0 := fun q => by rw [q, Nat.pow_zero, Nat.div_one] at e; omega
  obtain ⟨-, hzd, hp, hlt⟩ := cn_in X Y (10 - j) hX hY (by omega)
  obtain ⟨-, hzd', hp', hlt'⟩ := cn_in X Y (11 - j) hX hY (by omega)
  rw [show 10 - (10 - j) = j by omega] at hzd hp hlt
  rw [show 10 - (11 - j) = j - 1 by omega] at hzd' hp' hlt'
  have eh : hlf o (cn X Y) = cn X Y / 2 ^ (j - 1) := by
    unfold hlf
    rw [e, hzd, show 9 - (10 - j) = j - 1 by omega]
  have e2 : cn X Y / 2 ^ (j - 1) / 2 = cn X Y / 2 ^ j := by
    rw [Nat.div_div_eq_div_mul, ← Nat.pow_succ, show (j - 1).succ = j by omega]
  refine ⟨10 - j, by omega, by rw [e, show 10 - (10 - j) = j by omega], by rw [eh, show 10 - (10 - j + 1) = j - 1 by omega], ?_, by rw [eh]; exact hlt', by rw [eh, e2, e], by rw [e]; exact hne, by rw [e]; exact hp⟩
  rw [eh]
  omega
theorem s_X4_split {σ : St} {s X Y n : Nat} {x y : Int32} {o : Nat → Nat} {Q : St → Prop} (hs : SpRep σ s o) (hP : PT o) (hx : x &&& nI 31 = nI X) (hX : X < 32) (hy : y &&& nI 31 = nI Y) (hY : Y < 32) (hn : n < 10) (hz : zat o (cn X Y) < 1024) (hnn : ∀ z, o z ≠ n + 1)
    (hQ : ∀ τ, Spf s σ τ → SpRep τ s (spl o (cn X Y) n) → Q τ) : wp_X4_split σ s x y (nI n) Q := by
  obtain ⟨i, hi, ez, eh, q1, q2, q3, q4, q5⟩ := hlf_ok hX hY hP.2.1 hz
  have hQ' := hQ
  unfold spl at hQ'
  generalize eh2 : hlf o (cn X Y) = h at *
  generalize ez2 : zat o (cn X Y) = z at *
  have hob := hP.1.1 z (by omega)
  obtain ⟨p, hp⟩ : ∃ p, o z = p + 1 := ⟨o z - 1, by omega⟩
  have hpl : p < 10 := by omega
  have hP1 := hP.sp q2 q1 hpl (by rw [q3]; exact q4)
  have hP2 := hP.sp q2 q1 hn (by rw [q3]; exact q4)
  have hvol := spz_vol hP q2 q1 (by rw [q3]; exact hp)
  have hpn : p ≠ n := fun q => hnn z (by rw [hp, q])
  obtain ⟨b1, b2⟩ := spz_cell (n := n) hP q2 q1 (by rw [q3]; exact q4)
  obtain ⟨a1, a2, a3, a4, a5, a6, a7⟩ := xor1_f q2 q1
  have hcnt := cnt_31 o p
  unfold wp_X4_split
  refine s_X4_zoneAt hs.1 hP.1 hx hX hy hY ?_
  rw [ez2]
  have eo : σ (s + 1) z = nI (p + 1) := by rw [hs.1 z (by omega), hp]
  have ec : σ (s + 3) p = nI (cnt o p) := hs.2.2 p hpl
  have e1 : nI (p + 1) - nI 1 = nI p := by rw [n_sub (by omega)]; rfl
  refine ⟨fun _ => ⟨fun hh => ?_, fun _ => ?_⟩, fun hh => ?_⟩
  · rw [n_le (by omega) (by omega)] at hh; omega
  · simp (disch := omega) only [eo, e1, ec, forall_eq, forall_eq', n_inT, n_cl, n_lt, n_le, n_eq, n_eq0, n_lt0, n_ge0, n_gt0, n_le0, n_em, n_me, n_add, n_mul, n_00, n_s01, n_1z, n_0z, Nat.one_ne_zero, eq_self, ne_eq, true_and, and_true, true_implies, false_implies, implies_true, not_true_eq_false, not_false_eq_true, false_and, and_false, or_false, false_or, or_true, true_or]
    have st1 : su σ (s + 3) p (nI (cnt o p + 1)) (s + 1) = σ (s + 1) := su_ne (by omega)
    simp only [st1, eo]
    have row : su (su (su (su σ (s + 3) p (nI (cnt o p + 1))) (s + 1) (2 * z) (nI (p + 1))) (s + 1) (2 * z + 1) (su (su σ (s + 3) p (nI (cnt o p + 1))) (s + 1) (2 * z) (nI (p + 1)) (s + 1) z)) (s + 1) z (nI 0) (s + 1) = fun j => if j = z then nI 0 else if j = 2 * z + 1 then nI (p + 1) else if j = 2 * z then nI (p + 1) else σ (s + 1) j := by
      funext j
      rw [su_at, su_at, su_at, su_at, if_neg (show z ≠ 2 * z by omega), st1, eo]
    generalize hτ : su (su (su (su σ (s + 3) p (nI (cnt o p + 1))) (s + 1) (2 * z) (nI (p + 1))) (s + 1) (2 * z + 1) (su (su σ (s + 3) p (nI (cnt o p + 1))) (s + 1) (2 * z) (nI (p + 1)) (s + 1) z)) (s + 1) z (nI 0) = τ at *
    have hS : Spf s σ τ := by
      rw [← hτ]
      exact (((Spf.rf s σ).su (Or.inr (Or.inr rfl))).su (Or.inl rfl)).su (Or.inl rfl) |>.su (Or.inl rfl)
    have hR : SpRep τ s (spz o h p) := by
      refine ⟨fun j hj => ?_, fun m hm => ?_, fun m hm => ?_⟩
      · rw [row, spz_v q2 q1, q3, hp]
        have hxx := xor1 h q2
        show (if j = z then nI 0 else if j = 2 * z + 1 then nI (p + 1) else if j = 2 * z then nI (p + 1) else σ (s + 1) j) = _
        by_cases c1 : j = z
        · rw [if_pos c1, if_neg (by omega), if_neg (by omega), if_pos c1]
        · rw [if_neg c1]
          by_cases c2 : j = 2 * z + 1 ∨ j = 2 * z
          · have : j = h ^^^ 1 ∨ j = h := by
              rcases half_or (y := j) q2 q1 (by omega) with q | q
              · exact Or.inr q
              · exact Or.inl q
            rcases c2 with c2 | c2
            · rw [if_pos c2]
              rcases this with q | q
              · rw [if_pos q]
              · rw [if_neg (by omega), if_pos q]
            · rw [if_neg (by omega), if_pos c2]
              rcases this with q | q
              · rw [if_pos q]
              · rw [if_neg (by omega), if_pos q]
          · rw [if_neg (fun q => c2 (Or.inl q)), if_neg (fun q => c2 (Or.inr q)), if_neg (by omega), if_neg (by omega), if_neg c1]
            exact hs.1 j hj
      · rw [(hvol m).1, ← hτ, su_ne (by omega), su_ne (by omega), su_ne (by omega), su_ne (by omega)]
        exact hs.2.1 m hm
      · rw [(hvol m).2, ← hτ, su_ne (by omega), su_ne (by omega), su_ne (by omega), su_at]
        by_cases e : m = p
        · rw [if_pos e, if_pos e, e]
        · rw [if_neg e, if_neg e, Nat.add_zero (cnt o m)]; exact hs.2.2 m hm
    refine s_X4_zoneAt hR.1 hP1.1 hx hX hy hY ?_
    obtain ⟨hc1, hc2⟩ := cn_lt hX hY
    have ezz : zat (spz o h p) (cn X Y) = h := by
      have := zat_eq (i := 10 - (i + 1)) hP1.2.2 hc1 hc2 (by omega) (by rw [← eh, spz_v q2 q1, if_neg (by omega), if_pos rfl]; omega)
      rw [this, ← eh]
    rw [ezz]
    have e3 : setO (spz o h p) h (n + 1) = spz o h n := by
      funext y
      rw [spz_v q2 q1]
      unfold setO
      rw [spz_v q2 q1]
      by_cases c : y = h
      · rw [if_pos c, if_neg (by omega), if_pos c]
      · rw [if_neg c, if_neg c, if_neg c]
    have e4 : giv (spz o h p) h n = spz o h n := by
      unfold giv
      rw [e3, mrg_stop]
      rintro ⟨-, q⟩
      rw [spz_v q2 q1, if_pos rfl, q3, hp] at q
      omega
    refine s_X4_give hR hP1.1 q2 (by omega) hn (by rw [e3]; exact hP2) (fun τ' hS' hR' => ?_)
    rw [e4] at hR'
    exact hQ' τ' (hS.tr hS') hR'
  · exact absurd hh (by rw [n_eq0 (by omega)]; omega)
theorem zat_none {o : Nat → Nat} (h : ∀ z, o z = 0) (c : Nat) : zat o c = 0 := by
  rcases zatF_or o c 10 with ⟨i, -, -, q⟩ | ⟨q, -⟩
  · exact absurd (h _) q
  · exact q
theorem s_X4_split0 {σ : St} {s X Y n : Nat} {x y : Int32} {o : Nat → Nat} {Q : St → Prop} (hs : SpRep σ s o) (h0 : ∀ z, o z = 0) (hx : x &&& nI 31 = nI X) (hX : X < 32) (hy : y &&& nI 31 = nI Y) (hY : Y < 32) (hn : n < 10)
    (hQ : ∀ τ, Spf s σ τ → SpRep τ s (setO o 1 (n + 1)) → Q τ) : wp_X4_split σ s x y (nI n) Q := by
  unfold wp_X4_split
  have hb : OB o := ⟨fun z _ => by rw [h0]; omega, h0 0⟩
  refine s_X4_zoneAt hs.1 hb hx hX hy hY ?_
  rw [zat_none h0]
  refine ⟨fun q => absurd rfl q, fun _ => ?_⟩
  refine s_X4_give hs hb (by decide) (by decide) hn (PT.one h0 hn) (fun τ hS hR => hQ τ hS ?_)
  rw [giv, mrg_stop (by omega)] at hR
  exact hR
/-! the reference parts a zone -/
def Bm (σ τ : St) : Prop := (∀ b, b ≠ 244 → b ≠ 245 → τ b = σ b) ∧ ∀ j, j < 13 ∨ 16 < j → τ 244 j = σ 244 j
theorem Bm.rf (σ : St) : Bm σ σ := ⟨fun _ _ _ => rfl, fun _ _ => rfl⟩
theorem Bm.tr {σ τ ρ : St} (h1 : Bm σ τ) (h2 : Bm τ ρ) : Bm σ ρ := ⟨fun b hb hc => (h2.1 b hb hc).trans (h1.1 b hb hc), fun j hj => (h2.2 j hj).trans (h1.2 j hj)⟩
theorem Bx.bm {σ τ : St} (h : Bx σ τ) : Bm σ τ := ⟨fun b hb _ => h.1 b hb, h.2⟩
theorem Bm.mf {σ τ : St} (h : Bm σ τ) : Mf σ τ := ⟨fun b hb => h.1 b (by omega) (by omega), fun j hj => h.2 j (Or.inl hj)⟩
theorem Bm.sr {σ τ : St} (h : Bm σ τ) (f : Nat → Int32) : Bm σ (sr τ 245 f) := ⟨fun b hb hc => by rw [sr_ne hc]; exact h.1 b hb hc, fun j hj => by rw [sr_ne (by decide)]; exact h.2 j hj⟩
theorem s_X9_parts {σ : St} {r X Y n : Nat} {f : Nat → Int32} {o : Nat → Nat} {Q : St → Prop} (hg : G0 (σ 245) r) (hr : r < gR (σ 245)) (hP : PT o) (hX : X < 32) (hY : Y < 32) (hn : n < 10) (hz : zat o (cn X Y) < 1024)
    (hs1 : some1 (gst (σ 245))) (hσ : σ 245 = updO f r o) (ho : gow (σ 245) r = o) (hj : σ 244 28 = nI n)
    (hQ : ∀ τ, Bm σ τ → τ 245 = updO f r (spl o (cn X Y) n) → Q τ) : wp_X9_parts σ (nI r) (nI X) (nI Y) Q := by
  obtain ⟨i, hi, ez, eh, q1, q2, q3, q4, q5⟩ := hlf_ok hX hY hP.2.1 hz
  have hR := hg.1.2.2.2.2.1.2.2
  have hob := hP.1.1 (zat o (cn X Y)) (by omega)
  have hx := xor1_lt q2
  unfold wp_X9_parts
  refine s_X9_zoneAt hg hr hX hY (fun q => absurd hs1 q) (fun _ τ hB => ?_)
  rw [ho]
  refine s_own' (f := f) (o := o) (by omega) (by omega) (by rw [hB.m, hσ]) ?_
  rw [ez]
  refine s_X9_halfWith hX hY hi ?_
  rw [← ez, ← eh]
  have hB2 := hB.tr (Bx.bxs τ (2 * zat o (cn X Y)))
  generalize bxs τ (2 * zat o (cn X Y)) = τ2 at *
  refine s_X9_owns (v := 0) (f := f) (o := o) (by omega) (by omega) n_m1a ?_ (by rw [hB2.m, hσ])
  have hB3 := hB2.bm.sr (updO f r (setO o (zat o (cn X Y)) 0))
  rw [show sr τ2 245 (updO f r (setO o (zat o (cn X Y)) 0)) 244 28 = nI n by rw [hB3.2 28 (by omega), hj]]
  refine s_X9_owns (v := n + 1) (f := f) (o := setO o (zat o (cn X Y)) 0) (by omega) q2 (n_add n 1) ?_ (sr_same _ _ _)
  rw [n_xor]
  refine s_X9_owns (v := o (zat o (cn X Y))) (f := f) (o := setO (setO o (zat o (cn X Y)) 0) (hlf o (cn X Y)) (n + 1)) (by omega) hx (by rw [Int32.sub_add_cancel]) ?_ (sr_same _ _ _)
  refine hQ _ ((hB3.sr _).sr _) ?_
  rw [sr_same]
  unfold spl spz
  rw [q3]
