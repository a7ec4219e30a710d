/-! HINGES: only who is on a way can shut it -/
theorem lst_min {v : Nat → Nat} {m : Nat} : ∀ n b, lst v m n = some b → ∀ c, c < n → m.testBit c = true → v b ≤ v c ∧ (v c = v b → b ≤ c)
  | 0, b, h, c, hc, _ => absurd hc (by omega)
  | n + 1, b, h, c, hc, ht => by
    unfold lst at h
    cases e : lst v m n with
    | none =>
      rw [e] at h
      dsimp only at h
      split at h
      · cases h
        rcases Nat.lt_or_ge c n with q | q
        · rw [lst_none n e c q] at ht; cases ht
        · rw [show c = n by omega]; exact ⟨Nat.le_refl _, fun _ => Nat.le_refl _⟩
      · cases h
    | some d =>
      rw [e] at h
      dsimp only at h
      have ih := lst_min n d e
      have hd := lst_lt n d e
      by_cases q1 : m.testBit n = true ∧ v n < v d
      · rw [if_pos q1] at h
        cases h
        rcases Nat.lt_or_ge c n with q | q
        · have := ih c q ht
          exact ⟨by omega, fun t => by omega⟩
        · rw [show c = n by omega]; exact ⟨Nat.le_refl _, fun _ => Nat.le_refl _⟩
      · rw [if_neg q1] at h
        cases h
        rcases Nat.lt_or_ge c n with q | q
        · exact ih c q ht
        · have ec : c = n := by omega
          rw [ec] at ht ⊢
          have : ¬ v n < v b := fun t => q1 ⟨ht, t⟩
          exact ⟨by omega, fun _ => by omega⟩
theorem lst_is {v : Nat → Nat} {m b : Nat} (hb : b < 10) (ht : m.testBit b = true) (hm : ∀ c, c < 10 → m.testBit c = true → v b ≤ v c ∧ (v c = v b → b ≤ c)) : lst v m 10 = some b := by
  cases e : lst v m 10 with
  | none => rw [lst_none 10 e b hb] at ht; cases ht
  | some d =>
    have hd := lst_lt 10 d e
    have h1 := lst_min 10 d e b hb ht
    have h2 := hm d hd.1 hd.2
    have e1 : v b = v d := by omega
    have := h1.2 e1
    have := h2.2 e1.symm
    rw [show d = b by omega]
theorem tb_and_clr {w ups n j : Nat} (hu : ups < 1024) : (w &&& clr ups n).testBit j = ((w &&& ups).testBit j && !decide (n = j)) := by
  rw [Nat.testBit_and, Nat.testBit_and, tb_clr (by omega), Bool.and_assoc]
/-- who is not next does not matter -/
theorem nx1_clr {o : Nat → Nat} {ups x y p n : Nat} (hu : ups < 1024) (h : nx1 o ups x y p ≠ some n) : nx1 o (clr ups n) x y p = nx1 o ups x y p := by
  unfold nx1 at h ⊢
  cases e : lst (far o x y) (nbn o p &&& ups) 10 with
  | none =>
    have e2 : lst (far o x y) (nbn o p &&& clr ups n) 10 = none := by
      cases e3 : lst (far o x y) (nbn o p &&& clr ups n) 10 with
      | none => rfl
      | some d =>
        obtain ⟨hd1, hd2⟩ := lst_lt 10 d e3
        have hno := lst_none 10 e d hd1
        rw [tb_and_clr hu, hno, Bool.false_and] at hd2
        cases hd2
    rw [e2]
  | some b =>
    have hb := lst_lt 10 b e
    have hmin := lst_min 10 b e
    rw [e] at h
    dsimp only at h ⊢
    by_cases c : far o x y b < far o x y p
    · rw [if_pos c] at h ⊢
      have hne : b ≠ n := fun q => h (by rw [q])
      have e2 : lst (far o x y) (nbn o p &&& clr ups n) 10 = some b := by
        refine lst_is hb.1 ?_ (fun d hd ht => ?_)
        · rw [tb_and_clr hu, hb.2]
          have : ¬ n = b := fun q => hne q.symm
          simp [this]
        · rw [tb_and_clr hu, Bool.and_eq_true] at ht
          exact hmin d hd ht.1
      rw [e2]
      dsimp only
      rw [if_pos c]
    · rw [if_neg c] at h ⊢
      cases e3 : lst (far o x y) (nbn o p &&& clr ups n) 10 with
      | none => rfl
      | some d =>
        have hd := lst_lt 10 d e3
        rw [tb_and_clr hu, Bool.and_eq_true] at hd
        have := (hmin d hd.1 hd.2.1).1
        dsimp only
        rw [if_neg (by omega)]
/-- a way without who is not on it is the same -/
theorem way_clr {o : Nat → Nat} {ups x y n : Nat} (hu : ups < 1024) : ∀ k p, (∀ i, 1 ≤ i → i < (wyL (far o x y) (nx1 o ups x y) k p).length → (wyL (far o x y) (nx1 o ups x y) k p).getD i 0 ≠ n) → wyL (far o x y) (nx1 o (clr ups n) x y) k p = wyL (far o x y) (nx1 o ups x y) k p ∧ wyS (far o x y) (nx1 o (clr ups n) x y) k p = wyS (far o x y) (nx1 o ups x y) k p
  | 0, p, _ => ⟨rfl, rfl⟩
  | k + 1, p, h => by
    unfold wyL wyS
    by_cases c : far o x y p = 0
    · rw [if_pos c, if_pos c, if_pos c, if_pos c]; exact ⟨rfl, rfl⟩
    · rw [if_neg c, if_neg c, if_neg c, if_neg c]
      cases e : nx1 o ups x y p with
      | none =>
        rw [nx1_clr hu (by rw [e]; exact fun q => by cases q), e]
        exact ⟨rfl, rfl⟩
      | some q =>
        have eL : wyL (far o x y) (nx1 o ups x y) (k + 1) p = p :: wyL (far o x y) (nx1 o ups x y) k q := by
          conv => lhs; unfold wyL
          rw [if_neg c, e]
        rw [eL] at h
        have hqn : q ≠ n := by
          have hl := wyL_len (far o x y) (nx1 o ups x y) k q
          have := h 1 (by decide) (by rw [List.length_cons]; omega)
          have e0 : (p :: wyL (far o x y) (nx1 o ups x y) k q).getD 1 0 = (wyL (far o x y) (nx1 o ups x y) k q).getD 0 0 := rfl
          rw [e0, wyL_0] at this
          exact this
        rw [nx1_clr hu (by rw [e]; exact fun t => hqn (by cases t; rfl)), e]
        dsimp only
        obtain ⟨i1, i2⟩ := way_clr (o := o) (x := x) (y := y) (n := n) hu k q (fun i hi hl => by
          have := h (i + 1) (by omega) (by rw [List.length_cons]; omega)
          exact this)
        rw [i1, i2]
        exact ⟨rfl, rfl⟩
/-- on a way one comes nearer -/
theorem way_dec {o : Nat → Nat} {ups x y : Nat} : ∀ k p i, i + 1 < (wyL (far o x y) (nx1 o ups x y) k p).length → far o x y ((wyL (far o x y) (nx1 o ups x y) k p).getD (i + 1) 0) < far o x y ((wyL (far o x y) (nx1 o ups x y) k p).getD i 0)
  | 0, p, i, h => by have : i + 1 < 1 := h; omega
  | k + 1, p, i, h => by
    unfold wyL at h ⊢
    by_cases c : far o x y p = 0
    · rw [if_pos c] at h; have : i + 1 < 1 := h; omega
    · rw [if_neg c] at h ⊢
      cases e : nx1 o ups x y p with
      | none => rw [e] at h; have : i + 1 < 1 := h; omega
      | some q =>
        rw [e] at h
        dsimp only at h ⊢
        rw [List.length_cons] at h
        cases i with
        | zero =>
          have e0 : (p :: wyL (far o x y) (nx1 o ups x y) k q).getD (0 + 1) 0 = (wyL (far o x y) (nx1 o ups x y) k q).getD 0 0 := rfl
          rw [e0, wyL_0]
          exact (nx1_ok e).2.1
        | succ i => exact way_dec k q i (by omega)
theorem way_mono {o : Nat → Nat} {ups x y k p : Nat} : ∀ d i, i + d + 1 < (wyL (far o x y) (nx1 o ups x y) k p).length → far o x y ((wyL (far o x y) (nx1 o ups x y) k p).getD (i + d + 1) 0) < far o x y ((wyL (far o x y) (nx1 o ups x y) k p).getD i 0)
  | 0, i, h => way_dec k p i h
  | d + 1, i, h => by
    have h1 := way_mono (o := o) (ups := ups) (x := x) (y := y) (k := k) (p := p) d i (by omega)
    have h2 := way_dec (o := o) (ups := ups) (x := x) (y := y) k p (i + d + 1) h
    rw [show i + (d + 1) + 1 = i + d + 1 + 1 by omega]
    omega
/-- a way that is not stuck ends where it is not far -/
theorem way_end {o : Nat → Nat} {ups x y p : Nat} (hp : p < 10) (h : wayS o ups x y p = false) : far o x y ((wayL o ups x y p).getD ((wayL o ups x y p).length - 1) 0) = 0 := by
  unfold wayL wayS at *
  have key : ∀ k q hh, 10 - hh ≤ k → WI (far o x y) (nx1 o ups x y) p hh q → far o x y ((wyL (far o x y) (nx1 o ups x y) 10 p).getD ((wyL (far o x y) (nx1 o ups x y) 10 p).length - 1) 0) = 0 := by
    intro k
    induction k with
    | zero => intro q hh hk hW; have := hW.le; omega
    | succ k ih =>
      intro q hh hk hW
      by_cases c : far o x y q = 0
      · obtain ⟨-, w2⟩ := hW.end0 c
        rw [w2, Nat.add_sub_cancel, hW.at_]; exact c
      · cases e : nx1 o ups x y q with
        | none =>
          obtain ⟨w1, -⟩ := hW.end1 c e
          rw [h] at w1; cases w1
        | some q2 =>
          obtain ⟨v1, v2, -⟩ := nx1_ok e
          exact ih q2 (hh + 1) (by omega) (hW.step c e v1 v2)
  exact key 10 p 0 (by omega) (WI.start hp)
theorem stp_0 {p f m : Nat} (hp : p < 32) (hm : 1 ≤ m) (hf : f + m ≤ 32) (h : stp p f m = 0) : f ≤ p ∧ p < f + m := by
  unfold stp at h
  by_cases c : f ≤ p ∧ p < f + m
  · exact c
  · rw [if_neg c] at h
    have h2 : (f + 32 - p) % 32 = 0 ∨ (p + 65 - f - m) % 32 = 0 := by
      rcases Nat.le_total ((f + 32 - p) % 32) ((p + 65 - f - m) % 32) with t | t
      · rw [Nat.min_eq_left t] at h; exact Or.inl h
      · rw [Nat.min_eq_right t] at h; exact Or.inr h
    omega
theorem far_0 {o : Nat → Nat} (hb : OB o) (hc : chain o) {x y p : Nat} (hx : x < 32) (hy : y < 32) (h : far o x y p = 0) : oat o x y = p + 1 := by
  rcases nfr_att o x y p 64 2048 with e | ⟨z, hz, h1, e⟩
  · unfold far at h; omega
  · have z1 := PT.pos hb (show o z ≠ 0 by omega)
    obtain ⟨b1, b2, b3, b4, -, -⟩ := geo_box z hz z1
    unfold far at h
    rw [e] at h
    unfold stz at h
    have s1 := stp_0 hx b1 b3 (by omega)
    have s2 := stp_0 hy b2 b4 (by omega)
    have hin : inb z x y := ⟨s1.1, s1.2, s2.1, s2.2⟩
    rw [inb_iff hz z1 hx hy] at hin
    obtain ⟨c1, c2⟩ := cn_lt hx hy
    have ez := zat_eq hc c1 c2 (i := 10 - zd z) (by omega) (by rw [hin]; omega)
    unfold oat
    rw [ez, hin]; exact h1
/-- the first zone of a node, its first cell -/
def fzo (o : Nat → Nat) (b : Nat) : Nat := (zlp o b 2048).getD 0 0
def txo (o : Nat → Nat) (b : Nat) : Nat := zx (fzo o b)
def tyo (o : Nat → Nat) (b : Nat) : Nat := zy (fzo o b)
theorem fzo_ok {o : Nat → Nat} {b : Nat} (h : own1 o b) : fzo o b < 2048 ∧ o (fzo o b) = b + 1 := by
  obtain ⟨z, hz, ho⟩ := h
  have hl : 0 < (zlp o b 2048).length := by
    rcases Nat.eq_zero_or_pos (zlp o b 2048).length with q | q
    · have hm : z ∈ zlp o b 2048 := zlp_mem.mpr ⟨hz, ho⟩
      rw [List.length_eq_zero_iff.mp q] at hm
      cases hm
    · exact q
  exact zlp_mem.mp (getD_mem (d := 0) hl)
theorem txo_lt {o : Nat → Nat} {b : Nat} (hb : OB o) (h : own1 o b) : txo o b < 32 ∧ tyo o b < 32 := by
  obtain ⟨h1, h2⟩ := fzo_ok h
  have z1 := PT.pos hb (show o (fzo o b) ≠ 0 by omega)
  obtain ⟨b1, b2, b3, b4, -, -⟩ := geo_box _ h1 z1
  unfold txo tyo
  omega
theorem oat_t {o : Nat → Nat} {b : Nat} (hb : OB o) (hc : chain o) (h : own1 o b) : oat o (txo o b) (tyo o b) = b + 1 := by
  obtain ⟨h1, h2⟩ := fzo_ok h
  obtain ⟨t1, t2⟩ := txo_lt hb h
  have z1 := PT.pos hb (show o (fzo o b) ≠ 0 by omega)
  obtain ⟨b1, b2, b3, b4, -, -⟩ := geo_box _ h1 z1
  have hin : inb (fzo o b) (txo o b) (tyo o b) := ⟨Nat.le_refl _, by unfold txo; omega, Nat.le_refl _, by unfold tyo; omega⟩
  rw [inb_iff h1 z1 t1 t2] at hin
  obtain ⟨c1, c2⟩ := cn_lt t1 t2
  have ez := zat_eq hc c1 c2 (i := 10 - zd (fzo o b)) (by omega) (by rw [hin]; omega)
  unfold oat
  rw [ez, hin]; exact h2
/-- the way between two nodes -/
def pwL (o : Nat → Nat) (ups a b : Nat) : List Nat := wayL o ups (txo o b) (tyo o b) a
def pwS (o : Nat → Nat) (ups a b : Nat) : Bool := wayS o ups (txo o b) (tyo o b) a
def prs (st : Nat → Nat) (a b : Nat) : Bool := decide (a ≠ b) && decide (st a = 1) && decide (st b = 1)
theorem prs_iff {st : Nat → Nat} {a b : Nat} : prs st a b = true ↔ a ≠ b ∧ st a = 1 ∧ st b = 1 := by
  unfold prs
  simp only [Bool.and_eq_true, decide_eq_true_eq, and_assoc]
/-- is a node between the first and the last of a way -/
def btw (L : List Nat) (n : Nat) : Prop := ∃ i, 1 ≤ i ∧ i + 1 < L.length ∧ L.getD i 0 = n
def HBp (o st : Nat → Nat) (ups a b n : Nat) : Prop := prs st a b = true ∧ pwS o ups a b = false ∧ btw (pwL o ups a b) n ∧ pwS o (clr ups n) a b = true
theorem hinge_eq {o st : Nat → Nat} {ups n : Nat} (hb : OB o) (hc : chain o) (hups : ups = bits st 1) (hown : ∀ p, p < 10 → st p = 1 → own1 o p) : (∃ a b, a < 10 ∧ b < 10 ∧ HBp o st ups a b n) ↔ (n < 10 ∧ st n = 1 ∧ ∃ a b, a < 10 ∧ b < 10 ∧ a ≠ n ∧ b ≠ n ∧ prs st a b = true ∧ pwS o ups a b = false ∧ pwS o (clr ups n) a b = true) := by
  have hu : ups < 1024 := by rw [hups]; exact bits_lt _ _
  have ubit : ∀ q, ups.testBit q = true → q < 10 ∧ st q = 1 := fun q h => by
    rw [hups, tb_bits] at h
    simp at h
    exact h
  have last : ∀ a b, a < 10 → b < 10 → prs st a b = true → pwS o ups a b = false → (pwL o ups a b).getD ((pwL o ups a b).length - 1) 0 = b := fun a b ha hbb hp hS => by
    obtain ⟨p1, p2, p3⟩ := prs_iff.mp hp
    have h0 := way_end ha hS
    obtain ⟨t1, t2⟩ := txo_lt hb (hown b hbb p3)
    have h1 := far_0 hb hc t1 t2 h0
    rw [oat_t hb hc (hown b hbb p3)] at h1
    unfold pwL
    omega
  constructor
  · rintro ⟨a, b, ha, hbb, hp, hS, ⟨i, i1, i2, i3⟩, hS2⟩
    obtain ⟨p1, p2, p3⟩ := prs_iff.mp hp
    have hl := last a b ha hbb hp hS
    have hall := wyL_all (fr := far o (txo o b) (tyo o b)) (nx := nx1 o ups (txo o b) (tyo o b)) (P := fun q => q < 10 ∧ st q = 1) (fun p q h => ubit q (nx1_ok h).2.2.1) 10 a ⟨ha, p2⟩ i (by have : (wyL (far o (txo o b) (tyo o b)) (nx1 o ups (txo o b) (tyo o b)) 10 a).length = (pwL o ups a b).length := rfl; omega)
    have hn : n < 10 ∧ st n = 1 := by rw [← i3]; exact hall
    have h0 : (pwL o ups a b).getD 0 0 = a := wyL_0 _ _ _ _
    have m1 := way_mono (o := o) (ups := ups) (x := txo o b) (y := tyo o b) (k := 10) (p := a) (i - 1) 0 (by rw [show 0 + (i - 1) + 1 = i by omega]; show i < (pwL o ups a b).length; omega)
    rw [show 0 + (i - 1) + 1 = i by omega] at m1
    have m2 := way_mono (o := o) (ups := ups) (x := txo o b) (y := tyo o b) (k := 10) (p := a) ((pwL o ups a b).length - 1 - i - 1) i (by rw [show i + ((pwL o ups a b).length - 1 - i - 1) + 1 = (pwL o ups a b).length - 1 by omega]; show (pwL o ups a b).length - 1 < (pwL o ups a b).length; omega)
    rw [show i + ((pwL o ups a b).length - 1 - i - 1) + 1 = (pwL o ups a b).length - 1 by omega] at m2
    change far o (txo o b) (tyo o b) ((pwL o ups a b).getD i 0) < far o (txo o b) (tyo o b) ((pwL o ups a b).getD 0 0) at m1
    change far o (txo o b) (tyo o b) ((pwL o ups a b).getD ((pwL o ups a b).length - 1) 0) < far o (txo o b) (tyo o b) ((pwL o ups a b).getD i 0) at m2
    rw [i3, h0] at m1
    rw [i3, hl] at m2
    exact ⟨hn.1, hn.2, a, b, ha, hbb, fun q => by rw [q] at m1; omega, fun q => by rw [q] at m2; omega, hp, hS, hS2⟩
  · rintro ⟨hn, hsn, a, b, ha, hbb, hna, hnb, hp, hS, hS2⟩
    refine ⟨a, b, ha, hbb, hp, hS, ?_, hS2⟩
    have hl := last a b ha hbb hp hS
    refine Classical.byContradiction fun q => ?_
    have hsame := (way_clr (o := o) (ups := ups) (x := txo o b) (y := tyo o b) (n := n) hu 10 a (fun i hi hil e => q ⟨i, hi, ?_, e⟩)).2
    · have : pwS o (clr ups n) a b = pwS o ups a b := hsame
      rw [hS2, hS] at this
      cases this
    · rcases Nat.lt_or_ge (i + 1) (pwL o ups a b).length with t | t
      · exact t
      · exfalso
        have hil2 : i < (pwL o ups a b).length := hil
        have ei : i = (pwL o ups a b).length - 1 := by omega
        have e2 : (pwL o ups a b).getD i 0 = n := e
        rw [ei, hl] at e2
        exact hnb e2
