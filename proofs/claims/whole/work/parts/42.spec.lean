theorem LP1_nat {A0 : Type} {F : (A0 → Prop) → A0 → Prop} (N : Nat) (I : Nat → A0 → Prop) (hs : ∀ (ih : A0 → Prop) (i : Nat) (x0 : A0), i ≤ N → I i x0 → (∀ (y0 : A0), i < N → I (i + 1) y0 → ih y0) → F ih x0) (i : Nat) (x0 : A0) (hi : i ≤ N) (h : I i x0) : ∃ n, LP1 F n x0 := by
  have key : ∀ (n i : Nat) (x0 : A0), N - i ≤ n → i ≤ N → I i x0 → LP1 F (n + 1) x0 := by
    intro n
    induction n with
    | zero => exact fun i x0 hn hi hI => hs _ i x0 hi hI (fun y0 hl _ => absurd hl (by omega))
    | succ n ihn => exact fun i x0 hn hi hI => hs _ i x0 hi hI (fun y0 hl hI' => ihn (i + 1) y0 (by omega) (by omega) hI')
  exact ⟨_, key _ i x0 (Nat.le_refl _) hi h⟩
theorem LP2_nat {A0 A1 : Type} {F : (A0 → A1 → Prop) → A0 → A1 → Prop} (N : Nat) (I : Nat → A0 → A1 → Prop) (hs : ∀ (ih : A0 → A1 → Prop) (i : Nat) (x0 : A0) (x1 : A1), i ≤ N → I i x0 x1 → (∀ (y0 : A0) (y1 : A1), i < N → I (i + 1) y0 y1 → ih y0 y1) → F ih x0 x1) (i : Nat) (x0 : A0) (x1 : A1) (hi : i ≤ N) (h : I i x0 x1) : ∃ n, LP2 F n x0 x1 := by
  have key : ∀ (n i : Nat) (x0 : A0) (x1 : A1), N - i ≤ n → i ≤ N → I i x0 x1 → LP2 F (n + 1) x0 x1 := by
    intro n
    induction n with
    | zero => exact fun i x0 x1 hn hi hI => hs _ i x0 x1 hi hI (fun y0 y1 hl _ => absurd hl (by omega))
    | succ n ihn => exact fun i x0 x1 hn hi hI => hs _ i x0 x1 hi hI (fun y0 y1 hl hI' => ihn (i + 1) y0 y1 (by omega) (by omega) hI')
  exact ⟨_, key _ i x0 x1 (Nat.le_refl _) hi h⟩
theorem LP3_nat {A0 A1 A2 : Type} {F : (A0 → A1 → A2 → Prop) → A0 → A1 → A2 → Prop} (N : Nat) (I : Nat → A0 → A1 → A2 → Prop) (hs : ∀ (ih : A0 → A1 → A2 → Prop) (i : Nat) (x0 : A0) (x1 : A1) (x2 : A2), i ≤ N → I i x0 x1 x2 → (∀ (y0 : A0) (y1 : A1) (y2 : A2), i < N → I (i + 1) y0 y1 y2 → ih y0 y1 y2) → F ih x0 x1 x2) (i : Nat) (x0 : A0) (x1 : A1) (x2 : A2) (hi : i ≤ N) (h : I i x0 x1 x2) : ∃ n, LP3 F n x0 x1 x2 := by
  have key : ∀ (n i : Nat) (x0 : A0) (x1 : A1) (x2 : A2), N - i ≤ n → i ≤ N → I i x0 x1 x2 → LP3 F (n + 1) x0 x1 x2 := by
    intro n
    induction n with
    | zero => exact fun i x0 x1 x2 hn hi hI => hs _ i x0 x1 x2 hi hI (fun y0 y1 y2 hl _ => absurd hl (by omega))
    | succ n ihn => exact fun i x0 x1 x2 hn hi hI => hs _ i x0 x1 x2 hi hI (fun y0 y1 y2 hl hI' => ihn (i + 1) y0 y1 y2 (by omega) (by omega) hI')
  exact ⟨_, key _ i x0 x1 x2 (Nat.le_refl _) hi h⟩
theorem LP4_nat {A0 A1 A2 A3 : Type} {F : (A0 → A1 → A2 → A3 → Prop) → A0 → A1 → A2 → A3 → Prop} (N : Nat) (I : Nat → A0 → A1 → A2 → A3 → Prop) (hs : ∀ (ih : A0 → A1 → A2 → A3 → Prop) (i : Nat) (x0 : A0) (x1 : A1) (x2 : A2) (x3 : A3), i ≤ N → I i x0 x1 x2 x3 → (∀ (y0 : A0) (y1 : A1) (y2 : A2) (y3 : A3), i < N → I (i + 1) y0 y1 y2 y3 → ih y0 y1 y2 y3) → F ih x0 x1 x2 x3) (i : Nat) (x0 : A0) (x1 : A1) (x2 : A2) (x3 : A3) (hi : i ≤ N) (h : I i x0 x1 x2 x3) : ∃ n, LP4 F n x0 x1 x2 x3 := by
  have key : ∀ (n i : Nat) (x0 : A0) (x1 : A1) (x2 : A2) (x3 : A3), N - i ≤ n → i ≤ N → I i x0 x1 x2 x3 → LP4 F (n + 1) x0 x1 x2 x3 := by
    intro n
    induction n with
    | zero => exact fun i x0 x1 x2 x3 hn hi hI => hs _ i x0 x1 x2 x3 hi hI (fun y0 y1 y2 y3 hl _ => absurd hl (by omega))
    | succ n ihn => exact fun i x0 x1 x2 x3 hn hi hI => hs _ i x0 x1 x2 x3 hi hI (fun y0 y1 y2 y3 hl hI' => ihn (i + 1) y0 y1 y2 y3 (by omega) (by omega) hI')
  exact ⟨_, key _ i x0 x1 x2 x3 (Nat.le_refl _) hi h⟩
theorem LP5_nat {A0 A1 A2 A3 A4 : Type} {F : (A0 → A1 → A2 → A3 → A4 → Prop) → A0 → A1 → A2 → A3 → A4 → Prop} (N : Nat) (I : Nat → A0 → A1 → A2 → A3 → A4 → Prop) (hs : ∀ (ih : A0 → A1 → A2 → A3 → A4 → Prop) (i : Nat) (x0 : A0) (x1 : A1) (x2 : A2) (x3 : A3) (x4 : A4), i ≤ N → I i x0 x1 x2 x3 x4 → (∀ (y0 : A0) (y1 : A1) (y2 : A2) (y3 : A3) (y4 : A4), i < N → I (i + 1) y0 y1 y2 y3 y4 → ih y0 y1 y2 y3 y4) → F ih x0 x1 x2 x3 x4) (i : Nat) (x0 : A0) (x1 : A1) (x2 : A2) (x3 : A3) (x4 : A4) (hi : i ≤ N) (h : I i x0 x1 x2 x3 x4) : ∃ n, LP5 F n x0 x1 x2 x3 x4 := by
  have key : ∀ (n i : Nat) (x0 : A0) (x1 : A1) (x2 : A2) (x3 : A3) (x4 : A4), N - i ≤ n → i ≤ N → I i x0 x1 x2 x3 x4 → LP5 F (n + 1) x0 x1 x2 x3 x4 := by
    intro n
    induction n with
    | zero => exact fun i x0 x1 x2 x3 x4 hn hi hI => hs _ i x0 x1 x2 x3 x4 hi hI (fun y0 y1 y2 y3 y4 hl _ => absurd hl (by omega))
    | succ n ihn => exact fun i x0 x1 x2 x3 x4 hn hi hI => hs _ i x0 x1 x2 x3 x4 hi hI (fun y0 y1 y2 y3 y4 hl hI' => ihn (i + 1) y0 y1 y2 y3 y4 (by omega) (by omega) hI')
  exact ⟨_, key _ i x0 x1 x2 x3 x4 (Nat.le_refl _) hi h⟩
theorem LP6_nat {A0 A1 A2 A3 A4 A5 : Type} {F : (A0 → A1 → A2 → A3 → A4 → A5 → Prop) → A0 → A1 → A2 → A3 → A4 → A5 → Prop} (N : Nat) (I : Nat → A0 → A1 → A2 → A3 → A4 → A5 → Prop) (hs : ∀ (ih : A0 → A1 → A2 → A3 → A4 → A5 → Prop) (i : Nat) (x0 : A0) (x1 : A1) (x2 : A2) (x3 : A3) (x4 : A4) (x5 : A5), i ≤ N → I i x0 x1 x2 x3 x4 x5 → (∀ (y0 : A0) (y1 : A1) (y2 : A2) (y3 : A3) (y4 : A4) (y5 : A5), i < N → I (i + 1) y0 y1 y2 y3 y4 y5 → ih y0 y1 y2 y3 y4 y5) → F ih x0 x1 x2 x3 x4 x5) (i : Nat) (x0 : A0) (x1 : A1) (x2 : A2) (x3 : A3) (x4 : A4) (x5 : A5) (hi : i ≤ N) (h : I i x0 x1 x2 x3 x4 x5) : ∃ n, LP6 F n x0 x1 x2 x3 x4 x5 := by
  have key : ∀ (n i : Nat) (x0 : A0) (x1 : A1) (x2 : A2) (x3 : A3) (x4 : A4) (x5 : A5), N - i ≤ n → i ≤ N → I i x0 x1 x2 x3 x4 x5 → LP6 F (n + 1) x0 x1 x2 x3 x4 x5 := by
    intro n
    induction n with
    | zero => exact fun i x0 x1 x2 x3 x4 x5 hn hi hI => hs _ i x0 x1 x2 x3 x4 x5 hi hI (fun y0 y1 y2 y3 y4 y5 hl _ => absurd hl (by omega))
    | succ n ihn => exact fun i x0 x1 x2 x3 x4 x5 hn hi hI => hs _ i x0 x1 x2 x3 x4 x5 hi hI (fun y0 y1 y2 y3 y4 y5 hl hI' => ihn (i + 1) y0 y1 y2 y3 y4 y5 (by omega) (by omega) hI')
  exact ⟨_, key _ i x0 x1 x2 x3 x4 x5 (Nat.le_refl _) hi h⟩
theorem LP7_nat {A0 A1 A2 A3 A4 A5 A6 : Type} {F : (A0 → A1 → A2 → A3 → A4 → A5 → A6 → Prop) → A0 → A1 → A2 → A3 → A4 → A5 → A6 → Prop} (N : Nat) (I : Nat → A0 → A1 → A2 → A3 → A4 → A5 → A6 → Prop) (hs : ∀ (ih : A0 → A1 → A2 → A3 → A4 → A5 → A6 → Prop) (i : Nat) (x0 : A0) (x1 : A1) (x2 : A2) (x3 : A3) (x4 : A4) (x5 : A5) (x6 : A6), i ≤ N → I i x0 x1 x2 x3 x4 x5 x6 → (∀ (y0 : A0) (y1 : A1) (y2 : A2) (y3 : A3) (y4 : A4) (y5 : A5) (y6 : A6), i < N → I (i + 1) y0 y1 y2 y3 y4 y5 y6 → ih y0 y1 y2 y3 y4 y5 y6) → F ih x0 x1 x2 x3 x4 x5 x6) (i : Nat) (x0 : A0) (x1 : A1) (x2 : A2) (x3 : A3) (x4 : A4) (x5 : A5) (x6 : A6) (hi : i ≤ N) (h : I i x0 x1 x2 x3 x4 x5 x6) : ∃ n, LP7 F n x0 x1 x2 x3 x4 x5 x6 := by
  have key : ∀ (n i : Nat) (x0 : A0) (x1 : A1) (x2 : A2) (x3 : A3) (x4 : A4) (x5 : A5) (x6 : A6), N - i ≤ n → i ≤ N → I i x0 x1 x2 x3 x4 x5 x6 → LP7 F (n + 1) x0 x1 x2 x3 x4 x5 x6 := by
    intro n
    induction n with
    | zero => exact fun i x0 x1 x2 x3 x4 x5 x6 hn hi hI => hs _ i x0 x1 x2 x3 x4 x5 x6 hi hI (fun y0 y1 y2 y3 y4 y5 y6 hl _ => absurd hl (by omega))
    | succ n ihn => exact fun i x0 x1 x2 x3 x4 x5 x6 hn hi hI => hs _ i x0 x1 x2 x3 x4 x5 x6 hi hI (fun y0 y1 y2 y3 y4 y5 y6 hl hI' => ihn (i + 1) y0 y1 y2 y3 y4 y5 y6 (by omega) (by omega) hI')
  exact ⟨_, key _ i x0 x1 x2 x3 x4 x5 x6 (Nat.le_refl _) hi h⟩
theorem LP8_nat {A0 A1 A2 A3 A4 A5 A6 A7 : Type} {F : (A0 → A1 → A2 → A3 → A4 → A5 → A6 → A7 → Prop) → A0 → A1 → A2 → A3 → A4 → A5 → A6 → A7 → Prop} (N : Nat) (I : Nat → A0 → A1 → A2 → A3 → A4 → A5 → A6 → A7 → Prop) (hs : ∀ (ih : A0 → A1 → A2 → A3 → A4 → A5 → A6 → A7 → Prop) (i : Nat) (x0 : A0) (x1 : A1) (x2 : A2) (x3 : A3) (x4 : A4) (x5 : A5) (x6 : A6) (x7 : A7), i ≤ N → I i x0 x1 x2 x3 x4 x5 x6 x7 → (∀ (y0 : A0) (y1 : A1) (y2 : A2) (y3 : A3) (y4 : A4) (y5 : A5) (y6 : A6) (y7 : A7), i < N → I (i + 1) y0 y1 y2 y3 y4 y5 y6 y7 → ih y0 y1 y2 y3 y4 y5 y6 y7) → F ih x0 x1 x2 x3 x4 x5 x6 x7) (i : Nat) (x0 : A0) (x1 : A1) (x2 : A2) (x3 : A3) (x4 : A4) (x5 : A5) (x6 : A6) (x7 : A7) (hi : i ≤ N) (h : I i x0 x1 x2 x3 x4 x5 x6 x7) : ∃ n, LP8 F n x0 x1 x2 x3 x4 x5 x6 x7 := by
  have key : ∀ (n i : Nat) (x0 : A0) (x1 : A1) (x2 : A2) (x3 : A3) (x4 : A4) (x5 : A5) (x6 : A6) (x7 : A7), N - i ≤ n → i ≤ N → I i x0 x1 x2 x3 x4 x5 x6 x7 → LP8 F (n + 1) x0 x1 x2 x3 x4 x5 x6 x7 := by
    intro n
    induction n with
    | zero => exact fun i x0 x1 x2 x3 x4 x5 x6 x7 hn hi hI => hs _ i x0 x1 x2 x3 x4 x5 x6 x7 hi hI (fun y0 y1 y2 y3 y4 y5 y6 y7 hl _ => absurd hl (by omega))
    | succ n ihn => exact fun i x0 x1 x2 x3 x4 x5 x6 x7 hn hi hI => hs _ i x0 x1 x2 x3 x4 x5 x6 x7 hi hI (fun y0 y1 y2 y3 y4 y5 y6 y7 hl hI' => ihn (i + 1) y0 y1 y2 y3 y4 y5 y6 y7 (by omega) (by omega) hI')
  exact ⟨_, key _ i x0 x1 x2 x3 x4 x5 x6 x7 (Nat.le_refl _) hi h⟩
theorem n_1z : nI 1 = 0 ↔ False := by decide
theorem n_0z : nI 0 = 0 ↔ True := by decide
theorem shr_le1 {k i : Nat} (hk : 1 ≤ k) : k / 2 ^ i ≤ 1 ↔ zd k ≤ i := by
  have h := zd_lt (n := i + 1) hk
  rw [Nat.pow_succ] at h
  have h2 : k / 2 ^ i < 2 ↔ k < 2 * 2 ^ i := Nat.div_lt_iff_lt_mul (Nat.two_pow_pos i)
  omega
theorem shr_0 {k i : Nat} (hk : 1 ≤ k) : k / 2 ^ i = 0 ↔ zd k < i := by
  rw [zd_lt hk, Nat.div_eq_zero_iff]
  have := Nat.two_pow_pos i
  omega
theorem shr_lt {k i n : Nat} (hk : k < n) : k / 2 ^ i < n := Nat.lt_of_le_of_lt (Nat.div_le_self _ _) hk
/-! depth, box: the class -/
theorem s_X4_depthOf {σ : St} {k : Nat} {Q : Int32 → Prop} (h1 : 1 ≤ k) (hk : k < 2048) (hQ : Q (nI (zd k))) : wp_X4_depthOf σ (nI k) Q := by
  have hd := zd_le hk h1
  refine LP1_nat 10 (fun i x => x = nI i ∧ i ≤ zd k) ?_ 0 _ (Nat.zero_le _) ⟨rfl, Nat.zero_le _⟩
  rintro ih i _ hi ⟨rfl, hz⟩ hih
  have hs : k / 2 ^ i < 2048 := shr_lt hk
  have hl := shr_le1 (i := i) h1
  unfold wp_X4_depthOf_2
  rw [n_shr (by omega) (by omega)]
  simp (disch := omega) only [forall_eq, forall_eq', n_inT, n_cl, n_lt, n_le, n_eq, n_eq0, n_lt0, n_ge0, n_gt0, n_le0, n_em, n_me, n_add, n_mul, n_00, n_s01, n_1z, n_0z, Nat.one_ne_zero, eq_self, ne_eq, true_and, and_true, true_implies, false_implies, implies_true, not_true_eq_false, not_false_eq_true, false_and, and_false, or_false, false_or, or_true, true_or]
  refine ⟨fun h => ?_, fun h => ⟨fun h2 => hih _ (by omega) ⟨rfl, by omega⟩, fun h2 => ?_⟩⟩
  · rw [show (10 : Nat) = zd k by omega]; exact hQ
  · rw [show i = zd k by omega]; exact hQ
theorem s_X4_wide {σ : St} {k : Nat} {Q : Int32 → Prop} (h1 : 1 ≤ k) (hk : k < 2048) (hQ : Q (nI (zw k))) : wp_X4_wide σ (nI (zd k)) Q := by
  have hd := zd_le hk h1
  unfold wp_X4_wide
  rw [n_add, n_div (by omega) (by decide) (by decide), n_shr (by decide) (by omega)]
  exact hQ
theorem s_X4_high {σ : St} {k : Nat} {Q : Int32 → Prop} (h1 : 1 ≤ k) (hk : k < 2048) (hQ : Q (nI (zh k))) : wp_X4_high σ (nI (zd k)) Q := by
  have hd := zd_le hk h1
  unfold wp_X4_high
  rw [n_div (by omega) (by decide) (by decide), n_shr (by decide) (by omega)]
  exact hQ
theorem s_X4_everyOtherBit {σ : St} {s : Nat} {Q : Int32 → Prop} (hQ : Q (nI (eob s))) : wp_X4_everyOtherBit σ (nI s) Q := by
  have a1 : ∀ x m : Nat, x &&& m ≤ m := fun x m => Nat.and_le_right
  have b1 := a1 s 341
  have b2 := a1 ((s &&& 341) ||| (s &&& 341) / 2 ^ 1) 307
  have b3 := a1 ((((s &&& 341) ||| (s &&& 341) / 2 ^ 1) &&& 307) ||| (((s &&& 341) ||| (s &&& 341) / 2 ^ 1) &&& 307) / 2 ^ 2) 271
  unfold wp_X4_everyOtherBit
  simp only [forall_eq]
  rw [n_and, n_shr (by omega) (by decide), n_or, n_and, n_shr (by omega) (by decide), n_or, n_and, n_shr (by omega) (by decide), n_or, n_and]
  exact hQ
theorem s_X4_leastX {σ : St} {k : Nat} {Q : Int32 → Prop} (h1 : 1 ≤ k) (hk : k < 2048) (hQ : Q (nI (zx k))) : wp_X4_leastX σ (nI k) (nI (zd k)) Q := by
  have hd := zd_le hk h1
  have hp : 2 ^ (10 - zd k) ≤ 2 ^ 10 := Nat.pow_le_pow_right (by decide) (by omega)
  have hm : k * 2 ^ (10 - zd k) ≤ 2048 * 2 ^ 10 := Nat.mul_le_mul (by omega) hp
  unfold wp_X4_leastX
  rw [n_sub hd, n_shl (by omega) (by omega), n_shr (by omega) (by decide)]
  exact s_X4_everyOtherBit hQ
theorem s_X4_leastY {σ : St} {k : Nat} {Q : Int32 → Prop} (h1 : 1 ≤ k) (hk : k < 2048) (hQ : Q (nI (zy k))) : wp_X4_leastY σ (nI k) (nI (zd k)) Q := by
  have hd := zd_le hk h1
  have hp : 2 ^ (10 - zd k) ≤ 2 ^ 10 := Nat.pow_le_pow_right (by decide) (by omega)
  have hm : k * 2 ^ (10 - zd k) ≤ 2048 * 2 ^ 10 := Nat.mul_le_mul (by omega) hp
  unfold wp_X4_leastY
  rw [n_sub hd, n_shl (by omega) (by omega)]
  exact s_X4_everyOtherBit hQ
/-! the zone of a cell -/
def rowIs (f : Nat → Int32) (n : Nat) (g : Nat → Nat) : Prop := ∀ i, i < n → f i = nI (g i)
def OB (o : Nat → Nat) : Prop := (∀ z, z < 2048 → o z ≤ 10) ∧ o 0 = 0
def zatF (o : Nat → Nat) (c : Nat) : Nat → Nat
  | 0 => if o c ≠ 0 then c else 0
  | d + 1 => if o (c / 2 ^ (d + 1)) ≠ 0 then c / 2 ^ (d + 1) else zatF o c d
def zat (o : Nat → Nat) (c : Nat) : Nat := zatF o c 10
theorem zatF_lt {o : Nat → Nat} {c : Nat} (hc : c < 2048) : ∀ d, zatF o c d < 2048
  | 0 => by unfold zatF; split <;> omega
  | d + 1 => by
    unfold zatF
    split
    · exact shr_lt hc
    · exact zatF_lt hc d
theorem cn_or : ∀ x y, x < 32 → y < 32 → (1024 ||| spN x * 2 ^ 1) ||| spN y = cn x y := by
  intro x y hx hy
  have h := allR (allR (n := 32) (p := fun x => (List.range 32).all fun y => decide ((1024 ||| spN x * 2 ^ 1) ||| spN y = cn x y)) (by decide +kernel) hx) hy
  rwa [decide_eq_true_eq] at h
theorem spN_lt : ∀ x, x < 32 → spN x < 512 := by decide +kernel
theorem s_X4_zoneAt {σ : St} {a X Y : Nat} {x y : Int32} {o : Nat → Nat} {Q : Int32 → Prop} (ho : rowIs (σ (a + 1)) 2048 o) (hb : OB o) (hx : x &&& nI 31 = nI X) (hX : X < 32) (hy : y &&& nI 31 = nI Y) (hY : Y < 32) (hQ : Q (nI (zat o (cn X Y)))) : wp_X4_zoneAt σ a x y Q := by
  unfold wp_X4_zoneAt
  rw [hx, hy]
  have hc : spr X <<< (nI 1 &&& 31) = nI (spN X * 2 ^ 1) := by
    rw [show spr X = nI (spN X) from rfl]
    exact n_shl (by decide) (by have := spN_lt X hX; omega)
  have hs : spr Y = nI (spN Y) := rfl
  simp (disch := omega) only [forall_eq, forall_eq', n_inT, n_cl, n_lt, n_le, n_eq, n_eq0, n_lt0, n_ge0, n_gt0, n_le0, n_em, n_me, n_add, n_mul, n_00, n_s01, n_1z, n_0z, Nat.one_ne_zero, eq_self, ne_eq, true_and, and_true, true_implies, false_implies, implies_true, not_true_eq_false, not_false_eq_true, false_and, and_false, or_false, false_or, or_true, true_or]
  rw [hc, hs, n_or, n_or, cn_or X Y hX hY]
  generalize hcc : cn X Y = c at hQ ⊢
  have hcl : c < 2048 := by rw [← hcc]; exact (cn_lt hX hY).2
  refine LP1_nat 11 (fun i x => (i ≤ 10 ∧ x = nI (10 - i) ∧ zat o c = zatF o c (10 - i)) ∨ (i = 11 ∧ x = -1 ∧ zat o c = 0)) ?_ 0 _ (by decide) (Or.inl ⟨by decide, rfl, rfl⟩)
  rintro ih i _ hi (⟨h10, rfl, hz⟩ | ⟨rfl, rfl, hz⟩) hih
  · have hs : c / 2 ^ (10 - i) < 2048 := shr_lt hcl
    have hob := hb.1 _ hs
    unfold wp_X4_zoneAt_28
    rw [n_shr (by omega) (by omega)]
    simp (disch := omega) only [forall_eq, forall_eq', n_inT, n_cl, n_lt, n_le, n_eq, n_eq0, n_lt0, n_ge0, n_gt0, n_le0, n_em, n_me, n_add, n_mul, n_00, n_s01, n_1z, n_0z, Nat.one_ne_zero, eq_self, ne_eq, true_and, and_true, true_implies, false_implies, implies_true, not_true_eq_false, not_false_eq_true, false_and, and_false, or_false, false_or, or_true, true_or]
    rw [ho _ hs]
    simp (disch := omega) only [forall_eq, forall_eq', n_inT, n_cl, n_lt, n_le, n_eq, n_eq0, n_lt0, n_ge0, n_gt0, n_le0, n_em, n_me, n_add, n_mul, n_00, n_s01, n_1z, n_0z, Nat.one_ne_zero, eq_self, ne_eq, true_and, and_true, true_implies, false_implies, implies_true, not_true_eq_false, not_false_eq_true, false_and, and_false, or_false, false_or, or_true, true_or]
    refine ⟨fun h => ?_, fun h => ?_⟩
    · rcases Nat.lt_or_ge i 10 with q | q
      · rw [n_dec (by omega), show 10 - i - 1 = 10 - (i + 1) by omega]
        refine hih _ (by omega) (Or.inl ⟨by omega, rfl, ?_⟩)
        rw [hz, show 10 - i = (10 - (i + 1)) + 1 by omega, zatF, if_neg (by rw [show 10 - (i + 1) + 1 = 10 - i by omega]; simpa using h)]
      · have e : i = 10 := by omega
        subst e
        refine hih _ (by omega) (Or.inr ⟨rfl, by decide, ?_⟩)
        rw [hz]
        have h' : o c = 0 := by simpa using h
        simp [zatF, h']
    · have e : zat o c = c / 2 ^ (10 - i) := by
        rw [hz]
        cases hd : 10 - i with
        | zero => rw [hd] at h; simp only [zatF, Nat.pow_zero, Nat.div_one] at h ⊢; rw [if_pos h]
        | succ d => rw [hd] at h; simp only [zatF]; rw [if_pos h]
      rw [← e]; exact hQ
  · unfold wp_X4_zoneAt_28
    rw [hz] at hQ
    exact ⟨fun _ => hQ, fun h => absurd n_ltm1 h⟩
theorem s_X4_nodeAt {σ : St} {a X Y : Nat} {x y : Int32} {o : Nat → Nat} {Q : Int32 → Prop} (ho : rowIs (σ (a + 1)) 2048 o) (hb : OB o) (hx : x &&& nI 31 = nI X) (hX : X < 32) (hy : y &&& nI 31 = nI Y) (hY : Y < 32) (hQ : Q (nI (o (zat o (cn X Y))) - nI 1)) : wp_X4_nodeAt σ a x y Q := by
  unfold wp_X4_nodeAt
  have hl : zat o (cn X Y) < 2048 := zatF_lt (cn_lt hX hY).2 10
  refine s_X4_zoneAt ho hb hx hX hy hY ?_
  simp (disch := omega) only [forall_eq, forall_eq', n_inT, n_cl, n_lt, n_le, n_eq, n_eq0, n_lt0, n_ge0, n_gt0, n_le0, n_em, n_me, n_add, n_mul, n_00, n_s01, n_1z, n_0z, Nat.one_ne_zero, eq_self, ne_eq, true_and, and_true, true_implies, false_implies, implies_true, not_true_eq_false, not_false_eq_true, false_and, and_false, or_false, false_or, or_true, true_or]
  rw [ho _ hl]
  exact hQ
/-! depth, box: the reference -/
theorem s_X9_depthOf {σ : St} {k : Nat} {Q : Int32 → Prop} (h1 : 1 ≤ k) (hk : k < 2048) (hQ : Q (nI (zd k))) : wp_X9_depthOf σ (nI k) Q := by
  have hd := zd_le hk h1
  refine LP1_nat 10 (fun i x => x = nI i ∧ i ≤ zd k) ?_ 0 _ (Nat.zero_le _) ⟨rfl, Nat.zero_le _⟩
  rintro ih i _ hi ⟨rfl, hz⟩ hih
  have hs : k / 2 ^ (i + 1) < 2048 := shr_lt hk
  have hl := shr_0 (i := i + 1) h1
  unfold wp_X9_depthOf_2
  rw [n_add, n_shr (by omega) (by omega)]
  simp (disch := omega) only [forall_eq, forall_eq', n_inT, n_cl, n_lt, n_le, n_eq, n_eq0, n_lt0, n_ge0, n_gt0, n_le0, n_em, n_me, n_add, n_mul, n_00, n_s01, n_1z, n_0z, Nat.one_ne_zero, eq_self, ne_eq, true_and, and_true, true_implies, false_implies, implies_true, not_true_eq_false, not_false_eq_true, false_and, and_false, or_false, false_or, or_true, true_or]
  refine ⟨fun h => ?_, fun h => hih _ (by omega) ⟨rfl, by omega⟩⟩
  rw [show i = zd k by omega]; exact hQ
theorem s_X9_isIn {σ : St} {x lo hi : Int32} {Q : Int32 → Prop} (h1 : lo ≤ x → x ≤ hi → Q (nI 1)) (h0 : ¬ (lo ≤ x ∧ x ≤ hi) → Q (nI 0)) : wp_X9_isIn σ x lo hi Q := by
  unfold wp_X9_isIn
  refine ⟨fun h => h0 fun q => absurd h (Int32.not_lt.mpr q.1), fun h => ⟨fun h2 => h0 fun q => absurd h2 (Int32.not_lt.mpr q.2), fun h2 => h1 (Int32.not_lt.mp h) (Int32.not_lt.mp h2)⟩⟩
theorem s_X9_isInN {σ : St} {x lo hi : Nat} {Q : Int32 → Prop} (hx : x < 2 ^ 31) (hl : lo < 2 ^ 31) (hh : hi < 2 ^ 31) (h1 : lo ≤ x ∧ x ≤ hi → Q (nI 1)) (h0 : ¬ (lo ≤ x ∧ x ≤ hi) → Q (nI 0)) : wp_X9_isIn σ (nI x) (nI lo) (nI hi) Q := by
  refine s_X9_isIn (fun a b => h1 ⟨(n_le hl hx).mp a, (n_le hx hh).mp b⟩) (fun h => h0 fun q => h ⟨(n_le hl hx).mpr q.1, (n_le hx hh).mpr q.2⟩)
/-- the reference's box, as it stands for a zone -/
def bxr (f : Nat → Int32) (k : Nat) : Nat → Int32 := fun j => if j = 13 then nI (zx k) else if j = 14 then nI (zy k) else if j = 15 then nI (zw k) else if j = 16 then nI (zh k) else f j
abbrev bxs (σ : St) (k : Nat) : St := sr σ 244 (bxr (σ 244) k)
theorem st_ext {σ τ : St} (h : ∀ b j, σ b j = τ b j) : σ = τ := funext fun b => funext fun j => h b j
theorem bxs_twice (σ : St) (k z : Nat) : bxs (bxs σ k) z = bxs σ z := by
  apply st_ext
  intro b j
  by_cases hb : b = 244
  · subst hb
    simp only [sr_same, bxr]
    repeat' split
    all_goals rfl
  · simp only [sr_ne hb]
theorem s_X9_boxes {σ : St} {k : Nat} {Q : St → Prop} (h1 : 1 ≤ k) (hk : k < 2048) (hQ : Q (bxs σ k)) : wp_X9_boxes σ (nI k) Q := by
  have hd := zd_le hk h1
  have hp := zd_pow h1
  unfold wp_X9_boxes
  simp only [forall_eq]
  have e0 : su (su (su (su σ 244 13 (nI 0)) 244 14 (nI 0)) 244 15 (nI 32)) 244 16 (nI 32) = bxs σ 1 := by
    apply st_ext
    intro b j
    by_cases hb : b = 244
    · subst hb
      simp only [sr_same, bxr, upd, zx_1, zy_1, zw_1, zh_1]
      by_cases e1 : j = 13 <;> by_cases e2 : j = 14 <;> by_cases e3 : j = 15 <;> by_cases e4 : j = 16 <;> simp [e1, e2, e3, e4] <;> omega
    · simp only [sr_ne hb]
  rw [e0]
  refine s_X9_depthOf h1 hk ?_
  have key : ∀ d, d ≤ zd k → zd (k / 2 ^ d) = zd k - d ∧ 1 ≤ k / 2 ^ d := by
    intro d hd'
    have a1 : 2 ^ (zd k - d) * 2 ^ d = 2 ^ zd k := by rw [← Nat.pow_add]; congr 1; omega
    have a2 : 2 ^ (zd k - d + 1) * 2 ^ d = 2 ^ (zd k + 1) := by rw [← Nat.pow_add]; congr 1; omega
    have q1 : 2 ^ (zd k - d) ≤ k / 2 ^ d := (Nat.le_div_iff_mul_le (Nat.two_pow_pos d)).mpr (by rw [a1]; exact hp.1)
    have q2 : k / 2 ^ d < 2 ^ (zd k - d + 1) := (Nat.div_lt_iff_lt_mul (Nat.two_pow_pos d)).mpr (by rw [a2]; exact hp.2)
    exact ⟨zd_eq q1 q2, Nat.le_trans Nat.one_le_two_pow q1⟩
  refine LP2_nat (zd k) (fun i τ x => τ = bxs σ (k / 2 ^ (zd k - i)) ∧ x = nI (zd k - i) - nI 1) ?_ 0 _ _ (Nat.zero_le _) ⟨?_, rfl⟩
  · rintro ih i _ _ hi ⟨rfl, rfl⟩ hih
    unfold wp_X9_boxes_29
    rcases Nat.lt_or_ge i (zd k) with q | q
    · obtain ⟨d, hdd⟩ : ∃ d, zd k - i = d + 1 := ⟨zd k - i - 1, by omega⟩
      obtain ⟨kz, k1⟩ := key (d + 1) (by omega)
      obtain ⟨kz', k1'⟩ := key d (by omega)
      have hzz : k / 2 ^ d / 2 = k / 2 ^ (d + 1) := by rw [Nat.pow_succ, Nat.div_div_eq_div_mul]
      have hg := geo_rec (k / 2 ^ d) (shr_lt hk) (by rw [Nat.pow_succ, ← Nat.div_div_eq_div_mul] at k1; omega)
      have hbx := geo_box (k / 2 ^ (d + 1)) (shr_lt hk) k1
      rw [hzz] at hg
      have hsl := shr_lt (i := d) hk
      rw [hdd, n_sub (by omega), Nat.add_sub_cancel]
      simp (disch := omega) only [forall_eq, forall_eq', n_inT, n_cl, n_lt, n_le, n_eq, n_eq0, n_lt0, n_ge0, n_gt0, n_le0, n_em, n_me, n_add, n_mul, n_00, n_s01, n_1z, n_0z, Nat.one_ne_zero, eq_self, ne_eq, true_and, and_true, true_implies, false_implies, implies_true, not_true_eq_false, not_false_eq_true, false_and, and_false, or_false, false_or, or_true, true_or]
      refine s_X9_depthOf h1 hk ?_
      rw [n_sub (by omega), n_sub (by omega), n_rem (by omega) (by decide) (by decide), n_shr (by omega) (by omega), n_and, Nat.and_one_is_mod]
      have epar : (zd k - 1 - d) % 2 = zd (k / 2 ^ (d + 1)) % 2 := by rw [kz]; congr 1; omega
      rw [epar]
      have hm2 : k / 2 ^ d % 2 ≤ 1 := by omega
      have hend : ∀ τ : St, τ = bxs σ (k / 2 ^ d) → ih τ (nI d + (-1)) := by
        intro τ hτ
        refine hih _ _ q ⟨by rw [hτ, show zd k - (i + 1) = d by omega], ?_⟩
        rw [show zd k - (i + 1) = d by omega]
        cases d with
        | zero => decide
        | succ d => rw [n_dec (by omega), n_sub (by omega)]
      simp (disch := omega) only [forall_eq, forall_eq', n_inT, n_cl, n_lt, n_le, n_eq, n_eq0, n_lt0, n_ge0, n_gt0, n_le0, n_em, n_me, n_add, n_mul, n_00, n_s01, n_1z, n_0z, Nat.one_ne_zero, eq_self, ne_eq, true_and, and_true, true_implies, false_implies, implies_true, not_true_eq_false, not_false_eq_true, false_and, and_false, or_false, false_or, or_true, true_or]
      refine ⟨fun hodd => hend _ ?_, fun hev => hend _ ?_⟩
      · have ho : ¬ zd (k / 2 ^ (d + 1)) % 2 = 0 := hodd
        rw [if_neg ho, if_neg ho, if_neg ho, if_neg ho] at hg
        obtain ⟨-, g1, g2, g3, g4⟩ := hg
        apply st_ext
        intro b j
        by_cases hb : b = 244
        · subst hb
          simp only [sr_same, bxr, upd, g1, g2, g3, g4]
          by_cases e1 : j = 13 <;> by_cases e2 : j = 14 <;> by_cases e3 : j = 15 <;> by_cases e4 : j = 16 <;> simp [e1, e2, e3, e4] <;> first | omega | skip
          · rw [n_div (by omega) (by decide) (by decide), n_mul, n_add]
          · rw [n_div (by omega) (by decide) (by decide)]
        · simp only [sr_ne hb]
      · rw [if_pos hev, if_pos hev, if_pos hev, if_pos hev] at hg
        obtain ⟨-, g1, g2, g3, g4⟩ := hg
        apply st_ext
        intro b j
        by_cases hb : b = 244
        · subst hb
          simp only [sr_same, bxr, upd, g1, g2, g3, g4]
          by_cases e1 : j = 13 <;> by_cases e2 : j = 14 <;> by_cases e3 : j = 15 <;> by_cases e4 : j = 16 <;> simp [e1, e2, e3, e4] <;> first | omega | skip
          · rw [n_div (by omega) (by decide) (by decide), n_mul, n_add]
          · rw [n_div (by omega) (by decide) (by decide)]
        · simp only [sr_ne hb]
    · have e : i = zd k := by omega
      subst e
      rw [Nat.sub_self, Nat.pow_zero, Nat.div_one, n_s01]
      exact ⟨fun _ => hQ, fun h => absurd n_ltm1 h⟩
  · rw [Nat.sub_zero, (Nat.div_eq_of_lt_le (k := 1) (by omega) (by rw [Nat.pow_succ] at hp; omega))]
