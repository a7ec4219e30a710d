/-! AN ACT: by what it is refused, what it makes of the row, what it answers -/
def nxt (f : Nat → Int32) : Nat := (List.range 10).findIdx (fun n => gst f n == 0)
theorem nxt_le (f : Nat → Int32) : nxt f ≤ 10 := by
  have h := List.findIdx_le_length (p := fun n => gst f n == 0) (xs := List.range 10)
  rw [List.length_range] at h
  exact h
theorem nxt_lt {f : Nat → Int32} (h : nxt f < 10) : gst f (nxt f) = 0 ∧ ∀ m, m < nxt f → gst f m ≠ 0 := by
  unfold nxt at h ⊢
  have h1 : List.findIdx (fun n => gst f n == 0) (List.range 10) < (List.range 10).length := by rw [List.length_range]; exact h
  refine ⟨?_, fun m hm => ?_⟩
  · have := List.findIdx_getElem (w := h1)
    have e : (List.range 10)[List.findIdx (fun n => gst f n == 0) (List.range 10)]'h1 = List.findIdx (fun n => gst f n == 0) (List.range 10) := List.getElem_range h1
    have h3 : gst f ((List.range 10)[List.findIdx (fun n => gst f n == 0) (List.range 10)]'h1) = 0 := by simpa using this
    rw [e] at h3
    exact h3
  · have := List.not_of_lt_findIdx hm
    rw [List.getElem_range] at this
    simpa using this
theorem nxt_10 {f : Nat → Int32} (h : nxt f = 10) : ∀ m, m < 10 → gst f m ≠ 0 := fun m hm => by
  have := List.not_of_lt_findIdx (p := fun n => gst f n == 0) (xs := List.range 10) (show m < nxt f by omega)
  rw [List.getElem_range] at this
  simpa using this
def jdeepB (f : Nat → Int32) (x y : Nat) : Bool := (List.range (gR f)).any (fun r => decide (1024 ≤ zat (gow f r) (cc x y r)))
def jdeadB (f : Nat → Int32) (x y : Nat) : Bool := (List.range (gR f)).any (fun r => decide (gow f r (zat (gow f r) (cc x y r)) ≠ 0 ∧ gst f (gow f r (zat (gow f r) (cc x y r)) - 1) = 2))
theorem jdeepB_iff {f : Nat → Int32} {x y : Nat} : jdeepB f x y = true ↔ jdeep f x y (gR f) := by
  unfold jdeepB jdeep
  simp only [List.any_eq_true, List.mem_range, decide_eq_true_eq]
theorem jdeadB_iff {f : Nat → Int32} {x y : Nat} : jdeadB f x y = true ↔ jdead f x y (gR f) := by
  unfold jdeadB jdead
  simp only [List.any_eq_true, List.mem_range, decide_eq_true_eq]
  constructor
  · rintro ⟨r, hr, h1, h2⟩
    exact ⟨r, hr, _, by omega, h2⟩
  · rintro ⟨r, hr, p, h1, h2⟩
    exact ⟨r, hr, by omega, by rw [h1, Nat.add_sub_cancel]; exact h2⟩
def jcode (f : Nat → Int32) (x y : Nat) : Nat := if nxt f = 10 then 1 else if jdeepB f x y = true then 2 else if jdeadB f x y = true then 3 else 0
theorem jcode_0 {f : Nat → Int32} {x y : Nat} (h : jcode f x y = 0) : nxt f < 10 ∧ ¬ jdeep f x y (gR f) := by
  have := nxt_le f
  unfold jcode at h
  by_cases c : nxt f = 10
  · rw [if_pos c] at h; omega
  · rw [if_neg c] at h
    refine ⟨by omega, fun q => ?_⟩
    rw [if_pos (jdeepB_iff.mpr q)] at h
    omega
def acode (f : Nat → Int32) (k a b c d : Nat) : Nat := match k with
  | 0 => 0
  | 1 => if gK f = 3 then 10 else 0
  | 2 => jcode f c d
  | 3 => jcode f (nrx f a b) ((a + b) % 32)
  | 4 => if gst f a ≠ 1 then 4 else if mgB (gst f) a then 0 else 6
  | 5 => if gst f a ≠ 1 then 4 else 0
  | 6 => if gst f a ≠ 2 then 5 else if mgB (gst f) a then 0 else 6
  | 7 => if cntS (gst f) 2 10 ≠ 0 then 7 else 0
  | 8 => if wth f a = 0 then 8 else 0
  | 9 => if gsd f a = 0 then 9 else 0
  | _ => 0
def arow (f : Nat → Int32) (k a b c d : Nat) : Nat → Int32 := match k with
  | 0 => nrow f a
  | 1 => krow f a b
  | 2 => jrow f (nxt f) a b c d
  | 3 => jrow f (nxt f) a b (nrx f a b) ((a + b) % 32)
  | 4 => lrow f a
  | 5 => crow f a
  | 6 => lrow f a
  | 7 => trow f
  | 8 => prow f a b
  | 9 => crw f a
  | _ => mrow f
def aans (f : Nat → Int32) (k a b c d : Nat) : Nat := match k with
  | 0 => a
  | 1 => gK f + 1
  | 2 => nxt f
  | 3 => nxt f
  | 4 => cntS (setO (gst f) a 0) 1 10
  | 5 => cntS (setO (gst f) a 2) 1 10
  | 6 => cntS (setO (gst f) a 0) 1 10
  | 7 => fwr f (gR f)
  | 8 => wth f a
  | 9 => gva f a
  | _ => lckA f 100
def aarg (k a b c d : Nat) : Prop := match k with
  | 0 => 1 ≤ a ∧ a ≤ 3
  | 1 => a < 100 ∧ b < 100
  | 2 => a < 100 ∧ b < 100 ∧ c < 32 ∧ d < 32
  | 3 => a < 100 ∧ b < 100
  | 4 => a < 10
  | 5 => a < 10
  | 6 => a < 10
  | 7 => True
  | 8 => a < 100 ∧ b < 1000
  | 9 => a < 100
  | _ => True
theorem kinds {k : Nat} (h : k ≤ 10) : k = 0 ∨ k = 1 ∨ k = 2 ∨ k = 3 ∨ k = 4 ∨ k = 5 ∨ k = 6 ∨ k = 7 ∨ k = 8 ∨ k = 9 ∨ k = 10 := by omega
theorem acode_le (f : Nat → Int32) {k : Nat} (hk : k ≤ 10) (a b c d : Nat) : acode f k a b c d ≤ 10 := by
  have hj : ∀ x y, jcode f x y ≤ 3 := fun x y => by unfold jcode; split <;> (try split) <;> (try split) <;> omega
  rcases kinds hk with rfl | rfl | rfl | rfl | rfl | rfl | rfl | rfl | rfl | rfl | rfl
  · exact Nat.zero_le _
  · show (if _ then 10 else 0) ≤ 10
    split <;> omega
  · have := hj c d; exact Nat.le_trans this (by decide)
  · have := hj (nrx f a b) ((a + b) % 32); exact Nat.le_trans this (by decide)
  · show (if _ then 4 else if _ then 0 else 6) ≤ 10
    split <;> (try split) <;> omega
  · show (if _ then 4 else 0) ≤ 10
    split <;> omega
  · show (if _ then 5 else if _ then 0 else 6) ≤ 10
    split <;> (try split) <;> omega
  · show (if _ then 7 else 0) ≤ 10
    split <;> omega
  · show (if _ then 8 else 0) ≤ 10
    split <;> omega
  · show (if _ then 9 else 0) ≤ 10
    split <;> omega
  · exact Nat.zero_le _
theorem ite0 {p : Prop} [inst : Decidable p] {n : Nat} (hn : n ≠ 0) (h : (if p then n else 0) = 0) : ¬ p := fun q => by rw [if_pos q] at h; exact hn h
theorem arow_good {f : Nat → Int32} (hf : Good f) {k a b c d : Nat} (hk : k ≤ 10) (ha : aarg k a b c d) (h0 : acode f k a b c d = 0) : Good (arow f k a b c d) := by
  have hK := hf.1.2.2.1.2
  have h2 : ∀ n, n < 10 → gst f n ≤ 2 := fun n hn => (hf.1.1 n hn).2
  rcases kinds hk with rfl | rfl | rfl | rfl | rfl | rfl | rfl | rfl | rfl | rfl | rfl
  · exact nrow_good f ha.1 ha.2
  · have := ite0 (by decide) h0
    exact krow_good hf (by omega) ha.1 ha.2
  · obtain ⟨n1, n2⟩ := jcode_0 h0
    exact jrow_good hf n1 (nxt_lt n1).1 ha.1 ha.2.1 n2
  · obtain ⟨n1, n2⟩ := jcode_0 h0
    exact jrow_good hf n1 (nxt_lt n1).1 ha.1 ha.2 n2
  · have h0' : (if gst f a ≠ 1 then 4 else if mgB (gst f) a then 0 else 6) = 0 := h0
    by_cases e : gst f a ≠ 1
    · rw [if_pos e] at h0'; omega
    · rw [if_neg e] at h0'
      have e' : gst f a = 1 := Classical.not_not.mp e
      cases em : mgB (gst f) a with
      | true => exact lrow_good hf ha (by omega) (mgB_iff.mp em)
      | false => rw [em, if_neg (by decide)] at h0'; omega
  · have h0' := ite0 (by decide) h0
    have e' : gst f a = 1 := Classical.not_not.mp h0'
    exact crow_good hf ha (by omega)
  · have h0' : (if gst f a ≠ 2 then 5 else if mgB (gst f) a then 0 else 6) = 0 := h0
    by_cases e : gst f a ≠ 2
    · rw [if_pos e] at h0'; omega
    · rw [if_neg e] at h0'
      have e' : gst f a = 2 := Classical.not_not.mp e
      cases em : mgB (gst f) a with
      | true => exact lrow_good hf ha (by omega) (mgB_iff.mp em)
      | false => rw [em, if_neg (by decide)] at h0'; omega
  · exact trow_good hf
  · exact prow_good hf ha.1 ha.2
  · exact crw_good hf ha
  · exact mrow_good hf
/-! the class -/
theorem s_X1_jref {σ : St} {A x y : Nat} {f : Nat → Int32} {Q : Int32 → Prop} (h : NetRep σ A f) (hf : Good f) (hx : x < 1000) (hy : y < 1000) (hQ : Q (nI (jcode f x y))) : wp_X1_refusalOfJoin σ A (nI x) (nI y) Q := by
  unfold jcode at hQ
  by_cases c : nxt f = 10
  · rw [if_pos c] at hQ
    exact s_X1_refusalOfJoin_no h hf (nxt_10 c) hQ
  · have hl := nxt_le f
    rw [if_neg c] at hQ
    obtain ⟨n1, n2⟩ := nxt_lt (show nxt f < 10 by omega)
    refine s_X1_refusalOfJoin h hf hx hy (show nxt f < 10 by omega) n1 n2 (fun q => ?_) (fun q1 q2 => ?_) (fun q1 q2 => ?_)
    · rw [if_pos (jdeepB_iff.mpr q)] at hQ; exact hQ
    · rw [if_neg (fun t => q1 (jdeepB_iff.mp t)), if_pos (jdeadB_iff.mpr q2)] at hQ; exact hQ
    · rw [if_neg (fun t => q1 (jdeepB_iff.mp t)), if_neg (fun t => q2 (jdeadB_iff.mp t))] at hQ; exact hQ
/-- what the act's cells tell -/
def ActIs (σ : St) (k a b c d : Nat) : Prop := σ 4 1 = nI k ∧ σ 5 0 = nI a ∧ σ 5 1 = nI b ∧ σ 5 2 = nI c ∧ σ 5 3 = nI d
theorem s_X1_refusalOf {σ : St} {A k a b c d : Nat} {f : Nat → Int32} {Q : Int32 → Prop} (h : NetRep σ A f) (hf : Good f) (hA : ActIs σ k a b c d) (hk : k ≤ 10) (ha : aarg k a b c d) (hQ : Q (nI (acode f k a b c d))) : wp_X1_refusalOf σ A Q := by
  obtain ⟨g0, g1, g2, g3, g4⟩ := hA
  have hK := hf.1.2.2.1.2
  unfold wp_X1_refusalOf
  intro q hq
  rw [hq, g0, g1, g2, g3, g4]
  rcases kinds hk with rfl | rfl | rfl | rfl | rfl | rfl | rfl | rfl | rfl | rfl | rfl
  · simp (disch := omega) only [show ((0 : Nat) = 1) = False by decide, show ((0 : Nat) = 2) = False by decide, show ((0 : Nat) = 3) = False by decide, show ((0 : Nat) = 4) = False by decide, show ((0 : Nat) = 5) = False by decide, show ((0 : Nat) = 6) = False by decide, show ((0 : Nat) = 7) = False by decide, show ((0 : Nat) = 8) = False by decide, show ((0 : Nat) = 9) = False by decide, forall_eq, forall_eq', n_inT, n_cl, n_lt, n_le, n_eq, n_eq0, n_lt0, n_ge0, n_gt0, n_le0, n_em, n_me, n_add, n_mul, n_00, n_s01, n_1z, n_0z, Nat.one_ne_zero, eq_self, ne_eq, true_and, and_true, true_implies, false_implies, implies_true, not_true_eq_false, not_false_eq_true, false_and, and_false, or_false, false_or, or_true, true_or]
    exact hQ
  · refine ⟨fun _ => ?_, fun t => absurd rfl t⟩
    have hQ' : Q (nI (if gK f = 3 then 10 else 0)) := hQ
    rw [h.ma, n_le (by decide) (by omega)]
    refine ⟨fun c => ?_, fun c => ?_⟩
    · rw [if_pos (by omega)] at hQ'; exact hQ'
    · rw [if_neg (by omega)] at hQ'; exact hQ'
  · refine ⟨fun t => absurd t (by decide), fun _ => ⟨fun _ => ?_, fun t => absurd rfl t⟩⟩
    exact s_X1_jref h hf (by have := ha.2.2.1; omega) (by have := ha.2.2.2; omega) hQ
  · refine ⟨fun t => absurd t (by decide), fun _ => ⟨fun t => absurd t (by decide), fun _ => ⟨fun _ => ?_, fun t => absurd rfl t⟩⟩⟩
    refine s_X1_nearX h hf.1 ha.1 ha.2 (s_X1_nearY ?_)
    have := nrx_lt hf.1 a b
    exact s_X1_jref h hf (by omega) (by omega) hQ
  · have hQ' : Q (nI (if gst f a ≠ 1 then 4 else if mgB (gst f) a then 0 else 6)) := hQ
    have ha' : a < 10 := ha
    have h2 := (hf.1.1 a ha').2
    refine ⟨fun t => absurd t (by decide), fun _ => ⟨fun t => absurd t (by decide), fun _ => ⟨fun t => absurd t (by decide), fun _ => ⟨fun _ => ⟨n_in ha' (by decide), ?_⟩, fun t => absurd rfl t⟩⟩⟩⟩
    rw [n_cl (by omega), h.st a ha', n_eq (by omega) (by decide)]
    refine ⟨fun c => s_X1_refusalOfHanding h hf.1 ha' ?_, fun c => ?_⟩
    · rw [if_neg (by omega)] at hQ'; exact hQ'
    · rw [if_pos c] at hQ'; exact hQ'
  · have hQ' : Q (nI (if gst f a ≠ 1 then 4 else 0)) := hQ
    have ha' : a < 10 := ha
    have h2 := (hf.1.1 a ha').2
    refine ⟨fun t => absurd t (by decide), fun _ => ⟨fun t => absurd t (by decide), fun _ => ⟨fun t => absurd t (by decide), fun _ => ⟨fun t => absurd t (by decide), fun _ => ⟨fun _ => ⟨n_in ha' (by decide), ?_⟩, fun t => absurd rfl t⟩⟩⟩⟩⟩
    rw [n_cl (by omega), h.st a ha', n_eq (by omega) (by decide)]
    refine ⟨fun c => ?_, fun c => ?_⟩
    · rw [if_neg (by omega)] at hQ'; exact hQ'
    · rw [if_pos c] at hQ'; exact hQ'
  · have hQ' : Q (nI (if gst f a ≠ 2 then 5 else if mgB (gst f) a then 0 else 6)) := hQ
    have ha' : a < 10 := ha
    have h2 := (hf.1.1 a ha').2
    refine ⟨fun t => absurd t (by decide), fun _ => ⟨fun t => absurd t (by decide), fun _ => ⟨fun t => absurd t (by decide), fun _ => ⟨fun t => absurd t (by decide), fun _ => ⟨fun t => absurd t (by decide), fun _ => ⟨fun _ => ⟨n_in ha' (by decide), ?_⟩, fun t => absurd rfl t⟩⟩⟩⟩⟩⟩
    rw [n_cl (by omega), h.st a ha', n_eq (by omega) (by decide)]
    refine ⟨fun c => s_X1_refusalOfHanding h hf.1 ha' ?_, fun c => ?_⟩
    · rw [if_neg (by omega)] at hQ'; exact hQ'
    · rw [if_pos c] at hQ'; exact hQ'
  · have hQ' : Q (nI (if cntS (gst f) 2 10 ≠ 0 then 7 else 0)) := hQ
    refine ⟨fun t => absurd t (by decide), fun _ => ⟨fun t => absurd t (by decide), fun _ => ⟨fun t => absurd t (by decide), fun _ => ⟨fun t => absurd t (by decide), fun _ => ⟨fun t => absurd t (by decide), fun _ => ⟨fun t => absurd t (by decide), fun _ => ⟨fun _ => ?_, fun t => absurd rfl t⟩⟩⟩⟩⟩⟩⟩
    refine s_X1_nodesThatAre h.st (fun n hn => (hf.1.1 n hn).2) (by decide) ?_
    have hb := bits_lt (gst f) 2
    have e : bits (gst f) 2 = 0 ↔ cntS (gst f) 2 10 = 0 := by
      rw [← pc_bits _ _ 10 (by decide)]
      have : ∀ m, m < 1024 → (m = 0 ↔ pc m 10 = 0) := by decide +kernel
      exact this _ hb
    rw [n_eq0 (by omega), e]
    refine ⟨fun c => ?_, fun c => ?_⟩
    · rw [if_neg (by omega)] at hQ'; exact hQ'
    · rw [if_pos c] at hQ'; exact hQ'
  · have hQ' : Q (nI (if wth f a = 0 then 8 else 0)) := hQ
    refine ⟨fun t => absurd t (by decide), fun _ => ⟨fun t => absurd t (by decide), fun _ => ⟨fun t => absurd t (by decide), fun _ => ⟨fun t => absurd t (by decide), fun _ => ⟨fun t => absurd t (by decide), fun _ => ⟨fun t => absurd t (by decide), fun _ => ⟨fun t => absurd t (by decide), fun _ => ⟨fun _ => ?_, fun t => absurd rfl t⟩⟩⟩⟩⟩⟩⟩⟩
    refine s_X1_realitiesWithin h.re h.st h.sp hf ha.1 ?_
    have hw := wth_lt hf.1.2.2.2.2.1.2.2 a
    rw [n_eq0 (by omega)]
    refine ⟨fun c => ?_, fun c => ?_⟩
    · rw [if_neg c] at hQ'; exact hQ'
    · rw [if_pos c] at hQ'; exact hQ'
  · have hQ' : Q (nI (if gsd f a = 0 then 9 else 0)) := hQ
    have ha' : a < 100 := ha
    have h6 := (hf.1.2.2.2.2.2.1 a ha').2
    refine ⟨fun t => absurd t (by decide), fun _ => ⟨fun t => absurd t (by decide), fun _ => ⟨fun t => absurd t (by decide), fun _ => ⟨fun t => absurd t (by decide), fun _ => ⟨fun t => absurd t (by decide), fun _ => ⟨fun t => absurd t (by decide), fun _ => ⟨fun t => absurd t (by decide), fun _ => ⟨fun t => absurd t (by decide), fun _ => ⟨fun _ => ⟨n_in ha' (by decide), ?_⟩, fun t => absurd rfl t⟩⟩⟩⟩⟩⟩⟩⟩⟩
    rw [n_cl (by omega), h.va a ha']
    by_cases c : gsd f a = 1
    · have h7 := (hf.1.2.2.2.2.2.2.1 a ha' c).2
      rw [if_neg (by omega)] at hQ'
      rw [if_pos c, n_em (by omega)]
      exact ⟨fun _ => hQ', fun t => t.elim⟩
    · rw [if_pos (by omega)] at hQ'
      rw [if_neg c]
      exact ⟨fun t => absurd rfl t, fun _ => hQ'⟩
  · refine ⟨fun t => absurd t (by decide), fun _ => ⟨fun t => absurd t (by decide), fun _ => ⟨fun t => absurd t (by decide), fun _ => ⟨fun t => absurd t (by decide), fun _ => ⟨fun t => absurd t (by decide), fun _ => ⟨fun t => absurd t (by decide), fun _ => ⟨fun t => absurd t (by decide), fun _ => ⟨fun t => absurd t (by decide), fun _ => ⟨fun t => absurd t (by decide), fun _ => hQ⟩⟩⟩⟩⟩⟩⟩⟩⟩
theorem s_X1_perform {σ : St} {A k a b c d : Nat} {f : Nat → Int32} {Q : Int32 → St → Prop} (h : NetRep σ A f) (hf : Good f) (hA : ActIs σ k a b c d) (hA5 : A > 8) (hk : k ≤ 10) (ha : aarg k a b c d) (h0 : acode f k a b c d = 0)
    (hQ : ∀ τ, Nf A σ τ → NetRep τ A (arow f k a b c d) → Q (nI (aans f k a b c d)) τ) : wp_X1_perform σ A Q := by
  obtain ⟨g0, g1, g2, g3, g4⟩ := hA
  have hK := hf.1.2.2.1.2
  unfold wp_X1_perform
  intro q hq
  rw [hq, g0, g1, g2, g3, g4]
  rcases kinds hk with rfl | rfl | rfl | rfl | rfl | rfl | rfl | rfl | rfl | rfl | rfl
  · refine ⟨fun _ => ?_, fun t => absurd rfl t⟩
    exact s_X1_startAnew (f := f) ha.1 ha.2 hQ
  · refine ⟨fun t => absurd t (by decide), fun _ => ⟨fun _ => ?_, fun t => absurd rfl t⟩⟩
    have := ite0 (by decide) h0
    exact s_X1_addLandmark h hf (by omega) ha.1 ha.2 hQ
  · refine ⟨fun t => absurd t (by decide), fun _ => ⟨fun t => absurd t (by decide), fun _ => ⟨fun _ => ?_, fun t => absurd rfl t⟩⟩⟩
    obtain ⟨n1, n2⟩ := jcode_0 h0
    exact s_X1_letIn h hf (by have := ha.2.2.1; omega) (by have := ha.2.2.2; omega) ha.1 ha.2.1 n1 (nxt_lt n1).1 (nxt_lt n1).2 n2 hQ
  · refine ⟨fun t => absurd t (by decide), fun _ => ⟨fun t => absurd t (by decide), fun _ => ⟨fun t => absurd t (by decide), fun _ => ⟨fun _ => ?_, fun t => absurd rfl t⟩⟩⟩⟩
    refine s_X1_nearX h hf.1 ha.1 ha.2 (s_X1_nearY ?_)
    have := nrx_lt hf.1 a b
    obtain ⟨n1, n2⟩ := jcode_0 h0
    exact s_X1_letIn h hf (by omega) (by omega) ha.1 ha.2 n1 (nxt_lt n1).1 (nxt_lt n1).2 n2 hQ
  · refine ⟨fun t => absurd t (by decide), fun _ => ⟨fun t => absurd t (by decide), fun _ => ⟨fun t => absurd t (by decide), fun _ => ⟨fun t => absurd t (by decide), fun _ => ⟨fun _ => ?_, fun t => absurd rfl t⟩⟩⟩⟩⟩
    unfold wp_X1_perform_131
    rw [g1]
    have h0' : (if gst f a ≠ 1 then 4 else if mgB (gst f) a then 0 else 6) = 0 := h0
    by_cases e : gst f a ≠ 1
    · rw [if_pos e] at h0'; omega
    · rw [if_neg e] at h0'
      have e' : gst f a = 1 := Classical.not_not.mp e
      cases em : mgB (gst f) a with
      | true => exact s_X1_letGo h hf ha (by omega) (mgB_iff.mp em) hQ
      | false => rw [em, if_neg (by decide)] at h0'; omega
  · refine ⟨fun t => absurd t (by decide), fun _ => ⟨fun t => absurd t (by decide), fun _ => ⟨fun t => absurd t (by decide), fun _ => ⟨fun t => absurd t (by decide), fun _ => ⟨fun t => absurd t (by decide), fun _ => ⟨fun _ => ?_, fun t => absurd rfl t⟩⟩⟩⟩⟩⟩
    have h0' := ite0 (by decide) h0
    have e' : gst f a = 1 := Classical.not_not.mp h0'
    exact s_X1_letDie h hf ha (by omega) hQ
  · refine ⟨fun t => absurd t (by decide), fun _ => ⟨fun t => absurd t (by decide), fun _ => ⟨fun t => absurd t (by decide), fun _ => ⟨fun t => absurd t (by decide), fun _ => ⟨fun t => absurd t (by decide), fun _ => ⟨fun t => absurd t (by decide), fun _ => ⟨fun _ => ?_, fun t => absurd rfl t⟩⟩⟩⟩⟩⟩⟩
    unfold wp_X1_perform_131
    rw [g1]
    have h0' : (if gst f a ≠ 2 then 5 else if mgB (gst f) a then 0 else 6) = 0 := h0
    by_cases e : gst f a ≠ 2
    · rw [if_pos e] at h0'; omega
    · rw [if_neg e] at h0'
      have e' : gst f a = 2 := Classical.not_not.mp e
      cases em : mgB (gst f) a with
      | true => exact s_X1_letGo h hf ha (by omega) (mgB_iff.mp em) hQ
      | false => rw [em, if_neg (by decide)] at h0'; omega
  · refine ⟨fun t => absurd t (by decide), fun _ => ⟨fun t => absurd t (by decide), fun _ => ⟨fun t => absurd t (by decide), fun _ => ⟨fun t => absurd t (by decide), fun _ => ⟨fun t => absurd t (by decide), fun _ => ⟨fun t => absurd t (by decide), fun _ => ⟨fun t => absurd t (by decide), fun _ => ⟨fun _ => ?_, fun t => absurd rfl t⟩⟩⟩⟩⟩⟩⟩⟩
    exact s_X1_tidyAll h hf hQ
  · refine ⟨fun t => absurd t (by decide), fun _ => ⟨fun t => absurd t (by decide), fun _ => ⟨fun t => absurd t (by decide), fun _ => ⟨fun t => absurd t (by decide), fun _ => ⟨fun t => absurd t (by decide), fun _ => ⟨fun t => absurd t (by decide), fun _ => ⟨fun t => absurd t (by decide), fun _ => ⟨fun t => absurd t (by decide), fun _ => ⟨fun _ => ⟨n_in ha.1 (by decide), fun σ1 hσ1 => ?_⟩, fun t => absurd rfl t⟩⟩⟩⟩⟩⟩⟩⟩⟩
    have ha1 := ha.1
    rw [n_cl (by omega)] at hσ1
    have s1 : ∀ b, b ≠ A + 7 → σ1 b = σ b := fun b hb => by rw [hσ1, su_ne hb]
    have t5 : σ1 5 0 = nI a := by rw [s1 5 (by omega)]; exact g1
    rw [t5]
    refine s_X1_realitiesWithin (f := f) (by rw [s1 _ (by omega)]; exact h.re) (by rw [s1 _ (by omega)]; exact h.st) (fun r hr => (h.sp r hr).congr (s1 _ (by omega)) (s1 _ (by omega)) (s1 _ (by omega))) hf ha.1 ?_
    refine ⟨n_in ha.1 (by decide), fun σ2 hσ2 => ?_⟩
    rw [n_cl (by omega)] at hσ2
    have u5 : σ2 5 0 = nI a := by rw [hσ2, su_ne (by omega)]; exact t5
    rw [u5, n_cl (by omega)]
    refine ⟨n_in ha.1 (by decide), ?_⟩
    have e8 : ∀ j, σ2 (A + 8) j = if j = a then nI (wth f a) else σ (A + 8) j := fun j => by rw [hσ2, su_at, s1 _ (by omega)]
    rw [e8, if_pos rfl]
    refine hQ σ2 (fun b hb => by rw [hσ2, su_ne (by omega), hσ1, su_ne (by omega)]) ?_
    exact s_put_rep h hf ha.1 ha.2 (fun b b1 b2 => by rw [hσ2, su_ne b2, hσ1, su_ne b1]) (fun j => by rw [hσ2, su_ne (by omega), hσ1, su_at]) e8
  · refine ⟨fun t => absurd t (by decide), fun _ => ⟨fun t => absurd t (by decide), fun _ => ⟨fun t => absurd t (by decide), fun _ => ⟨fun t => absurd t (by decide), fun _ => ⟨fun t => absurd t (by decide), fun _ => ⟨fun t => absurd t (by decide), fun _ => ⟨fun t => absurd t (by decide), fun _ => ⟨fun t => absurd t (by decide), fun _ => ⟨fun t => absurd t (by decide), fun _ => ⟨fun _ => ?_, fun t => absurd rfl t⟩⟩⟩⟩⟩⟩⟩⟩⟩⟩
    have h0' := ite0 (by decide) h0
    have ha' : a < 100 := ha
    have h6 := (hf.1.2.2.2.2.2.1 a ha').2
    exact s_X1_cutOut h hf ha' (by omega) hQ
  · refine ⟨fun t => absurd t (by decide), fun _ => ⟨fun t => absurd t (by decide), fun _ => ⟨fun t => absurd t (by decide), fun _ => ⟨fun t => absurd t (by decide), fun _ => ⟨fun t => absurd t (by decide), fun _ => ⟨fun t => absurd t (by decide), fun _ => ⟨fun t => absurd t (by decide), fun _ => ⟨fun t => absurd t (by decide), fun _ => ⟨fun t => absurd t (by decide), fun _ => ⟨fun t => absurd t (by decide), fun _ => ?_⟩⟩⟩⟩⟩⟩⟩⟩⟩⟩
    exact s_X1_mendAll h hf hQ
