/-! THE WHOLE STATE: of the class and of the reference -/
def Eq6 (g f : Nat → Int32) : Prop := ∀ j, j < 6682 → g j = f j
theorem eq6_acc {g f : Nat → Int32} (h : Eq6 g f) : gst g = gst f ∧ gpx g = gpx f ∧ gpy g = gpy f ∧ gK g = gK f ∧ gR g = gR f ∧ gmx g = gmx f ∧ gmy g = gmy f ∧ gsd g = gsd f ∧ gva g = gva f ∧ ghd g = ghd f ∧ ∀ r, r < 3 → gow g r = gow f r := by
  refine ⟨?_, ?_, ?_, ?_, ?_, ?_, ?_, ?_, ?_, ?_, fun r hr => ?_⟩
  · funext n; unfold gst; split
    · rw [h _ (by omega)]
    · rfl
  · funext n; unfold gpx; split
    · rw [h _ (by omega)]
    · rfl
  · funext n; unfold gpy; split
    · rw [h _ (by omega)]
    · rfl
  · unfold gK; rw [h _ (by omega)]
  · unfold gR; rw [h _ (by omega)]
  · funext n; unfold gmx; split
    · rw [h _ (by omega)]
    · rfl
  · funext n; unfold gmy; split
    · rw [h _ (by omega)]
    · rfl
  · funext n; unfold gsd; split
    · rw [h _ (by omega)]
    · rfl
  · funext n; unfold gva; split
    · rw [h _ (by omega)]
    · rfl
  · funext r n; unfold ghd; split
    · rw [h _ (by omega)]
    · rfl
  · funext n; unfold gow; split
    · rw [h _ (by omega)]
    · rfl
theorem Good.eq6 {g f : Nat → Int32} (hf : Good f) (h : Eq6 g f) : Good g := by
  obtain ⟨e1, e2, e3, e4, e5, e6, e7, e8, e9, e10, e11⟩ := eq6_acc h
  obtain ⟨h1, h2, h3, h4, h5, h6, h7, h8, h9⟩ := hf.1
  unfold Good RowOK
  rw [e1, e2, e3, e4, e5, e6, e7, e8, e9, e10]
  refine ⟨⟨fun n hn => ?_, fun n hn q => ?_, ?_, fun i hi => ?_, ?_, fun k hk => ?_, fun k hk q => ?_, fun r hr k hk => ?_, fun r hr z hz => ?_⟩, fun r hr => ?_⟩
  · rw [h _ (by omega)]; exact h1 n hn
  · rw [h _ (by omega), h _ (by omega)]; exact h2 n hn q
  · rw [h _ (by omega)]; exact h3
  · have := h3.2
    rw [h _ (by omega), h _ (by omega)]; exact h4 i hi
  · rw [h _ (by omega)]; exact h5
  · rw [h _ (by omega)]; exact h6 k hk
  · rw [h _ (by omega)]; exact h7 k hk q
  · rw [h _ (by omega)]; exact h8 r hr k hk
  · have := h5.2.2
    rw [h _ (by omega), e11 r (by omega)]; exact h9 r hr z hz
  · have := h5.2.2
    rw [e11 r (by omega)]; exact hf.2 r hr
theorem NetRep.eq6 {σ : St} {a : Nat} {g f : Nat → Int32} (hr : NetRep σ a f) (hR : gR f ≤ 3) (h : Eq6 g f) : NetRep σ a g := by
  obtain ⟨e1, e2, e3, e4, e5, e6, e7, e8, e9, e10, e11⟩ := eq6_acc h
  unfold NetRep
  rw [e1, e2, e3, e4, e5, e6, e7, e8, e9, hm_congr e10]
  refine ⟨hr.re, hr.ma, hr.st, hr.px, hr.py, hr.mx, hr.my, hr.va, hr.hd, fun r hrr => ?_⟩
  rw [e11 r (by omega)]
  exact hr.sp r hrr
theorem Good.R3 {f : Nat → Int32} (h : Good f) : gR f ≤ 3 := h.1.2.2.2.2.1.2.2
/-! a net is copied -/
theorem s_X4_copyFrom {σ : St} {s t : Nat} {o : Nat → Nat} {Q : St → Prop} (h : SpRep σ t o) (hap : t + 3 < s ∨ s + 3 < t) (hQ : ∀ τ, Spf s σ τ → SpRep τ s o → Q τ) : wp_X4_copyFrom σ s t Q := by
  unfold wp_X4_copyFrom
  intro σ1 h1 σ2 h2 σ3 h3
  have n1 : ∀ b, b ≠ s + 1 → σ1 b = σ b := fun b hb => by rw [h1, sr_ne hb]
  have n2 : ∀ b, b ≠ s + 2 → σ2 b = σ1 b := fun b hb => by rw [h2, sr_ne hb]
  have n3 : ∀ b, b ≠ s + 3 → σ3 b = σ2 b := fun b hb => by rw [h3, sr_ne hb]
  refine hQ σ3 (fun b b1 b2 b3 => by rw [n3 b b3, n2 b b2, n1 b b1]) ⟨fun j hj => ?_, fun j hj => ?_, fun j hj => ?_⟩
  · rw [n3 _ (by omega), n2 _ (by omega), h1, sr_same, sb_cpy0 hj]; exact h.1 j hj
  · rw [n3 _ (by omega), h2, sr_same, sb_cpy0 hj, n1 _ (by omega)]; exact h.2.1 j hj
  · rw [h3, sr_same, sb_cpy0 hj, n2 _ (by omega), n1 _ (by omega)]; exact h.2.2 j hj
theorem s_X1_copyFrom {σ : St} {a c : Nat} {f : Nat → Int32} {Q : St → Prop} (h : NetRep σ c f) (hf : Good f) (hap : c + 21 ≤ a ∨ a + 21 ≤ c) (hQ : ∀ τ, Nf a σ τ → NetRep τ a f → Q τ) : wp_X1_copyFrom σ a c Q := by
  have hR := hf.R3
  have hK := hf.1.2.2.1.2
  unfold wp_X1_copyFrom
  intro σ1 h1 σ2 h2
  have n1 : Nf a σ σ1 := by rw [h1]; exact (Nf.rf a σ).su (by omega) (by omega)
  have n2 : Nf a σ σ2 := by rw [h2]; exact n1.su (by omega) (by omega)
  have a9 : σ2 a 9 = nI (gR f) := by rw [h2, su_at, if_neg (by decide), h1, su_at, if_pos rfl]; exact h.re
  have a8 : σ2 a 8 = nI (gK f) := by rw [h2, su_at, if_pos rfl, n1 c (by omega)]; exact h.ma
  refine LP2_nat (gR f) (fun i τ z => z = nI i ∧ Nf a σ τ ∧ τ a = σ2 a ∧ ∀ r, r < i → SpRep τ (a + 1 + 8 + 4 * r) (gow f r)) ?_ 0 _ _ (Nat.zero_le _) ⟨rfl, n2, rfl, fun r hr => absurd hr (by omega)⟩
  rintro ih i τ _ hi ⟨rfl, hN, ha, hS⟩ hih
  unfold wp_X1_copyFrom_18
  rw [show τ a 9 = nI (gR f) by rw [ha]; exact a9]
  simp (disch := omega) only [forall_eq, forall_eq', n_inT, n_cl, n_lt, n_le, n_eq, n_eq0, n_lt0, n_ge0, n_gt0, n_le0, n_em, n_me, n_add, n_mul, n_00, n_s01, n_1z, n_0z, Nat.one_ne_zero, eq_self, ne_eq, true_and, and_true, true_implies, false_implies, implies_true, not_true_eq_false, not_false_eq_true, false_and, and_false, or_false, false_or, or_true, true_or]
  refine ⟨fun q => ?_, fun q => ⟨n_in (by omega) (by decide), n_in (by omega) (by decide), ?_⟩⟩
  · have ei : i = gR f := by omega
    subst ei
    unfold wp_X1_copyFrom_47
    intro τ1 t1 τ2 t2 τ3 t3 τ4 t4 τ5 t5 τ6 t6 τ7 t7
    have m1 : ∀ b, b ≠ a + 2 → τ1 b = τ b := fun b hb => by rw [t1, sr_ne hb]
    have m2 : ∀ b, b ≠ a + 3 → τ2 b = τ1 b := fun b hb => by rw [t2, sr_ne hb]
    have m3 : ∀ b, b ≠ a + 4 → τ3 b = τ2 b := fun b hb => by rw [t3, sr_ne hb]
    have m4 : ∀ b, b ≠ a + 5 → τ4 b = τ3 b := fun b hb => by rw [t4, sr_ne hb]
    have m5 : ∀ b, b ≠ a + 6 → τ5 b = τ4 b := fun b hb => by rw [t5, sr_ne hb]
    have m6 : ∀ b, b ≠ a + 7 → τ6 b = τ5 b := fun b hb => by rw [t6, sr_ne hb]
    have m7 : ∀ b, b ≠ a + 8 → τ7 b = τ6 b := fun b hb => by rw [t7, sr_ne hb]
    have c0 : ∀ b, c ≤ b → b < c + 21 → τ b = σ b := fun b b1 b2 => hN b (by omega)
    have hout : ∀ b, b < a + 2 ∨ a + 8 < b → τ7 b = τ b := fun b hb => by rw [m7 b (by omega), m6 b (by omega), m5 b (by omega), m4 b (by omega), m3 b (by omega), m2 b (by omega), m1 b (by omega)]
    refine hQ τ7 (fun b hb => by rw [hout b (by omega)]; exact hN b hb) ⟨?_, ?_, fun n hn => ?_, fun n hn q => ?_, fun n hn q => ?_, fun i hi => ?_, fun i hi => ?_, fun k hk => ?_, fun k hk => ?_, fun r hr => ?_⟩
    · rw [hout a (by omega), ha]; exact a9
    · rw [hout a (by omega), ha]; exact a8
    · rw [m7 _ (by omega), m6 _ (by omega), m5 _ (by omega), m4 _ (by omega), m3 _ (by omega), m2 _ (by omega), t1, sr_same, sb_cpy0 hn, c0 _ (by omega) (by omega)]
      exact h.st n hn
    · rw [m7 _ (by omega), m6 _ (by omega), m5 _ (by omega), m4 _ (by omega), m3 _ (by omega), t2, sr_same, sb_cpy0 hn, m1 _ (by omega), c0 _ (by omega) (by omega)]
      exact h.px n hn q
    · rw [m7 _ (by omega), m6 _ (by omega), m5 _ (by omega), m4 _ (by omega), t3, sr_same, sb_cpy0 hn, m2 _ (by omega), m1 _ (by omega), c0 _ (by omega) (by omega)]
      exact h.py n hn q
    · rw [m7 _ (by omega), m6 _ (by omega), m5 _ (by omega), t4, sr_same, sb_cpy0 (by omega), m3 _ (by omega), m2 _ (by omega), m1 _ (by omega), c0 _ (by omega) (by omega)]
      exact h.mx i hi
    · rw [m7 _ (by omega), m6 _ (by omega), t5, sr_same, sb_cpy0 (by omega), m4 _ (by omega), m3 _ (by omega), m2 _ (by omega), m1 _ (by omega), c0 _ (by omega) (by omega)]
      exact h.my i hi
    · rw [m7 _ (by omega), t6, sr_same, sb_cpy0 hk, m5 _ (by omega), m4 _ (by omega), m3 _ (by omega), m2 _ (by omega), m1 _ (by omega), c0 _ (by omega) (by omega)]
      exact h.va k hk
    · rw [t7, sr_same, sb_cpy0 hk, m6 _ (by omega), m5 _ (by omega), m4 _ (by omega), m3 _ (by omega), m2 _ (by omega), m1 _ (by omega), c0 _ (by omega) (by omega)]
      exact h.hd k hk
    · exact (hS r hr).congr (hout _ (by omega)) (hout _ (by omega)) (hout _ (by omega))
  · have hir : i < gR f := by omega
    refine s_X4_copyFrom (o := gow f i) ((h.sp i hir).congr (hN _ (by omega)) (hN _ (by omega)) (hN _ (by omega))) (by omega) (fun τ' hS' hR' => ?_)
    refine hih _ _ hir ⟨rfl, hN.tr (hS'.nf (by omega)), by rw [hS' a (by omega) (by omega) (by omega)]; exact ha, fun r hr => ?_⟩
    by_cases e : r = i
    · rw [e]; exact hR'
    · exact (hS r (by omega)).congr (hS' _ (by omega) (by omega) (by omega)) (hS' _ (by omega) (by omega) (by omega)) (hS' _ (by omega) (by omega) (by omega))
/-- a byte as the class has it -/
def sbt (b : Nat) : Int32 := if b < 128 then nI b else nI b - nI 256
/-- row; acts remembered, their rows; is there an image, its row; why; fault; the tape's length, its bytes -/
abbrev AS : Type := (Nat → Int32) × Nat × (Nat → Nat → Int32) × Nat × (Nat → Int32) × Int32 × Int32 × Nat × (Nat → Nat)
abbrev sF (s : AS) : Nat → Int32 := s.1
abbrev sU (s : AS) : Nat := s.2.1
abbrev sR (s : AS) : Nat → Nat → Int32 := s.2.2.1
abbrev sB (s : AS) : Nat := s.2.2.2.1
abbrev sI (s : AS) : Nat → Int32 := s.2.2.2.2.1
abbrev sW (s : AS) : Int32 := s.2.2.2.2.2.1
abbrev sX (s : AS) : Int32 := s.2.2.2.2.2.2.1
abbrev sT (s : AS) : Nat := s.2.2.2.2.2.2.2.1
abbrev sP (s : AS) : Nat → Nat := s.2.2.2.2.2.2.2.2
def Sok (s : AS) : Prop := Good (sF s) ∧ sU s ≤ 8 ∧ (∀ i, i < sU s → Good (sR s i)) ∧ sB s ≤ 1 ∧ (sB s = 1 → Good (sI s)) ∧ sT s ≤ 400 ∧ ∀ i, i < sT s → sP s i < 256
def nowA (A B : Nat) : Prop := A = 202 ∧ B = 223 ∨ A = 223 ∧ B = 202
def CRx (σ : St) (s : AS) (A B F : Nat) : Prop :=
  nowA A B ∧ F < 8 ∧ σ 0 8 = nI A ∧ σ 0 9 = nI B ∧ NetRep σ A (sF s) ∧ σ 6 1 = nI F ∧ σ 6 2 = nI (sU s) ∧ (∀ i, i < sU s → NetRep σ (8 + 21 * ((F + i) % 8)) (sR s i)) ∧ σ 0 7 = nI (sB s) ∧ (sB s = 1 → NetRep σ 181 (sI s)) ∧ σ 0 11 = sW s ∧ σ 0 10 = sX s ∧ σ 1 1 = nI (sT s) ∧ ∀ i, i < sT s → σ 2 i = sbt (sP s i)
def CR (σ : St) (s : AS) : Prop := ∃ A B F, CRx σ s A B F
def RR (σ : St) (s : AS) : Prop :=
  σ 245 = sF s ∧ σ 244 5 = nI (sU s) ∧ (∀ i, i < sU s → ∀ j, j < 6682 → σ 248 (6682 * i + j) = sR s i j) ∧ σ 244 6 = nI (sB s) ∧ (sB s = 1 → ∀ j, j < 6682 → σ 247 j = sI s j) ∧ σ 244 7 = sW s ∧ σ 244 12 = sX s ∧ σ 244 9 = nI (sT s) ∧ ∀ i, i < sT s → σ 249 i = nI (sP s i)
/-- the class's side alone; the reference's alone -/
def Cf (σ τ : St) : Prop := ∀ b, 244 ≤ b → τ b = σ b
def Rf (σ τ : St) : Prop := ∀ b, b < 244 ∨ 257 < b → τ b = σ b
theorem Cf.rf (σ : St) : Cf σ σ := fun _ _ => rfl
theorem Rf.rf (σ : St) : Rf σ σ := fun _ _ => rfl
theorem Cf.tr {σ τ ρ : St} (h1 : Cf σ τ) (h2 : Cf τ ρ) : Cf σ ρ := fun b hb => (h2 b hb).trans (h1 b hb)
theorem Rf.tr {σ τ ρ : St} (h1 : Rf σ τ) (h2 : Rf τ ρ) : Rf σ ρ := fun b hb => (h2 b hb).trans (h1 b hb)
theorem Mf.rff {σ τ : St} (h : Mf σ τ) : Rf σ τ := fun b hb => h.1 b (by omega)
theorem Nf.cf {a : Nat} {σ τ : St} (h : Nf a σ τ) (ha : a ≤ 223) : Cf σ τ := fun b hb => h b (by omega)
theorem RR.cf {σ τ : St} {s : AS} (h : RR σ s) (hc : Cf σ τ) : RR τ s := by
  unfold RR
  rw [hc 245 (by decide), hc 244 (by decide), hc 248 (by decide), hc 247 (by decide), hc 249 (by decide)]
  exact h
/-- the cells that the class's state rests on -/
def Csl (B b : Nat) : Prop := b < 244 ∧ b ≠ 3 ∧ b ≠ 4 ∧ b ≠ 5 ∧ (b < 176 ∨ 180 < b) ∧ (b < B ∨ B + 21 ≤ b)
theorem CRx.congr {σ τ : St} {s : AS} {A B F : Nat} (h : CRx σ s A B F) (hs : Sok s) (e : ∀ b, Csl B b → τ b = σ b) : CRx τ s A B F := by
  obtain ⟨h1, h2, h3, h4, h5, h6, h7, h8, h9, h10, h11, h12, h13, h14⟩ := h
  unfold Csl at e
  have hAB : (A = 202 ∧ B = 223) ∨ (A = 223 ∧ B = 202) := h1
  refine ⟨h1, h2, ?_, ?_, ?_, ?_, ?_, fun i hi => ?_, ?_, fun q => ?_, ?_, ?_, ?_, fun i hi => ?_⟩
  · rw [e 0 (by omega)]; exact h3
  · rw [e 0 (by omega)]; exact h4
  · exact h5.congr hs.1.R3 (fun b b1 b2 => e b (by omega))
  · rw [e 6 (by omega)]; exact h6
  · rw [e 6 (by omega)]; exact h7
  · exact (h8 i hi).congr (hs.2.2.1 i hi).R3 (fun b b1 b2 => e b (by omega))
  · rw [e 0 (by omega)]; exact h9
  · exact (h10 q).congr (hs.2.2.2.2.1 q).R3 (fun b b1 b2 => e b (by omega))
  · rw [e 0 (by omega)]; exact h11
  · rw [e 0 (by omega)]; exact h12
  · rw [e 1 (by omega)]; exact h13
  · rw [e 2 (by omega)]; exact h14 i hi
theorem CR.rf {σ τ : St} {s : AS} (h : CR σ s) (hs : Sok s) (hr : Rf σ τ) : CR τ s := by
  obtain ⟨A, B, F, h⟩ := h
  exact ⟨A, B, F, h.congr hs (fun b hb => hr b (Or.inl hb.1))⟩
/-- an act is done by a call: what is remembered -/
def pU (U : Nat) : Nat := if U = 8 then 8 else U + 1
def pR (U : Nat) (rows : Nat → Nat → Int32) (f : Nat → Int32) (i : Nat) : Nat → Int32 := if U = 8 then (if i = 7 then f else rows (i + 1)) else (if i = U then f else rows i)
def doneS (s : AS) (f1 : Nat → Int32) : AS := (f1, pU (sU s), pR (sU s) (sR s) (sF s), sB s, sI s, nI 0, sX s, sT s, sP s)
def whyS (s : AS) (c : Int32) : AS := (sF s, sU s, sR s, sB s, sI s, c, sX s, sT s, sP s)
def actS (s : AS) (k a b c d : Nat) : AS := if acode (sF s) k a b c d = 0 then doneS s (arow (sF s) k a b c d) else whyS s (nI (acode (sF s) k a b c d))
theorem Sok.done {s : AS} (h : Sok s) {f1 : Nat → Int32} (hf : Good f1) : Sok (doneS s f1) := by
  obtain ⟨h1, h2, h3, h4, h5, h6, h7⟩ := h
  refine ⟨hf, ?_, fun i hi => ?_, h4, h5, h6, h7⟩
  · show pU (sU s) ≤ 8
    unfold pU; split <;> omega
  · have hi' : i < pU (sU s) := hi
    show Good (pR (sU s) (sR s) (sF s) i)
    unfold pU at hi'
    unfold pR
    by_cases e : sU s = 8
    · rw [if_pos e] at hi' ⊢
      split
      · exact h1
      · exact h3 _ (by omega)
    · rw [if_neg e] at hi' ⊢
      split
      · exact h1
      · exact h3 _ (by omega)
theorem Sok.why {s : AS} (h : Sok s) (c : Int32) : Sok (whyS s c) := h
theorem Sok.act {s : AS} (h : Sok s) {k a b c d : Nat} (hk : k ≤ 10) (ha : aarg k a b c d) : Sok (actS s k a b c d) := by
  unfold actS
  split
  · rename_i e
    exact h.done (arow_good h.1 hk ha e)
  · exact h
