/-! TEXT: all acts; the class -/
abbrev RT : Type := Option (Nat × Nat) × (Nat → Int32) × Nat
def rnS (c : Nat) (f : Nat → Int32) (q : Nat) (r : PA) (K : (Nat → Int32) → Nat → RT) : RT := match r with
  | (none, v) => (some (v, 0), f, c)
  | (some (k, a, b, c', d), e) => if acode f k a b c' d = 0 then K (arow f k a b c' d) e else (some (q, acode f k a b c' d), f, c)
def rn (P : Nat → Nat) (L : Nat) : Nat → (Nat → Int32) → Nat → RT
  | 0, f, p => if L ≤ sk P L p then (none, f, 14) else rnS 14 f (qst P L 14 p) (rdA P L 14 p) (fun g _ => (none, g, 15))
  | k + 1, f, p => if L ≤ sk P L p then (none, f, 14 - (k + 1)) else rnS (14 - (k + 1)) f (qst P L (14 - (k + 1)) p) (rdA P L (14 - (k + 1)) p) (rn P L k)
theorem rdA_14 {P : Nat → Nat} {L p : Nat} {x : ACT} {e : Nat} (h : rdA P L 14 p = (some x, e)) : False := by
  unfold rdA at h
  split at h
  · cases h
  · rw [if_pos rfl] at h; cases h
theorem rn_eq {P : Nat → Nat} {L i p : Nat} {f : Nat → Int32} (hi : i ≤ 14) : rn P L (14 - i) f p = if L ≤ sk P L p then (none, f, i) else rnS i f (qst P L i p) (rdA P L i p) (if i = 14 then (fun g _ => (none, g, 15)) else rn P L (14 - (i + 1))) := by
  cases e : 14 - i with
  | zero =>
    have : i = 14 := by omega
    subst this
    rw [if_pos rfl]
    unfold rn
    rfl
  | succ k =>
    have h1 : i = 14 - (k + 1) := by omega
    have h2 : 14 - (i + 1) = k := by omega
    rw [if_neg (show ¬ i = 14 by omega), h2]
    conv => lhs; unfold rn
    rw [← h1]
theorem rn_end {P : Nat → Nat} {L i p : Nat} {f : Nat → Int32} (hi : i ≤ 14) (h : L ≤ sk P L p) : rn P L (14 - i) f p = (none, f, i) := by rw [rn_eq hi, if_pos h]
theorem rn_no {P : Nat → Nat} {L i p v : Nat} {f : Nat → Int32} (hi : i ≤ 14) (h : sk P L p < L) (hr : rdA P L i p = (none, v)) : rn P L (14 - i) f p = (some (v, 0), f, i) := by
  rw [rn_eq hi, if_neg (by omega), hr]
  rfl
theorem rn_re {P : Nat → Nat} {L i p k a b c d e : Nat} {f : Nat → Int32} (hi : i ≤ 14) (h : sk P L p < L) (hr : rdA P L i p = (some (k, a, b, c, d), e)) (h0 : acode f k a b c d ≠ 0) : rn P L (14 - i) f p = (some (qst P L i p, acode f k a b c d), f, i) := by
  rw [rn_eq hi, if_neg (by omega), hr]
  unfold rnS
  dsimp only
  rw [if_neg h0]
theorem rn_ok {P : Nat → Nat} {L i p k a b c d e : Nat} {f : Nat → Int32} (hi : i < 14) (h : sk P L p < L) (hr : rdA P L i p = (some (k, a, b, c, d), e)) (h0 : acode f k a b c d = 0) : rn P L (14 - i) f p = rn P L (14 - (i + 1)) (arow f k a b c d) e := by
  rw [rn_eq (by omega), if_neg (by omega), hr]
  unfold rnS
  dsimp only
  rw [if_pos h0, if_neg (by omega)]
theorem rnS_good {L c q : Nat} {f : Nat → Int32} {r : PA} {K : (Nat → Int32) → Nat → RT} (hf : Good f) (hr : PAok L r) (hK : ∀ g e, Good g → Good (K g e).2.1) : Good (rnS c f q r K).2.1 := by
  obtain ⟨o, e⟩ := r
  cases o with
  | none => exact hf
  | some x =>
    obtain ⟨k, a, b, c', d⟩ := x
    obtain ⟨h1, h2⟩ := hr.2 k a b c' d rfl
    unfold rnS
    dsimp only
    by_cases c0 : acode f k a b c' d = 0
    · rw [if_pos c0]
      exact hK _ _ (arow_good hf h1 h2 c0)
    · rw [if_neg c0]
      exact hf
theorem rn_good {P : Nat → Nat} {L : Nat} : ∀ k f p, Good f → Good (rn P L k f p).2.1
  | 0, f, p, hf => by
    unfold rn
    split
    · exact hf
    · exact rnS_good hf (rdA_ok (by omega)) (fun g _ hg => hg)
  | k + 1, f, p, hf => by
    unfold rn
    split
    · exact hf
    · exact rnS_good hf (rdA_ok (by omega)) (fun g e hg => rn_good k g e hg)
def rActs (s : AS) : RS := match rn (sP s) (sT s) 14 (sF s) 0 with
  | (none, f, n) => (0, nI n, (f, 0, sR s, sB s, sI s, (if n = 0 then sW s else nI 0), -1, 0, sP s))
  | (some (v, c), f, _) => (1, 0, (mix (sF s) f, sU s, sR s, sB s, sI s, (if c = 0 then sW s else nI c), nI v, 0, sP s))
theorem rActs_d {s : AS} {f : Nat → Int32} {n : Nat} (h : rn (sP s) (sT s) 14 (sF s) 0 = (none, f, n)) : rActs s = (0, nI n, (f, 0, sR s, sB s, sI s, (if n = 0 then sW s else nI 0), -1, 0, sP s)) := by unfold rActs; rw [h]
theorem rActs_f {s : AS} {f : Nat → Int32} {v c n : Nat} (h : rn (sP s) (sT s) 14 (sF s) 0 = (some (v, c), f, n)) : rActs s = (1, 0, (mix (sF s) f, sU s, sR s, sB s, sI s, (if c = 0 then sW s else nI c), nI v, 0, sP s)) := by unfold rActs; rw [h]
theorem Sok.acts {s : AS} (h : Sok s) : Sok (rActs s).2.2 := by
  have hg := rn_good (P := sP s) (L := sT s) 14 (sF s) 0 h.1
  cases e : rn (sP s) (sT s) 14 (sF s) 0 with
  | mk o y =>
    obtain ⟨f, n⟩ := y
    rw [e] at hg
    cases o with
    | none =>
      rw [rActs_d e]
      exact ⟨hg, Nat.zero_le _, fun i hi => absurd hi (Nat.not_lt_zero _), h.2.2.2.1, h.2.2.2.2.1, Nat.zero_le _, fun i hi => absurd hi (Nat.not_lt_zero _)⟩
    | some x =>
      obtain ⟨v, c⟩ := x
      rw [rActs_f e]
      exact ⟨h.1.eq6 (mix_eq _ _), h.2.1, h.2.2.1, h.2.2.2.1, h.2.2.2.2.1, Nat.zero_le _, fun i hi => absurd hi (Nat.not_lt_zero _)⟩
theorem CRx.end {τ ρ : St} {s : AS} {A B F U A' B' : Nat} {f' : Nat → Int32} {w x : Int32} (h : CRx τ s A B F) (hs : Sok s) (hab : nowA A' B') (hU : U ≤ sU s) (hN : NetRep τ A' f') (hf : Good f') (e : ∀ b, b ≠ 0 → b ≠ 1 → b ≠ 6 → ρ b = τ b) (e7 : ρ 0 7 = τ 0 7) (e8 : ρ 0 8 = nI A') (e9 : ρ 0 9 = nI B') (e10 : ρ 0 10 = x) (e11 : ρ 0 11 = w) (e1 : ρ 1 1 = nI 0) (e61 : ρ 6 1 = τ 6 1) (e62 : ρ 6 2 = nI U) : CRx ρ (f', U, sR s, sB s, sI s, w, x, 0, sP s) A' B' F := by
  obtain ⟨h1, h2, h3, h4, h5, h6, h7, h8, h9, h10, h11, h12, h13, h14⟩ := h
  have hA : (A' = 202 ∧ B' = 223) ∨ (A' = 223 ∧ B' = 202) := hab
  refine ⟨hab, h2, e8, e9, hN.congr hf.R3 (fun b b1 b2 => e b (by omega) (by omega) (by omega)), by rw [e61]; exact h6, e62, fun i hi => ?_, by rw [e7]; exact h9, fun q => ?_, e11, e10, e1, fun i hi => absurd hi (Nat.not_lt_zero _)⟩
  · have hi2 : i < U := hi
    exact (h8 i (by omega)).congr (hs.2.2.1 i (by omega)).R3 (fun b b1 b2 => e b (by omega) (by omega) (by omega))
  · exact (h10 q).congr (hs.2.2.2.2.1 q).R3 (fun b b1 b2 => e b (by omega) (by omega) (by omega))
theorem CRx.tx {τ : St} {s : AS} {A B F : Nat} (h : CRx τ s A B F) (hs : Sok s) : TX τ (sT s) (sP s) := ⟨h.2.2.2.2.2.2.2.2.2.2.2.2.1, hs.2.2.2.2.2.1, fun i hi => ⟨h.2.2.2.2.2.2.2.2.2.2.2.2.2 i hi, hs.2.2.2.2.2.2 i hi⟩⟩
theorem nowA.sw {A B : Nat} (h : nowA A B) : nowA B A := by
  rcases h with ⟨h1, h2⟩ | ⟨h1, h2⟩
  · exact Or.inr ⟨h2, h1⟩
  · exact Or.inl ⟨h2, h1⟩
theorem nowA.ly {A B : Nat} (h : nowA A B) : lay A = (1, 0) := by
  rcases h with ⟨e, -⟩ | ⟨e, -⟩
  · rw [e]; exact ly_202
  · rw [e]; exact ly_223
theorem s_drop {τ : St} {A B : Nat} {x : Int32} {Q : St → Prop} (hab : nowA A B) (h8 : τ 0 8 = nI A) (h9 : τ 0 9 = nI B)
    (hQ : ∀ ρ, (∀ b, b ≠ 0 → ρ b = τ b) → ρ 0 8 = nI B → ρ 0 9 = nI A → ρ 0 10 = x → (∀ j, j ≠ 8 → j ≠ 9 → j ≠ 10 → ρ 0 j = τ 0 j) → Q ρ) : wp_X8_dropText τ x Q := by
  have hA : (A = 202 ∧ B = 223) ∨ (A = 223 ∧ B = 202) := hab
  unfold wp_X8_dropText
  intro τ1 h1
  have g8 : (τ1 0 8).toNatClampNeg = A := by rw [h1, su_at, if_neg (by decide), h8, n_cl (by omega)]
  have g9 : (τ1 0 9).toNatClampNeg = B := by rw [h1, su_at, if_neg (by decide), h9, n_cl (by omega)]
  rw [g8, g9]
  refine ⟨hab.ly, hab.sw.ly, fun τ2 h2 τ3 h3 => ?_⟩
  refine hQ τ3 (fun b hb => by rw [h3, su_ne hb, h2, su_ne hb, h1, su_ne hb]) (by rw [h3, su_at, if_neg (by decide), h2, su_at, if_pos rfl]) (by rw [h3, su_at, if_pos rfl]) (by rw [h3, su_at, if_neg (by decide), h2, su_at, if_neg (by decide), h1, su_at, if_pos rfl]) (fun j j1 j2 j3 => by rw [h3, su_at, if_neg j2, h2, su_at, if_neg j1, h1, su_at, if_neg j3])
theorem c_done {σ τ : St} {s : AS} {A B F n : Nat} {f : Nat → Int32} {QX : String → St → Prop} {Q : Int32 → St → Prop} (hs : Sok s) (hP : PC σ (rActs s) (ex3 sIAE sIAE sIAE) QX Q) (hcf : Cf σ τ) (hC : CRx τ (rowS s f) A B F) (hf : Good f) (h4 : τ 3 4 = 0) (hn : n ≤ 14) (hr : rn (sP s) (sT s) 14 (sF s) 0 = (none, f, n)) : wp_X8_acts_85 τ (nI 0) (nI n) Q QX := by
  rw [rActs_d hr] at hP
  have hs1 : Sok (rowS s f) := ⟨hf, hs.2⟩
  unfold wp_X8_acts_85
  intro τ1 h1
  have a4 : τ1 3 4 = 0 := by rw [h1, su_ne (by decide)]; exact h4
  rw [a4]
  refine ⟨fun _ => ⟨fun _ τ2 h2 => ?_, fun t => absurd rfl t⟩, fun t => absurd (by decide) t⟩
  unfold wp_X2_forget
  intro τ3 h3
  rw [n_le0 (by omega)]
  have m3 : ∀ b, b ≠ 0 → b ≠ 1 → b ≠ 6 → τ3 b = τ b := fun b b1 b2 b3 => by rw [h3, su_ne b3, h2, su_ne b1, h1, su_ne b2]
  have z3 : ∀ j, j ≠ 10 → τ3 0 j = τ 0 j := fun j hj => by rw [h3, su_ne (by decide), h2, su_at, if_neg hj, h1, su_ne (by decide)]
  have z10 : τ3 0 10 = -1 := by rw [h3, su_ne (by decide), h2, su_at, if_pos rfl]
  have z1 : τ3 1 1 = nI 0 := by rw [h3, su_ne (by decide), h2, su_ne (by decide), h1, su_at, if_pos rfl]
  have z61 : τ3 6 1 = τ 6 1 := by rw [h3, su_at, if_neg (by decide), h2, su_ne (by decide), h1, su_ne (by decide)]
  have z62 : τ3 6 2 = nI 0 := by rw [h3, su_at, if_pos rfl]
  refine ⟨fun c => ?_, fun c τ4 h4' => ?_⟩
  · rw [if_pos c] at hP
    refine hP.1 rfl τ3 (fun b hb => by rw [m3 b (by omega) (by omega) (by omega)]; exact hcf b hb) ⟨A, B, F, ?_⟩
    exact hC.end hs1 hC.1 (Nat.zero_le _) hC.2.2.2.2.1 hf m3 (z3 7 (by decide)) (by rw [z3 8 (by decide)]; exact hC.2.2.1) (by rw [z3 9 (by decide)]; exact hC.2.2.2.1) z10 (by rw [z3 11 (by decide)]; exact hC.2.2.2.2.2.2.2.2.2.2.1) z1 z61 z62
  · rw [if_neg c] at hP
    have y : ∀ b, b ≠ 0 → τ4 b = τ3 b := fun b hb => by rw [h4', su_ne hb]
    have y0 : ∀ j, j ≠ 11 → τ4 0 j = τ3 0 j := fun j hj => by rw [h4', su_at, if_neg hj]
    refine hP.1 rfl τ4 (fun b hb => by rw [y b (by omega), m3 b (by omega) (by omega) (by omega)]; exact hcf b hb) ⟨A, B, F, ?_⟩
    exact hC.end hs1 hC.1 (Nat.zero_le _) hC.2.2.2.2.1 hf (fun b b1 b2 b3 => by rw [y b b1]; exact m3 b b1 b2 b3) (by rw [y0 7 (by decide)]; exact z3 7 (by decide)) (by rw [y0 8 (by decide), z3 8 (by decide)]; exact hC.2.2.1) (by rw [y0 9 (by decide), z3 9 (by decide)]; exact hC.2.2.2.1) (by rw [y0 10 (by decide)]; exact z10) (by rw [h4', su_at, if_pos rfl]) (by rw [y 1 (by decide)]; exact z1) (by rw [y 6 (by decide)]; exact z61) (by rw [y 6 (by decide)]; exact z62)
theorem c_fault {σ τ : St} {s : AS} {A B F n v c : Nat} {f : Nat → Int32} {x2 : Int32} {QX : String → St → Prop} {Q : Int32 → St → Prop} (hs : Sok s) (hP : PC σ (rActs s) (ex3 sIAE sIAE sIAE) QX Q) (hcf : Cf σ τ) (hC : CRx τ (rowS s f) A B F) (hf : Good f) (hB : NetRep τ B (sF s)) (hc : c ≤ 10) (hr : rn (sP s) (sT s) 14 (sF s) 0 = (some (v, c), f, n)) (hx : (c = 0 ∧ τ 3 4 = nI 1 ∧ τ 3 1 = nI v) ∨ (c ≠ 0 ∧ τ 3 2 = nI v)) : wp_X8_acts_85 τ (nI c) x2 Q QX := by
  rw [rActs_f hr] at hP
  have hs1 : Sok (rowS s f) := ⟨hf, hs.2⟩
  have hg : Good (mix (sF s) f) := hs.1.eq6 (mix_eq _ _)
  have hB2 : NetRep τ B (mix (sF s) f) := hB.eq6 hs.1.R3 (mix_eq _ _)
  unfold wp_X8_acts_85
  intro τ1 h1
  have m1 : ∀ b, b ≠ 1 → τ1 b = τ b := fun b hb => by rw [h1, su_ne hb]
  have z1 : τ1 1 1 = nI 0 := by rw [h1, su_at, if_pos rfl]
  rw [n_eq0 (by omega), m1 3 (by decide)]
  refine ⟨fun c0 => ?_, fun c0 τ2 h2 => ?_⟩
  · rcases hx with ⟨-, h4, h5⟩ | ⟨c1, -⟩
    · rw [h4, h5]
      refine ⟨fun t => absurd t (by decide), fun _ => ?_⟩
      rw [if_pos c0] at hP
      refine s_drop (A := A) (B := B) hC.1 (by rw [m1 0 (by decide)]; exact hC.2.2.1) (by rw [m1 0 (by decide)]; exact hC.2.2.2.1) (fun ρ y0 y8 y9 y10 yj => ?_)
      refine hP.2 (show (1 : Nat) ≠ 0 by decide) ρ (fun b hb => by rw [y0 b (by omega), m1 b (by omega)]; exact hcf b hb) ⟨B, A, F, ?_⟩
      exact hC.end hs1 hC.1.sw (Nat.le_refl _) hB2 hg (fun b b1 b2 _ => by rw [y0 b b1, m1 b b2]) (by rw [yj 7 (by decide) (by decide) (by decide), m1 0 (by decide)]) y8 y9 y10 (by rw [yj 11 (by decide) (by decide) (by decide), m1 0 (by decide)]; exact hC.2.2.2.2.2.2.2.2.2.2.1) (by rw [y0 1 (by decide)]; exact z1) (by rw [y0 6 (by decide), m1 6 (by decide)]) (by rw [y0 6 (by decide), m1 6 (by decide)]; exact hC.2.2.2.2.2.2.1)
    · exact absurd c0 c1
  · rcases hx with ⟨c1, -, -⟩ | ⟨-, h5⟩
    · exact absurd c1 c0
    · rw [if_neg c0] at hP
      have m2 : ∀ b, b ≠ 0 → τ2 b = τ1 b := fun b hb => by rw [h2, su_ne hb]
      have z2 : ∀ j, j ≠ 11 → τ2 0 j = τ 0 j := fun j hj => by rw [h2, su_at, if_neg hj, m1 0 (by decide)]
      have w2 : τ2 3 2 = nI v := by rw [m2 3 (by decide), m1 3 (by decide)]; exact h5
      rw [w2]
      refine s_drop (A := A) (B := B) hC.1 (by rw [z2 8 (by decide)]; exact hC.2.2.1) (by rw [z2 9 (by decide)]; exact hC.2.2.2.1) (fun ρ y0 y8 y9 y10 yj => ?_)
      refine hP.2 (show (1 : Nat) ≠ 0 by decide) ρ (fun b hb => by rw [y0 b (by omega), m2 b (by omega), m1 b (by omega)]; exact hcf b hb) ⟨B, A, F, ?_⟩
      exact hC.end hs1 hC.1.sw (Nat.le_refl _) hB2 hg (fun b b1 b2 _ => by rw [y0 b b1, m2 b b1, m1 b b2]) (by rw [yj 7 (by decide) (by decide) (by decide), z2 7 (by decide)]) y8 y9 y10 (by rw [yj 11 (by decide) (by decide) (by decide), h2, su_at, if_pos rfl]) (by rw [y0 1 (by decide), m2 1 (by decide)]; exact z1) (by rw [y0 6 (by decide), m2 6 (by decide), m1 6 (by decide)]) (by rw [y0 6 (by decide), m2 6 (by decide), m1 6 (by decide)]; exact hC.2.2.2.2.2.2.1)
/-- on the way through a text; refused -/
def Run (s : AS) (A B F i : Nat) (τ : St) (x1 x2 : Int32) : Prop := x1 = nI 0 ∧ x2 = nI i ∧ i ≤ 14 ∧ ∃ f p, p ≤ sT s ∧ Good f ∧ CRx τ (rowS s f) A B F ∧ NetRep τ B (sF s) ∧ τ 3 1 = nI p ∧ τ 3 3 = nI i ∧ τ 3 4 = 0 ∧ rn (sP s) (sT s) 14 (sF s) 0 = rn (sP s) (sT s) (14 - i) f p
def Rfd (s : AS) (A B F : Nat) (τ : St) (x1 : Int32) : Prop := ∃ f v c n, c ≠ 0 ∧ c ≤ 10 ∧ x1 = nI c ∧ Good f ∧ CRx τ (rowS s f) A B F ∧ NetRep τ B (sF s) ∧ τ 3 2 = nI v ∧ rn (sP s) (sT s) 14 (sF s) 0 = (some (v, c), f, n)
theorem s_X8_acts {σ : St} {s : AS} {QX : String → St → Prop} {Q : Int32 → St → Prop} (h : CR σ s) (hs : Sok s) (hP : PC σ (rActs s) (ex3 sIAE sIAE sIAE) QX Q) : wp_X8_acts σ QX Q := by
  obtain ⟨A, B, F, hC⟩ := h
  have hAB : (A = 202 ∧ B = 223) ∨ (A = 223 ∧ B = 202) := hC.1
  obtain ⟨eA, lA⟩ := nowlay hC
  have eB : (σ 0 9).toNatClampNeg = B := by rw [hC.2.2.2.1, n_cl (by omega)]
  unfold wp_X8_acts
  rw [eB, eA]
  refine ⟨hC.1.sw.ly, lA, s_X1_copyFrom (f := sF s) hC.2.2.2.2.1 hs.1 (by omega) (fun σ1 n1 r1 => ?_)⟩
  have hC1 : CRx σ1 s A B F := hC.congr hs (fun b hb => n1 b (by unfold Csl at hb; omega))
  unfold wp_X3_begin
  intro σ2 h2 σ3 h3 σ4 h4 σ5 h5
  have m5 : ∀ b, b ≠ 3 → σ5 b = σ1 b := fun b hb => by rw [h5, su_ne hb, h4, su_ne hb, h3, su_ne hb, h2, su_ne hb]
  have hC5 : CRx σ5 s A B F := hC1.congr hs (fun b hb => m5 b hb.2.1)
  have hcf5 : Cf σ σ5 := fun b hb => by rw [m5 b (by omega), n1 b (by omega)]
  refine LP4_nat 15 (fun i τ x1 x2 x3 => x3 = nI i ∧ Cf σ τ ∧ (Run s A B F i τ x1 x2 ∨ Rfd s A B F τ x1)) ?_ 0 _ _ _ _ (Nat.zero_le _) ⟨rfl, hcf5, Or.inl ⟨rfl, rfl, Nat.zero_le _, sF s, 0, Nat.zero_le _, hs.1, hC5, r1.congr hs.1.R3 (fun b b1 b2 => m5 b (by omega)), ?_, ?_, ?_, rfl⟩⟩
  · rintro ih i τ x1 x2 _ hi ⟨rfl, hcf, hI⟩ hih
    unfold wp_X8_acts_24
    rw [n_lt (by omega) (by omega)]
    rcases hI with ⟨rfl, rfl, hi14, f, p, hp, hf, hCt, hBt, e1, e3, e4, hrn⟩ | ⟨f, v, c, n, c0, c10, rfl, hf, hCt, hBt, e2, hrn⟩
    · have hs1 : Sok (rowS s f) := ⟨hf, hs.2⟩
      refine ⟨fun t => absurd t (by omega), fun _ => ⟨fun t => absurd (by decide) t, fun _ => ?_⟩⟩
      refine s_X3_takeAct (hCt.tx hs1) hp hi14 e1 e3 e4 (fun hend τ1 i1 w4 => ⟨fun _ => ?_, fun t => absurd rfl t⟩) (fun v hlt hr τ1 i1 w4 w1 => ⟨fun _ => ?_, fun t => absurd rfl t⟩) (fun k a b c' d e hlt hr τ1 i1 hA w1 w2 w3 w4 => ⟨fun t => absurd t (by decide), fun _ => ?_⟩)
      · exact c_done hs hP (fun b hb => by rw [i1 b (by omega) (by omega) (by omega)]; exact hcf b hb) (hCt.congr hs1 (fun b hb => i1 b hb.2.1 hb.2.2.1 hb.2.2.2.1)) hf w4 hi14 (hrn.trans (rn_end hi14 hend))
      · exact c_fault (c := 0) hs hP (fun b hb => by rw [i1 b (by omega) (by omega) (by omega)]; exact hcf b hb) (hCt.congr hs1 (fun b hb => i1 b hb.2.1 hb.2.2.1 hb.2.2.2.1)) hf (hBt.congr hs.1.R3 (fun b b1 b2 => i1 b (by omega) (by omega) (by omega))) (Nat.zero_le _) (hrn.trans (rn_no hi14 hlt hr)) (Or.inl ⟨rfl, w4, w1⟩)
      · have hC1t : CRx τ1 (rowS s f) A B F := hCt.congr hs1 (fun b hb => i1 b hb.2.1 hb.2.2.1 hb.2.2.2.1)
        have hB1t : NetRep τ1 B (sF s) := hBt.congr hs.1.R3 (fun b b1 b2 => i1 b (by omega) (by omega) (by omega))
        have hcf1 : Cf σ τ1 := fun b hb => by rw [i1 b (by omega) (by omega) (by omega)]; exact hcf b hb
        have hNt : NetRep τ1 A f := hC1t.2.2.2.2.1
        have hr : rdA (sP s) (sT s) i p = (some (k, a, b, c', d), e) := hr
        have hok := rdA_ok (P := sP s) (L := sT s) (c := i) (p := p) hlt
        have hi13 : i ≠ 14 := fun t => by rw [t] at hr; exact rdA_14 hr
        rw [hr] at hok
        obtain ⟨hk, ha⟩ := hok.2 k a b c' d rfl
        have hle := acode_le f hk a b c' d
        have hpe : e ≤ sT s := hok.1
        rw [(nowlay hC1t).1]
        refine ⟨lA, s_X1_refusalOf hNt hf hA hk ha ?_⟩
        rw [n_eq0 (by omega)]
        refine ⟨fun q z hz => ?_, fun q => ⟨lA, s_X1_perform hNt hf hA (by omega) hk ha q (fun τ2 n2 r2 y hy z hz => ?_)⟩⟩
        · rw [hz, n_add]
          exact hih _ _ _ _ (by omega) ⟨rfl, hcf1, Or.inr ⟨f, qst (sP s) (sT s) i p, _, i, q, hle, rfl, hf, hC1t, hB1t, w2, hrn.trans (rn_re hi14 hlt hr q)⟩⟩
        · rw [hy, hz, n_add, q]
          have hg := arow_good hf hk ha q
          exact hih _ _ _ _ (by omega) ⟨rfl, fun b hb => by rw [n2 b (by omega)]; exact hcf1 b hb, Or.inl ⟨rfl, rfl, by omega, arow f k a b c' d, e, hpe, hg, hC1t.row hs1 n2 r2, hB1t.congr hs.1.R3 (fun b b1 b2 => n2 b (by omega)), by rw [n2 3 (by omega)]; exact w1, by rw [n2 3 (by omega)]; exact w3, by rw [n2 3 (by omega)]; exact w4, hrn.trans (rn_ok (by omega) hlt hr q)⟩⟩
    · rw [n_eq0 (by omega)]
      have hfin : wp_X8_acts_85 τ (nI c) x2 Q QX := c_fault hs hP hcf hCt hf hBt c10 hrn (Or.inr ⟨c0, e2⟩)
      exact ⟨fun _ => hfin, fun _ => ⟨fun _ => hfin, fun t => absurd t c0⟩⟩
  · rw [h5, su_at, if_neg (by decide), h4, su_at, if_neg (by decide), h3, su_at, if_neg (by decide), h2, su_at, if_pos rfl]
  · rw [h5, su_at, if_neg (by decide), h4, su_at, if_pos rfl]
  · rw [h5, su_at, if_pos rfl]; decide
