/-! TEXT: one act; the class -/
abbrev ACT : Type := Nat × Nat × Nat × Nat × Nat
abbrev PA : Type := Option ACT × Nat
def nmK (P : Nat → Nat) (L lo hi p : Nat) (K : Nat → Nat → PA) : PA := if nmB P L lo hi (sk P L p) = true then K (dv P (sk P L p) (dc P L (sk P L p))) (sk P L p + dc P L (sk P L p)) else (none, sk P L p)
theorem nmK_t {P : Nat → Nat} {L lo hi p : Nat} {K : Nat → Nat → PA} (h : nmB P L lo hi (sk P L p) = true) : nmK P L lo hi p K = K (dv P (sk P L p) (dc P L (sk P L p))) (sk P L p + dc P L (sk P L p)) := by unfold nmK; rw [if_pos h]
theorem nmK_f {P : Nat → Nat} {L lo hi p : Nat} {K : Nat → Nat → PA} (h : nmB P L lo hi (sk P L p) = false) : nmK P L lo hi p K = (none, sk P L p) := by unfold nmK; rw [if_neg (by rw [h]; decide)]
def pa1 (P : Nat → Nat) (L k lo hi p : Nat) : PA := nmK P L lo hi p (fun a e => (some (k, a, 0, 0, 0), e))
def pa2 (P : Nat → Nat) (L k hi hi2 p : Nat) : PA := nmK P L 0 hi p (fun a p1 => nmK P L 0 hi2 p1 (fun b e => (some (k, a, b, 0, 0), e)))
def paim (P : Nat → Nat) (L a b p : Nat) : PA := if wdB P L 10 (sk P L p) = true then (some (3, a, b, 0, 0), sk P L p + wln 10) else if wdB P L 11 (sk P L p) = true then nmK P L 0 31 (sk P L p + wln 11) (fun c p3 => nmK P L 0 31 p3 (fun d e => (some (2, a, b, c, d), e))) else (none, sk P L p)
def paj (P : Nat → Nat) (L p : Nat) : PA := nmK P L 0 99 p (fun a p1 => nmK P L 0 99 p1 (fun b p2 => paim P L a b p2))
def pArg (P : Nat → Nat) (L w p : Nat) : PA := match w with
  | 0 => pa1 P L 0 1 3 p
  | 1 => pa2 P L 1 99 99 p
  | 2 => paj P L p
  | 3 => pa1 P L 4 0 9 p
  | 4 => pa1 P L 5 0 9 p
  | 5 => pa1 P L 6 0 9 p
  | 6 => (some (7, 0, 0, 0, 0), p)
  | 7 => pa2 P L 8 99 999 p
  | 8 => pa1 P L 9 0 99 p
  | _ => (some (10, 0, 0, 0, 0), p)
def kcode (w : Nat) : Nat := if w < 3 then w else w + 1
def kdR (P : Nat → Nat) (L q : Nat) : Nat → Nat → Option Nat
  | 0, _ => none
  | k + 1, w => if wdB P L w q = true then some w else kdR P L q k (w + 1)
def kd (P : Nat → Nat) (L q : Nat) : Option Nat := kdR P L q 10 0
theorem kdR_t {P : Nat → Nat} {L q k w : Nat} (h : wdB P L w q = true) : kdR P L q (k + 1) w = some w := by unfold kdR; rw [if_pos h]
theorem kdR_f {P : Nat → Nat} {L q k w : Nat} (h : wdB P L w q = false) : kdR P L q (k + 1) w = kdR P L q k (w + 1) := by
  conv => lhs; unfold kdR
  rw [if_neg (by rw [h]; decide)]
def pAct (P : Nat → Nat) (L q : Nat) : PA := match kd P L q with
  | none => (none, q)
  | some w => pArg P L w (q + wln w)
/-- what a piece of text comes to keeps its bounds -/
def PAok (L : Nat) (r : PA) : Prop := r.2 ≤ L ∧ ∀ k a b c d, r.1 = some (k, a, b, c, d) → k ≤ 10 ∧ aarg k a b c d
theorem PAok.no {L v : Nat} (h : v ≤ L) : PAok L (none, v) := ⟨h, fun k a b c d e => by cases e⟩
theorem PAok.yes {L k a b c d e : Nat} (h : e ≤ L) (hk : k ≤ 10) (ha : aarg k a b c d) : PAok L (some (k, a, b, c, d), e) := ⟨h, fun k' a' b' c' d' e => by cases e; exact ⟨hk, ha⟩⟩
theorem nmK_ok {P : Nat → Nat} {L lo hi p : Nat} {K : Nat → Nat → PA} (hp : p ≤ L) (hK : ∀ a e, lo ≤ a → a ≤ hi → e ≤ L → PAok L (K a e)) : PAok L (nmK P L lo hi p K) := by
  obtain ⟨k1, k2, -⟩ := sk_ok (P := P) hp
  unfold nmK
  split
  · rename_i h
    obtain ⟨h1, h2, h3, h4⟩ := nmB_iff.mp h
    exact hK _ _ h3 h4 (dc_ok k2).1
  · exact PAok.no k2
theorem wdB_le {P : Nat → Nat} {L w q : Nat} (h : wdB P L w q = true) : q + wln w ≤ L := (wdB_iff.mp h).1.1
theorem pArg_ok {P : Nat → Nat} {L w p : Nat} (hp : p ≤ L) : PAok L (pArg P L w p) := by
  unfold pArg
  split
  · exact nmK_ok hp (fun a e h1 h2 h3 => PAok.yes h3 (by decide) ⟨h1, h2⟩)
  · exact nmK_ok hp (fun a e h1 h2 h3 => nmK_ok h3 (fun b e g1 g2 g3 => PAok.yes g3 (by decide) ⟨by omega, by omega⟩))
  · refine nmK_ok hp (fun a e h1 h2 h3 => nmK_ok h3 (fun b e g1 g2 g3 => ?_))
    obtain ⟨k1, k2, -⟩ := sk_ok (P := P) g3
    unfold paim
    split
    · rename_i hw
      exact PAok.yes (wdB_le hw) (by decide) ⟨by omega, by omega⟩
    · split
      · rename_i hw
        exact nmK_ok (wdB_le hw) (fun c e i1 i2 i3 => nmK_ok i3 (fun d e j1 j2 j3 => PAok.yes j3 (by decide) ⟨by omega, by omega, by omega, by omega⟩))
      · exact PAok.no k2
  · exact nmK_ok hp (fun a e h1 h2 h3 => PAok.yes h3 (by decide) (show a < 10 by omega))
  · exact nmK_ok hp (fun a e h1 h2 h3 => PAok.yes h3 (by decide) (show a < 10 by omega))
  · exact nmK_ok hp (fun a e h1 h2 h3 => PAok.yes h3 (by decide) (show a < 10 by omega))
  · exact PAok.yes hp (by decide) trivial
  · exact nmK_ok hp (fun a e h1 h2 h3 => nmK_ok h3 (fun b e g1 g2 g3 => PAok.yes g3 (by decide) ⟨by omega, by omega⟩))
  · exact nmK_ok hp (fun a e h1 h2 h3 => PAok.yes h3 (by decide) (show a < 100 by omega))
  · exact PAok.yes hp (by decide) trivial
theorem kdR_ok {P : Nat → Nat} {L q : Nat} : ∀ k w v, kdR P L q k w = some v → w ≤ v ∧ v < w + k ∧ wdB P L v q = true
  | 0, w, v, h => by cases h
  | k + 1, w, v, h => by
    unfold kdR at h
    by_cases c : wdB P L w q = true
    · rw [if_pos c] at h
      cases h
      exact ⟨Nat.le_refl _, by omega, c⟩
    · rw [if_neg c] at h
      obtain ⟨h1, h2, h3⟩ := kdR_ok k (w + 1) v h
      exact ⟨by omega, by omega, h3⟩
theorem pAct_ok {P : Nat → Nat} {L q : Nat} (hq : q ≤ L) : PAok L (pAct P L q) := by
  unfold pAct
  cases e : kd P L q with
  | none => exact PAok.no hq
  | some w => exact pArg_ok (wdB_le (kdR_ok 10 0 w e).2.2)
/-! the class reads an act -/
def Jf (σ τ : St) : Prop := (∀ b, b ≠ 3 → b ≠ 4 → b ≠ 5 → τ b = σ b) ∧ ∀ j, j ≠ 1 → τ 3 j = σ 3 j
theorem Jf.rf (σ : St) : Jf σ σ := ⟨fun _ _ _ _ => rfl, fun _ _ => rfl⟩
theorem Jf.tr {σ τ ρ : St} (h1 : Jf σ τ) (h2 : Jf τ ρ) : Jf σ ρ := ⟨fun b x y z => (h2.1 b x y z).trans (h1.1 b x y z), fun j hj => (h2.2 j hj).trans (h1.2 j hj)⟩
theorem Pf.jf {σ τ : St} (h : Pf σ τ) : Jf σ τ := ⟨fun b x _ _ => h.1 b x, h.2⟩
theorem Pg.jf {σ τ : St} {s : Nat} {v : Int32} (h : Pg σ τ s v) : Jf σ τ := ⟨fun b x _ z => h.1 b x z, h.2.1⟩
theorem TX.jf {σ τ : St} {L : Nat} {P : Nat → Nat} (h : TX σ L P) (hf : Jf σ τ) : TX τ L P := h.congr (hf.1 1 (by decide) (by decide) (by decide)) (hf.1 2 (by decide) (by decide) (by decide))
theorem ActIs.pf {σ τ : St} {k a b c d : Nat} (h : ActIs σ k a b c d) (hf : Pf σ τ) : ActIs τ k a b c d := by
  unfold ActIs
  rw [hf.1 4 (by decide), hf.1 5 (by decide)]
  exact h
theorem ActIs.g0 {σ τ : St} {k a b c d v : Nat} (h : ActIs σ k a b c d) (hf : Pg σ τ 0 (nI v)) : ActIs τ k v b c d := ⟨by rw [hf.1 4 (by decide) (by decide)]; exact h.1, hf.2.2.2, by rw [hf.2.2.1 1 (by decide)]; exact h.2.2.1, by rw [hf.2.2.1 2 (by decide)]; exact h.2.2.2.1, by rw [hf.2.2.1 3 (by decide)]; exact h.2.2.2.2⟩
theorem ActIs.g1 {σ τ : St} {k a b c d v : Nat} (h : ActIs σ k a b c d) (hf : Pg σ τ 1 (nI v)) : ActIs τ k a v c d := ⟨by rw [hf.1 4 (by decide) (by decide)]; exact h.1, by rw [hf.2.2.1 0 (by decide)]; exact h.2.1, hf.2.2.2, by rw [hf.2.2.1 2 (by decide)]; exact h.2.2.2.1, by rw [hf.2.2.1 3 (by decide)]; exact h.2.2.2.2⟩
theorem ActIs.g2 {σ τ : St} {k a b c d v : Nat} (h : ActIs σ k a b c d) (hf : Pg σ τ 2 (nI v)) : ActIs τ k a b v d := ⟨by rw [hf.1 4 (by decide) (by decide)]; exact h.1, by rw [hf.2.2.1 0 (by decide)]; exact h.2.1, by rw [hf.2.2.1 1 (by decide)]; exact h.2.2.1, hf.2.2.2, by rw [hf.2.2.1 3 (by decide)]; exact h.2.2.2.2⟩
theorem ActIs.g3 {σ τ : St} {k a b c d v : Nat} (h : ActIs σ k a b c d) (hf : Pg σ τ 3 (nI v)) : ActIs τ k a b c v := ⟨by rw [hf.1 4 (by decide) (by decide)]; exact h.1, by rw [hf.2.2.1 0 (by decide)]; exact h.2.1, by rw [hf.2.2.1 1 (by decide)]; exact h.2.2.1, by rw [hf.2.2.1 2 (by decide)]; exact h.2.2.2.1, hf.2.2.2⟩
/-- how the class ends a piece of text -/
def CO (σ : St) (r : PA) (Q : Int32 → St → Prop) : Prop := (∀ k a b c d e, r = (some (k, a, b, c, d), e) → ∀ τ, Jf σ τ → ActIs τ k a b c d → τ 3 1 = nI e → Q (nI 1) τ) ∧ (∀ v, r = (none, v) → ∀ τ, Jf σ τ → τ 3 1 = nI v → Q (nI 0) τ)
theorem CO.eq {σ : St} {r r' : PA} {Q : Int32 → St → Prop} (h : CO σ r Q) (e : r = r') : CO σ r' Q := by rw [← e]; exact h
theorem CO.yes {σ τ : St} {k a b c d e : Nat} {Q : Int32 → St → Prop} (h : CO σ (some (k, a, b, c, d), e) Q) (hf : Jf σ τ) (hA : ActIs τ k a b c d) (he : τ 3 1 = nI e) : Q (nI 1) τ := h.1 k a b c d e rfl τ hf hA he
theorem CO.no {σ τ : St} {v : Nat} {Q : Int32 → St → Prop} (h : CO σ (none, v) Q) (hf : Jf σ τ) (he : τ 3 1 = nI v) : Q (nI 0) τ := h.2 v rfl τ hf he
theorem CO.mv {σ τ : St} {r : PA} {Q : Int32 → St → Prop} (h : CO σ r Q) (hf : Jf σ τ) : CO τ r Q := ⟨fun k a b c d e q τ' f' => h.1 k a b c d e q τ' (hf.tr f'), fun v q τ' f' => h.2 v q τ' (hf.tr f')⟩
theorem s_tn1 {σ : St} {L p k lo hi : Nat} {P : Nat → Nat} {Q : Int32 → St → Prop} (hlo : lo < 1000) (hhi : hi < 1000) (hX : TX σ L P) (hp : p ≤ L) (e : σ 3 1 = nI p) (hA : ActIs σ k 0 0 0 0) (hC : CO σ (pa1 P L k lo hi p) Q) : wp_X3_takeNumber σ (nI 0) (nI lo) (nI hi) (fun r τ => (r = 0 ∨ r = 1) ∧ Q r τ) := by
  unfold pa1 at hC
  refine s_X3_takeNumber (by decide) hlo hhi hX hp e (fun b τ g et => ⟨Or.inr (by decide), ?_⟩) (fun b τ g et => ⟨Or.inl (by decide), ?_⟩)
  · rw [nmK_t b] at hC
    exact hC.yes g.jf (hA.g0 g) et
  · rw [nmK_f b] at hC
    exact hC.no g.jf et
theorem s_tn2 {σ : St} {L p k hi hi2 : Nat} {P : Nat → Nat} {Q : Int32 → St → Prop} (hhi : hi < 1000) (hhi2 : hi2 < 1000) (hX : TX σ L P) (hp : p ≤ L) (e : σ 3 1 = nI p) (hA : ActIs σ k 0 0 0 0) (hC : CO σ (pa2 P L k hi hi2 p) Q) : wp_X3_takeNumber σ (nI 0) (nI 0) (nI hi) (fun r τ => ((r = 0 → (Q (nI 0) τ)) ∧ (¬ r = 0 → (wp_X3_takeNumber τ (nI 1) (nI 0) (nI hi2) (fun r_14 σ_15 => ((r_14 = 0 → (Q (nI 0) σ_15)) ∧ (¬ r_14 = 0 → (Q (nI 1) σ_15)))))))) := by
  obtain ⟨k1, k2, -⟩ := sk_ok (P := P) hp
  unfold pa2 at hC
  refine s_X3_takeNumber (by decide) (by decide) hhi hX hp e (fun b τ g et => ⟨fun t => absurd t (by decide), fun _ => ?_⟩) (fun b τ g et => ⟨fun _ => ?_, fun t => absurd rfl t⟩)
  · rw [nmK_t b] at hC
    have hp2 := (dc_ok (P := P) k2).1
    refine s_X3_takeNumber (by decide) (by decide) hhi2 (hX.jf g.jf) hp2 et (fun b2 τ2 g2 et2 => ⟨fun t => absurd t (by decide), fun _ => ?_⟩) (fun b2 τ2 g2 et2 => ⟨fun _ => ?_, fun t => absurd rfl t⟩)
    · rw [nmK_t b2] at hC
      exact hC.yes (g.jf.tr g2.jf) ((hA.g0 g).g1 g2) et2
    · rw [nmK_f b2] at hC
      exact hC.no (g.jf.tr g2.jf) et2
  · rw [nmK_f b] at hC
    exact hC.no g.jf et
theorem s_X3_takeAim {σ : St} {L p a b : Nat} {P : Nat → Nat} {Q : Int32 → St → Prop} (hX : TX σ L P) (hp : p ≤ L) (e : σ 3 1 = nI p) (hA : ActIs σ 2 a b 0 0) (hC : CO σ (paim P L a b p) Q) : wp_X3_takeAim σ Q := by
  obtain ⟨k1, k2, -⟩ := sk_ok (P := P) hp
  unfold paim at hC
  unfold wp_X3_takeAim
  refine s_X3_takeWord (by decide) hX hp e (fun w1 τ1 f1 e1 => ⟨fun t => absurd t (by decide), fun _ τ2 h2 => ?_⟩) (fun w1 τ1 f1 e1 => ⟨fun _ => ?_, fun t => absurd rfl t⟩)
  · rw [if_pos w1] at hC
    refine hC.yes (f1.jf.tr ⟨fun b x y z => by rw [h2, su_ne y], fun j hj => by rw [h2, su_ne (by decide)]⟩) ⟨by rw [h2, su_at, if_pos rfl], ?_⟩ (by rw [h2, su_ne (by decide)]; exact e1)
    rw [h2, su_ne (by decide)]
    exact (hA.pf f1).2
  · rw [if_neg (by rw [w1]; decide)] at hC
    refine s_X3_takeWord (by decide) (hX.pf f1) k2 e1 (fun w2 τ2 f2 e2 => ⟨fun t => absurd t (by decide), fun _ => ?_⟩) (fun w2 τ2 f2 e2 => ⟨fun _ => ?_, fun t => absurd rfl t⟩)
    · rw [sk_idem hp] at w2 e2
      rw [if_pos w2] at hC
      have hX2 := (hX.pf f1).pf f2
      have hp2 : sk P L p + wln 11 ≤ L := wdB_le w2
      obtain ⟨m1, m2, -⟩ := sk_ok (P := P) hp2
      refine s_X3_takeNumber (by decide) (by decide) (by decide) hX2 hp2 e2 (fun b3 τ3 g3 e3 => ⟨fun t => absurd t (by decide), fun _ => ?_⟩) (fun b3 τ3 g3 e3 => ⟨fun _ => ?_, fun t => absurd rfl t⟩)
      · rw [nmK_t b3] at hC
        refine s_X3_takeNumber (by decide) (by decide) (by decide) (hX2.jf g3.jf) (dc_ok (P := P) m2).1 e3 (fun b4 τ4 g4 e4 => ⟨fun t => absurd t (by decide), fun _ => ?_⟩) (fun b4 τ4 g4 e4 => ⟨fun _ => ?_, fun t => absurd rfl t⟩)
        · rw [nmK_t b4] at hC
          exact hC.yes ((f1.jf.tr f2.jf).tr (g3.jf.tr g4.jf)) ((((hA.pf f1).pf f2).g2 g3).g3 g4) e4
        · rw [nmK_f b4] at hC
          exact hC.no ((f1.jf.tr f2.jf).tr (g3.jf.tr g4.jf)) e4
      · rw [nmK_f b3] at hC
        exact hC.no ((f1.jf.tr f2.jf).tr g3.jf) e3
    · rw [sk_idem hp] at w2 e2
      rw [if_neg (by rw [w2]; decide)] at hC
      exact hC.no (f1.jf.tr f2.jf) e2
theorem s_X3_takeNumbers {σ : St} {L p w : Nat} {P : Nat → Nat} {Q : Int32 → St → Prop} (hw : w < 10) (hX : TX σ L P) (hp : p ≤ L) (e : σ 3 1 = nI p) (hA : ActIs σ (kcode w) 0 0 0 0) (hC : CO σ (pArg P L w p) Q) : wp_X3_takeNumbers σ Q := by
  unfold wp_X3_takeNumbers
  intro x hx
  have h4 : σ 4 1 = nI (kcode w) := hA.1
  rw [hx, h4]
  have h10 : w = 0 ∨ w = 1 ∨ w = 2 ∨ w = 3 ∨ w = 4 ∨ w = 5 ∨ w = 6 ∨ w = 7 ∨ w = 8 ∨ w = 9 := by omega
  rcases h10 with rfl | rfl | rfl | rfl | rfl | rfl | rfl | rfl | rfl | rfl
  · refine ⟨fun _ => ?_, fun t => absurd rfl t⟩
    exact s_tn1 (by decide) (by decide) hX hp e hA hC
  · refine ⟨fun t => absurd t (by decide), fun _ => ⟨fun _ => ?_, fun t => absurd rfl t⟩⟩
    exact s_tn2 (by decide) (by decide) hX hp e hA hC
  · refine ⟨fun t => absurd t (by decide), fun _ => ⟨fun t => absurd t (by decide), fun _ => ⟨fun _ => ?_, fun t => absurd rfl t⟩⟩⟩
    have hC2 : CO σ (paj P L p) Q := hC
    obtain ⟨k1, k2, -⟩ := sk_ok (P := P) hp
    unfold paj at hC2
    refine s_X3_takeNumber (by decide) (by decide) (by decide) hX hp e (fun b τ g et => ⟨fun t => absurd t (by decide), fun _ => ?_⟩) (fun b τ g et => ⟨fun _ => ?_, fun t => absurd rfl t⟩)
    · rw [nmK_t b] at hC2
      have hp2 := (dc_ok (P := P) k2).1
      obtain ⟨m1, m2, -⟩ := sk_ok (P := P) hp2
      refine s_X3_takeNumber (by decide) (by decide) (by decide) (hX.jf g.jf) hp2 et (fun b2 τ2 g2 et2 => ⟨fun t => absurd t (by decide), fun _ => ?_⟩) (fun b2 τ2 g2 et2 => ⟨fun _ => ?_, fun t => absurd rfl t⟩)
      · rw [nmK_t b2] at hC2
        refine s_X3_takeAim (a := dv P (sk P L p) (dc P L (sk P L p))) (hX.jf (g.jf.tr g2.jf)) (dc_ok (P := P) m2).1 et2 ((hA.g0 g).g1 g2) ⟨fun k a b c d e q τ' f' A' e' => ⟨fun t => absurd t (by decide), fun _ => ?_⟩, fun v q τ' f' e' => ⟨fun _ => ?_, fun t => absurd rfl t⟩⟩
        · exact hC2.1 k a b c d e q τ' ((g.jf.tr g2.jf).tr f') A' e'
        · exact hC2.2 v q τ' ((g.jf.tr g2.jf).tr f') e'
      · rw [nmK_f b2] at hC2
        exact hC2.no (g.jf.tr g2.jf) et2
    · rw [nmK_f b] at hC2
      exact hC2.no g.jf et
  · refine ⟨fun t => absurd t (by decide), fun _ => ⟨fun t => absurd t (by decide), fun _ => ⟨fun t => absurd t (by decide), fun _ => ⟨fun t => absurd t (by decide), fun _ => ⟨fun _ => ?_, fun t => absurd rfl t⟩⟩⟩⟩⟩
    unfold wp_X3_takeNumbers_137
    exact s_tn1 (by decide) (by decide) hX hp e hA hC
  · refine ⟨fun t => absurd t (by decide), fun _ => ⟨fun t => absurd t (by decide), fun _ => ⟨fun t => absurd t (by decide), fun _ => ⟨fun t => absurd t (by decide), fun _ => ⟨fun t => absurd t (by decide), fun _ => ⟨fun _ => ?_, fun t => absurd rfl t⟩⟩⟩⟩⟩⟩
    unfold wp_X3_takeNumbers_137
    exact s_tn1 (by decide) (by decide) hX hp e hA hC
  · refine ⟨fun t => absurd t (by decide), fun _ => ⟨fun t => absurd t (by decide), fun _ => ⟨fun t => absurd t (by decide), fun _ => ⟨fun t => absurd t (by decide), fun _ => ⟨fun t => absurd t (by decide), fun _ => ⟨fun t => absurd t (by decide), fun _ => ⟨fun _ => ?_, fun t => absurd rfl t⟩⟩⟩⟩⟩⟩⟩
    unfold wp_X3_takeNumbers_137
    exact s_tn1 (by decide) (by decide) hX hp e hA hC
  · refine ⟨fun t => absurd t (by decide), fun _ => ⟨fun t => absurd t (by decide), fun _ => ⟨fun t => absurd t (by decide), fun _ => ⟨fun t => absurd t (by decide), fun _ => ⟨fun t => absurd t (by decide), fun _ => ⟨fun t => absurd t (by decide), fun _ => ⟨fun t => absurd t (by decide), fun _ => ⟨fun _ => ?_, fun t => absurd rfl t⟩⟩⟩⟩⟩⟩⟩⟩
    exact hC.1 7 0 0 0 0 p rfl σ (Jf.rf σ) hA e
  · refine ⟨fun t => absurd t (by decide), fun _ => ⟨fun t => absurd t (by decide), fun _ => ⟨fun t => absurd t (by decide), fun _ => ⟨fun t => absurd t (by decide), fun _ => ⟨fun t => absurd t (by decide), fun _ => ⟨fun t => absurd t (by decide), fun _ => ⟨fun t => absurd t (by decide), fun _ => ⟨fun t => absurd t (by decide), fun _ => ⟨fun _ => ?_, fun t => absurd rfl t⟩⟩⟩⟩⟩⟩⟩⟩⟩
    exact s_tn2 (by decide) (by decide) hX hp e hA hC
  · refine ⟨fun t => absurd t (by decide), fun _ => ⟨fun t => absurd t (by decide), fun _ => ⟨fun t => absurd t (by decide), fun _ => ⟨fun t => absurd t (by decide), fun _ => ⟨fun t => absurd t (by decide), fun _ => ⟨fun t => absurd t (by decide), fun _ => ⟨fun t => absurd t (by decide), fun _ => ⟨fun t => absurd t (by decide), fun _ => ⟨fun t => absurd t (by decide), fun _ => ⟨fun _ => ?_, fun t => absurd rfl t⟩⟩⟩⟩⟩⟩⟩⟩⟩⟩
    exact s_tn1 (by decide) (by decide) hX hp e hA hC
  · refine ⟨fun t => absurd t (by decide), fun _ => ⟨fun t => absurd t (by decide), fun _ => ⟨fun t => absurd t (by decide), fun _ => ⟨fun t => absurd t (by decide), fun _ => ⟨fun t => absurd t (by decide), fun _ => ⟨fun t => absurd t (by decide), fun _ => ⟨fun t => absurd t (by decide), fun _ => ⟨fun t => absurd t (by decide), fun _ => ⟨fun t => absurd t (by decide), fun _ => ⟨fun t => absurd t (by decide), fun _ => ?_⟩⟩⟩⟩⟩⟩⟩⟩⟩⟩
    exact hC.1 10 0 0 0 0 p rfl σ (Jf.rf σ) hA e
theorem s_twq {σ : St} {L q w : Nat} {P : Nat → Nat} {Q : Int32 → St → Prop} (hw : w < 12) (hX : TX σ L P) (hq : q ≤ L) (hs : sk P L q = q) (e : σ 3 1 = nI q)
    (h1 : wdB P L w q = true → ∀ τ, Pf σ τ → τ 3 1 = nI (q + wln w) → Q (nI 1) τ) (h0 : wdB P L w q = false → ∀ τ, Pf σ τ → τ 3 1 = nI q → Q (nI 0) τ) : wp_X3_takeWord σ w Q :=
  s_X3_takeWord hw hX hq e (by rw [hs]; exact h1) (by rw [hs]; exact h0)
theorem s_X3_takeKind {σ : St} {L q : Nat} {P : Nat → Nat} {Q : Int32 → St → Prop} (hX : TX σ L P) (hq : q ≤ L) (hs : sk P L q = q) (e : σ 3 1 = nI q)
    (h1 : ∀ w, kd P L q = some w → w < 10 → ∀ τ, Jf σ τ → ActIs τ (kcode w) 0 0 0 0 → τ 3 1 = nI (q + wln w) → Q (nI 1) τ) (h0 : kd P L q = none → ∀ τ, Jf σ τ → τ 3 1 = nI q → Q (nI 0) τ) : wp_X3_takeKind σ Q := by
  have fin : ∀ w, w < 10 → kd P L q = some w → ∀ τ, Pf σ τ → τ 3 1 = nI (q + wln w) → wp_X3_takeKind_136 τ (nI (kcode w)) Q := fun w hw hk τ hf et => by
    unfold wp_X3_takeKind_136
    refine s_X0_tell (fun τ2 m2 a0 a1 a2 a3 a4 => ?_)
    rw [n_em (by unfold kcode; split <;> omega)]
    refine ⟨fun t => t.elim, fun _ => h1 w hk hw τ2 (hf.jf.tr ⟨fun b x y z => m2 b y z, fun j hj => by rw [m2 3 (by decide) (by decide)]⟩) ⟨a0, a1, a2, a3, a4⟩ (by rw [m2 3 (by decide) (by decide)]; exact et)⟩
  unfold wp_X3_takeKind
  have k0 : kd P L q = kdR P L q 10 0 := rfl
  refine s_twq (by decide) hX hq hs e (fun b0 τ0 g0 e0 => ⟨fun t => absurd t (by decide), fun _ => fin 0 (by decide) (k0.trans (kdR_t b0)) τ0 g0 e0⟩) (fun b0 τ0 g0 e0 => ⟨fun _ => ?_, fun t => absurd rfl t⟩)
  have k1 := k0.trans (kdR_f b0)
  have x0 := hX.pf g0
  have f0 : Pf σ τ0 := g0
  refine s_twq (by decide) x0 hq hs e0 (fun b1 τ1 g1 e1 => ⟨fun t => absurd t (by decide), fun _ => fin 1 (by decide) (k1.trans (kdR_t b1)) τ1 (f0.tr g1) e1⟩) (fun b1 τ1 g1 e1 => ⟨fun _ => ?_, fun t => absurd rfl t⟩)
  have k2 := k1.trans (kdR_f b1)
  have x1 := x0.pf g1
  have f1 : Pf σ τ1 := (f0.tr g1)
  refine s_twq (by decide) x1 hq hs e1 (fun b2 τ2 g2 e2 => ⟨fun t => absurd t (by decide), fun _ => fin 2 (by decide) (k2.trans (kdR_t b2)) τ2 (f1.tr g2) e2⟩) (fun b2 τ2 g2 e2 => ⟨fun _ => ?_, fun t => absurd rfl t⟩)
  have k3 := k2.trans (kdR_f b2)
  have x2 := x1.pf g2
  have f2 : Pf σ τ2 := (f1.tr g2)
  refine s_twq (by decide) x2 hq hs e2 (fun b3 τ3 g3 e3 => ⟨fun t => absurd t (by decide), fun _ => fin 3 (by decide) (k3.trans (kdR_t b3)) τ3 (f2.tr g3) e3⟩) (fun b3 τ3 g3 e3 => ⟨fun _ => ?_, fun t => absurd rfl t⟩)
  have k4 := k3.trans (kdR_f b3)
  have x3 := x2.pf g3
  have f3 : Pf σ τ3 := (f2.tr g3)
  refine s_twq (by decide) x3 hq hs e3 (fun b4 τ4 g4 e4 => ⟨fun t => absurd t (by decide), fun _ => fin 4 (by decide) (k4.trans (kdR_t b4)) τ4 (f3.tr g4) e4⟩) (fun b4 τ4 g4 e4 => ⟨fun _ => ?_, fun t => absurd rfl t⟩)
  have k5 := k4.trans (kdR_f b4)
  have x4 := x3.pf g4
  have f4 : Pf σ τ4 := (f3.tr g4)
  refine s_twq (by decide) x4 hq hs e4 (fun b5 τ5 g5 e5 => ⟨fun t => absurd t (by decide), fun _ => fin 5 (by decide) (k5.trans (kdR_t b5)) τ5 (f4.tr g5) e5⟩) (fun b5 τ5 g5 e5 => ⟨fun _ => ?_, fun t => absurd rfl t⟩)
  have k6 := k5.trans (kdR_f b5)
  have x5 := x4.pf g5
  have f5 : Pf σ τ5 := (f4.tr g5)
  refine s_twq (by decide) x5 hq hs e5 (fun b6 τ6 g6 e6 => ⟨fun t => absurd t (by decide), fun _ => fin 6 (by decide) (k6.trans (kdR_t b6)) τ6 (f5.tr g6) e6⟩) (fun b6 τ6 g6 e6 => ⟨fun _ => ?_, fun t => absurd rfl t⟩)
  have k7 := k6.trans (kdR_f b6)
  have x6 := x5.pf g6
  have f6 : Pf σ τ6 := (f5.tr g6)
  refine s_twq (by decide) x6 hq hs e6 (fun b7 τ7 g7 e7 => ⟨fun t => absurd t (by decide), fun _ => fin 7 (by decide) (k7.trans (kdR_t b7)) τ7 (f6.tr g7) e7⟩) (fun b7 τ7 g7 e7 => ⟨fun _ => ?_, fun t => absurd rfl t⟩)
  have k8 := k7.trans (kdR_f b7)
  have x7 := x6.pf g7
  have f7 : Pf σ τ7 := (f6.tr g7)
  refine s_twq (by decide) x7 hq hs e7 (fun b8 τ8 g8 e8 => ⟨fun t => absurd t (by decide), fun _ => fin 8 (by decide) (k8.trans (kdR_t b8)) τ8 (f7.tr g8) e8⟩) (fun b8 τ8 g8 e8 => ⟨fun _ => ?_, fun t => absurd rfl t⟩)
  have k9 := k8.trans (kdR_f b8)
  have x8 := x7.pf g8
  have f8 : Pf σ τ8 := (f7.tr g8)
  refine s_twq (by decide) x8 hq hs e8 (fun b9 τ9 g9 e9 => ⟨fun t => absurd t (by decide), fun _ => fin 9 (by decide) (k9.trans (kdR_t b9)) τ9 (f8.tr g9) e9⟩) (fun b9 τ9 g9 e9 => ⟨fun _ => ?_, fun t => absurd rfl t⟩)
  have k10 := k9.trans (kdR_f b9)
  have x9 := x8.pf g9
  have f9 : Pf σ τ9 := (f8.tr g9)
  unfold wp_X3_takeKind_136
  refine s_X0_tell (fun τ m2 a0 a1 a2 a3 a4 => ⟨fun _ => ?_, fun t => absurd rfl t⟩)
  exact h0 k10 τ (f9.jf.tr ⟨fun b x y z => m2 b y z, fun j hj => by rw [m2 3 (by decide) (by decide)]⟩) (by rw [m2 3 (by decide) (by decide)]; exact e9)
/-- where the next act starts; what it comes to -/
def qst (P : Nat → Nat) (L c p : Nat) : Nat := if c = 0 then sk P L p else sk P L (sk P L p + 1)
def rdA (P : Nat → Nat) (L c p : Nat) : PA := if c ≠ 0 ∧ P (sk P L p) ≠ 59 then (none, sk P L p) else if c = 14 then (none, qst P L c p) else pAct P L (qst P L c p)
theorem rdA_ok {P : Nat → Nat} {L c p : Nat} (hp : sk P L p < L) : PAok L (rdA P L c p) := by
  have hq : qst P L c p ≤ L := by
    unfold qst
    split
    · omega
    · exact (sk_ok (P := P) (show sk P L p + 1 ≤ L by omega)).2.1
  unfold rdA
  split
  · exact PAok.no (by omega)
  · split
    · exact PAok.no hq
    · exact pAct_ok hq
def If (σ τ : St) : Prop := ∀ b, b ≠ 3 → b ≠ 4 → b ≠ 5 → τ b = σ b
theorem s_X3_takeAct {σ : St} {L c p : Nat} {P : Nat → Nat} {Q : Int32 → St → Prop} (hX : TX σ L P) (hp : p ≤ L) (hc : c ≤ 14) (e1 : σ 3 1 = nI p) (e3 : σ 3 3 = nI c) (e4 : σ 3 4 = 0)
    (hE : L ≤ sk P L p → ∀ τ, If σ τ → τ 3 4 = 0 → Q (nI 0) τ)
    (hW : ∀ v, sk P L p < L → rdA P L c p = (none, v) → ∀ τ, If σ τ → τ 3 4 = nI 1 → τ 3 1 = nI v → Q (nI 0) τ)
    (hA : ∀ k a b c' d e, sk P L p < L → rdA P L c p = (some (k, a, b, c', d), e) → ∀ τ, If σ τ → ActIs τ k a b c' d → τ 3 1 = nI e → τ 3 2 = nI (qst P L c p) → τ 3 3 = nI (c + 1) → τ 3 4 = 0 → Q (nI 1) τ) : wp_X3_takeAct σ Q := by
  have hL := hX.2.1
  obtain ⟨k1, k2, -⟩ := sk_ok (P := P) hp
  unfold wp_X3_takeAct
  refine s_X3_skipBlanks hX hp e1 (fun τ hf eq => ?_)
  have hXt := hX.pf hf
  rw [eq, hXt.1, hf.2 3 (by decide), e3, n_lt (by omega) (by omega), n_le0 (by omega)]
  refine ⟨fun hlt => ?_, fun hge => hE (by omega) τ (fun b x _ _ => hf.1 b x) (by rw [hf.2 4 (by decide)]; exact e4)⟩
  have good : ¬ (c ≠ 0 ∧ P (sk P L p) ≠ 59) → ∀ τ1 p1, Pf σ τ1 → τ1 3 1 = nI p1 → p1 ≤ L → sk P L p1 = qst P L c p → wp_X3_takeAct_39 τ1 Q := fun hno τ1 p1 f1 et1 hp1 hq => by
    have hr : rdA P L c p = if c = 14 then (none, qst P L c p) else pAct P L (qst P L c p) := by unfold rdA; rw [if_neg hno]
    unfold wp_X3_takeAct_39 wp_X3_takeAct_40
    refine ⟨Or.inl (by decide), fun τ2 h2 => ?_⟩
    have i2 : If σ τ2 := fun b x y z => by rw [h2, su_ne x]; exact f1.1 b x
    have z4 : τ2 3 4 = 0 := by rw [h2, su_at, if_pos rfl]; decide
    have z3 : τ2 3 3 = nI c := by rw [h2, su_at, if_neg (by decide), f1.2 3 (by decide)]; exact e3
    have z1 : τ2 3 1 = nI p1 := by rw [h2, su_at, if_neg (by decide)]; exact et1
    have x2 : TX τ2 L P := hX.congr (i2 1 (by decide) (by decide) (by decide)) (i2 2 (by decide) (by decide) (by decide))
    rw [z4]
    refine ⟨fun _ => s_X3_skipBlanks x2 hp1 z1 (fun τ3 f3 et3 τ4 h4 => ?_), fun t => absurd rfl t⟩
    obtain ⟨m1, m2, -⟩ := sk_ok (P := P) hp1
    have hid : sk P L (sk P L p1) = sk P L p1 := sk_idem hp1
    rw [hq] at et3 m1 m2 hid
    generalize hqq : qst P L c p = q at *
    have i4 : If σ τ4 := fun b x y z => by rw [h4, su_ne x, f3.1 b x]; exact i2 b x y z
    have y1 : τ4 3 1 = nI q := by rw [h4, su_at, if_neg (by decide)]; exact et3
    have y2 : τ4 3 2 = nI q := by rw [h4, su_at, if_pos rfl]; exact et3
    have y3 : τ4 3 3 = nI c := by rw [h4, su_at, if_neg (by decide), f3.2 3 (by decide)]; exact z3
    have x4 : TX τ4 L P := hX.congr (i4 1 (by decide) (by decide) (by decide)) (i4 2 (by decide) (by decide) (by decide))
    have bad : ∀ τ5 v, rdA P L c p = (none, v) → If σ τ5 → τ5 3 1 = nI v → wp_X3_takeAct_90 τ5 Q := fun τ5 v er i5 ev => by
      unfold wp_X3_takeAct_90 wp_X3_takeAct_95
      refine ⟨Or.inr (by decide), fun τ6 h6 τ7 h7 => ?_⟩
      have w4 : τ7 3 4 = nI 1 := by rw [h7, su_at, if_neg (by decide), h6, su_at, if_pos rfl]
      rw [w4]
      refine ⟨fun _ => hW v hlt er τ7 (fun b x y z => by rw [h7, su_ne x, h6, su_ne x]; exact i5 b x y z) w4 (by rw [h7, su_at, if_neg (by decide), h6, su_at, if_neg (by decide)]; exact ev), fun t => absurd t (by decide)⟩
    rw [y3, n_le (by omega) (by omega)]
    refine ⟨fun c14 => bad τ4 q (by rw [hr, if_pos (by omega)]) i4 y1, fun c14 => ?_⟩
    rw [if_neg (by omega)] at hr
    refine s_X3_takeKind x4 m2 hid y1 (fun w hk hw τ5 f5 A5 e5 => ⟨fun t => absurd t (by decide), fun _ => ?_⟩) (fun hk τ5 f5 e5 => ⟨fun _ => ?_, fun t => absurd rfl t⟩)
    · have hr2 : rdA P L c p = pArg P L w (q + wln w) := by rw [hr]; unfold pAct; rw [hk]
      have i5 : If σ τ5 := fun b x y z => by rw [f5.1 b x y z]; exact i4 b x y z
      refine s_X3_takeNumbers hw (x4.jf f5) (wdB_le (kdR_ok 10 0 w hk).2.2) e5 A5 ⟨fun k a b c' d e q2 τ6 f6 A6 e6 => ⟨fun _ => ?_, fun t => absurd t (by decide)⟩, fun v q2 τ6 f6 e6 => ⟨fun t => absurd rfl t, fun _ => ?_⟩⟩
      · unfold wp_X3_takeAct_95
        refine ⟨Or.inl (by decide), fun τ7 h7 τ8 h8 => ?_⟩
        have w4 : τ8 3 4 = 0 := by rw [h8, su_at, if_neg (by decide), h7, su_at, if_pos rfl]; decide
        have w3 : τ7 3 3 = nI c := by rw [h7, su_at, if_neg (by decide), f6.2 3 (by decide), f5.2 3 (by decide)]; exact y3
        have n8 : ∀ b, b ≠ 3 → τ8 b = τ6 b := fun b hb => by rw [h8, su_ne hb, h7, su_ne hb]
        rw [w4]
        refine ⟨fun t => absurd rfl t, fun _ => hA k a b c' d e hlt (hr2.trans q2) τ8 (fun b x y z => by rw [n8 b x, f6.1 b x y z]; exact i5 b x y z) ?_ ?_ ?_ ?_ w4⟩
        · unfold ActIs
          rw [n8 4 (by decide), n8 5 (by decide)]
          exact A6
        · rw [h8, su_at, if_neg (by decide), h7, su_at, if_neg (by decide)]; exact e6
        · rw [h8, su_at, if_neg (by decide), h7, su_at, if_neg (by decide), f6.2 2 (by decide), f5.2 2 (by decide)]; exact y2
        · rw [h8, su_at, if_pos rfl, w3, n_add]
      · exact bad τ6 v (hr2.trans q2) (fun b x y z => by rw [f6.1 b x y z]; exact i5 b x y z) e6
    · exact bad τ5 q (by rw [hr]; unfold pAct; rw [hk]) (fun b x y z => by rw [f5.1 b x y z]; exact i4 b x y z) e5
  refine ⟨fun c0 => good (fun t => t.1 c0) τ (sk P L p) hf eq k2 (by unfold qst; rw [if_pos c0, sk_idem hp]), fun c0 => ?_⟩
  unfold wp_X3_takeSemicolon
  rw [eq, n_add]
  refine s_X3_isBetween hXt (by omega) (by decide) (by decide) (fun d => ⟨fun _ τ1 h1 => ⟨fun _ => ?_, fun t => absurd t (by decide)⟩, fun t => absurd t (by decide)⟩) (fun d => ⟨fun t => absurd rfl t, fun _ => ⟨fun t => absurd rfl t, fun _ => ?_⟩⟩)
  · exact good (fun t => t.2 (by omega)) τ1 (sk P L p + 1) (hf.tr (Pf.su _ h1)) (by rw [h1, su_at, if_pos rfl]) (by omega) (by unfold qst; rw [if_neg c0])
  · unfold wp_X3_takeAct_40
    refine ⟨Or.inr (by decide), fun τ2 h2 => ?_⟩
    have w4 : τ2 3 4 = nI 1 := by rw [h2, su_at, if_pos rfl]
    rw [w4]
    refine ⟨fun t => absurd t (by decide), fun _ => hW (sk P L p) hlt ?_ τ2 (fun b x y z => by rw [h2, su_ne x]; exact hf.1 b x) w4 (by rw [h2, su_at, if_neg (by decide)]; exact eq)⟩
    unfold rdA
    rw [if_pos ⟨c0, by omega⟩]
