/-! TEXT: the reference does an act -/
def Zf (σ τ : St) : Prop := (∀ b, b < 244 ∨ (245 < b ∧ b < 250) ∨ 257 < b → τ b = σ b) ∧ ∀ j, j < 11 → τ 244 j = σ 244 j
theorem Zf.rf (σ : St) : Zf σ σ := ⟨fun _ _ => rfl, fun _ _ => rfl⟩
theorem Zf.tr {σ τ ρ : St} (h1 : Zf σ τ) (h2 : Zf τ ρ) : Zf σ ρ := ⟨fun b hb => (h2.1 b hb).trans (h1.1 b hb), fun j hj => (h2.2 j hj).trans (h1.2 j hj)⟩
theorem Mf.zf {σ τ : St} (h : Mf σ τ) : Zf σ τ := ⟨h.1, fun j hj => h.2 j (by omega)⟩
theorem Qf.zf {σ τ : St} (h : Qf σ τ) : Zf σ τ := ⟨fun b hb => h.1 b (by omega), fun j hj => h.2 j (by omega) (by omega)⟩
theorem TR.zf {σ τ : St} {L : Nat} {P : Nat → Nat} (h : TR σ L P) (hf : Zf σ τ) : TR τ L P := by
  unfold TR
  rw [hf.2 10 (by decide), hf.1 249 (by omega)]
  exact h
/-- all is well so far; something was wrong at v -/
def Aw (σ τ : St) (f : Nat → Int32) (e : Nat) : Prop := Zf σ τ ∧ τ 245 = f ∧ τ 244 11 = nI e ∧ τ 244 12 = -1
def Fa (σ τ : St) (f : Nat → Int32) (v L : Nat) : Prop := Zf σ τ ∧ τ 245 = f ∧ (∃ p, p ≤ L ∧ τ 244 11 = nI p) ∧ τ 244 12 = nI v ∧ v ≤ L ∧ L ≤ 400
theorem Aw.mf {σ τ τ' : St} {f f' : Nat → Int32} {e : Nat} (h : Aw σ τ f e) (hM : Mf τ τ') (h5 : τ' 245 = f') : Aw σ τ' f' e := ⟨h.1.tr hM.zf, h5, by rw [hM.2 11 (by decide)]; exact h.2.2.1, by rw [hM.2 12 (by decide)]; exact h.2.2.2⟩
theorem Aw.qp {σ τ τ' : St} {f : Nat → Int32} {e e' : Nat} (h : Aw σ τ f e) (hQ : Qp τ τ') (h5 : τ' 244 11 = nI e') : Aw σ τ' f e' := ⟨h.1.tr hQ.qf.zf, by rw [hQ.1 245 (by decide)]; exact h.2.1, h5, by rw [hQ.2 12 (by decide)]; exact h.2.2.2⟩
theorem Aw.wr {σ τ τ' : St} {f : Nat → Int32} {e v L : Nat} (h : Aw σ τ f e) (he : e ≤ L) (hv : v ≤ L) (hL : L ≤ 400) (h5 : τ' = su τ 244 12 (nI v)) : Fa σ τ' f v L := ⟨h.1.tr (Qf.su _ h5).zf, by rw [h5, su_ne (by decide)]; exact h.2.1, ⟨e, he, by rw [h5, su_at, if_neg (by decide)]; exact h.2.2.1⟩, by rw [h5, su_at, if_pos rfl], hv, hL⟩
theorem Fa.ne {σ τ : St} {f : Nat → Int32} {v L : Nat} (h : Fa σ τ f v L) : τ 244 12 ≠ -1 := fun t => by
  obtain ⟨-, -, -, h4, h5, h6⟩ := h
  rw [h4, n_em (by omega)] at t
  exact t
theorem Fa.qp {σ τ τ' : St} {f : Nat → Int32} {v L e' : Nat} (h : Fa σ τ f v L) (hQ : Qp τ τ') (he : e' ≤ L) (h5 : τ' 244 11 = nI e') : Fa σ τ' f v L := ⟨h.1.tr hQ.qf.zf, by rw [hQ.1 245 (by decide)]; exact h.2.1, ⟨e', he, h5⟩, by rw [hQ.2 12 (by decide)]; exact h.2.2.2.1, h.2.2.2.2⟩
theorem s_num {σ τ : St} {f : Nat → Int32} {L p lo hi : Nat} {P : Nat → Nat} {K : Int32 → St → Prop} (hT : TR σ L P) (hA : Aw σ τ f p) (hp : p ≤ L) (hlo : lo < 1000) (hhi : hi < 1000)
    (h1 : nmB P L lo hi (sk P L p) = true → ∀ τ', Aw σ τ' f (sk P L p + dc P L (sk P L p)) → K (nI (dv P (sk P L p) (dc P L (sk P L p)))) τ') (h0 : nmB P L lo hi (sk P L p) = false → ∀ τ' v, Fa σ τ' f (sk P L p) L → K v τ') : wp_X9_number τ (nI lo) (nI hi) K :=
  s_X9_number hlo hhi (hT.zf hA.1) hp hA.2.2.1 hA.2.2.2 (fun b τ' g e' => h1 b τ' (hA.qp g e')) (fun b τ' v p' g hp' e' f' => h0 b τ' v ⟨hA.1.tr g.zf, by rw [g.1 245 (by decide)]; exact hA.2.1, ⟨p', hp', e'⟩, f', (sk_ok hp).2.1, hT.2.1⟩)
theorem s_numf {σ τ : St} {f : Nat → Int32} {L v : Nat} {x y : Int32} {K : Int32 → St → Prop} (hF : Fa σ τ f v L) (h : K (nI 0) τ) : wp_X9_number τ x y K := s_X9_number_f hF.ne h
theorem s_has {σ τ : St} {f : Nat → Int32} {L p w : Nat} {P : Nat → Nat} {K : Int32 → St → Prop} (hw : w < 12) (hT : TR σ L P) (hA : Aw σ τ f p) (hp : p ≤ L)
    (h1 : wdB P L w (sk P L p) = true → ∀ τ', Aw σ τ' f (sk P L p + wln w) → K (nI 1) τ') (h0 : wdB P L w (sk P L p) = false → ∀ τ', Aw σ τ' f (sk P L p) → K (nI 0) τ') : wp_X9_has τ w K :=
  s_X9_has hw (hT.zf hA.1) hp hA.2.2.1 hA.2.2.2 (fun b τ' g e' => h1 b τ' (hA.qp g e')) (fun b τ' g e' => h0 b τ' (hA.qp g e'))
theorem s_hasf {σ τ : St} {f : Nat → Int32} {L v w : Nat} {P : Nat → Nat} {K : Int32 → St → Prop} (hT : TR σ L P) (hF : Fa σ τ f v L) (h : ∀ τ', Fa σ τ' f v L → K (nI 0) τ') : wp_X9_has τ w K := by
  obtain ⟨p, hp, ep⟩ := hF.2.2.1
  exact s_X9_has_f (hT.zf hF.1) hp ep hF.ne (fun τ' g e' => h τ' (hF.qp g (sk_ok hp).2.1 e'))
/-- how the reference ends an act that starts at q -/
def RO (σ : St) (L : Nat) (f : Nat → Int32) (q : Nat) (r : PA) (Q : Int32 → St → Prop) : Prop :=
  (∀ v, r = (none, v) → ∀ τ, Fa σ τ f v L → Q (nI 0) τ) ∧
  (∀ k a b c d e, r = (some (k, a, b, c, d), e) → (acode f k a b c d ≠ 0 → ∀ τ, Zf σ τ → τ 245 = f → τ 244 11 = nI e → τ 244 12 = nI q → Q (nI (acode f k a b c d)) τ) ∧ (acode f k a b c d = 0 → ∀ τ, Aw σ τ (arow f k a b c d) e → Q (nI 0) τ))
theorem RO.no {σ τ : St} {L q v : Nat} {f : Nat → Int32} {Q : Int32 → St → Prop} (h : RO σ L f q (none, v) Q) (hF : Fa σ τ f v L) : wp_X9_act_231 τ (nI q) (nI 0) Q := by
  unfold wp_X9_act_231
  exact ⟨fun _ => h.1 v rfl τ hF, fun t => absurd (by decide) t⟩
theorem RO.ok {σ τ : St} {L q k a b c d e : Nat} {f : Nat → Int32} {Q : Int32 → St → Prop} (h : RO σ L f q (some (k, a, b, c, d), e) Q) (c0 : acode f k a b c d = 0) (hA : Aw σ τ (arow f k a b c d) e) : wp_X9_act_231 τ (nI q) (nI 0) Q := by
  unfold wp_X9_act_231
  exact ⟨fun _ => (h.2 k a b c d e rfl).2 c0 τ hA, fun t => absurd (by decide) t⟩
theorem RO.re {σ τ : St} {L q k a b c d e n : Nat} {f : Nat → Int32} {Q : Int32 → St → Prop} (h : RO σ L f q (some (k, a, b, c, d), e) Q) (hk : k ≤ 10) (c0 : acode f k a b c d ≠ 0) (en : acode f k a b c d = n) (hA : Aw σ τ f e) : wp_X9_act_231 τ (nI q) (nI n) Q := by
  have hle := acode_le f hk a b c d
  rw [← en]
  unfold wp_X9_act_231
  rw [n_le0 (by omega)]
  refine ⟨fun t => absurd t c0, fun _ => s_X9_wrong hA.2.2.2 (fun τ2 h2 => ?_)⟩
  exact (h.2 k a b c d e rfl).1 c0 τ2 (hA.1.tr (Qf.su _ h2).zf) (by rw [h2, su_ne (by decide)]; exact hA.2.1) (by rw [h2, su_at, if_neg (by decide)]; exact hA.2.2.1) (by rw [h2, su_at, if_pos rfl])
theorem b_net {σ τ : St} {L p q : Nat} {P : Nat → Nat} {f : Nat → Int32} {Q : Int32 → St → Prop} (hT : TR σ L P) (hA : Aw σ τ f p) (hp : p ≤ L) (hO : RO σ L f q (pa1 P L 0 1 3 p) Q) :
    wp_X9_number τ (nI 1) (nI 3) (fun r_57 σ_58 => ((¬ (σ_58 244 12) = (-1) → (wp_X9_act_37 σ_58 (nI q) (nI 0) Q)) ∧ ((σ_58 244 12) = (-1) → (wp_X9_clearsAll σ_58 r_57 (fun σ_60 => (wp_X9_act_37 σ_60 (nI q) (nI 0) Q)))))) := by
  unfold pa1 at hO
  refine s_num hT hA hp (by decide) (by decide) (fun b τ1 A1 => ⟨fun t => absurd A1.2.2.2 t, fun _ => ?_⟩) (fun b τ1 v F1 => ⟨fun _ => ?_, fun t => absurd t F1.ne⟩)
  · rw [nmK_t b] at hO
    refine s_X9_clearsAll A1.2.1 (fun τ2 hM e2 => ?_)
    exact hO.ok rfl (A1.mf hM e2)
  · rw [nmK_f b] at hO
    exact hO.no F1
theorem b_land {σ τ : St} {L p q : Nat} {P : Nat → Nat} {f : Nat → Int32} {Q : Int32 → St → Prop} (hf : Good f) (hT : TR σ L P) (hA : Aw σ τ f p) (hp : p ≤ L) (hO : RO σ L f q (pa2 P L 1 99 99 p) Q) : wp_X9_landmarkText τ (fun r σ' => wp_X9_act_231 σ' (nI q) r Q) := by
  obtain ⟨k1, k2, -⟩ := sk_ok (P := P) hp
  unfold pa2 at hO
  unfold wp_X9_landmarkText
  refine s_num hT hA hp (by decide) (by decide) (fun b τ1 A1 => ?_) (fun b τ1 v F1 => s_numf F1 ⟨fun _ => ?_, fun t => absurd t F1.ne⟩)
  · rw [nmK_t b] at hO
    refine s_num hT A1 (dc_ok (P := P) k2).1 (by decide) (by decide) (fun b2 τ2 A2 => ⟨fun t => absurd A2.2.2.2 t, fun _ => ?_⟩) (fun b2 τ2 v F2 => ⟨fun _ => ?_, fun t => absurd t F2.ne⟩)
    · rw [nmK_t b2] at hO
      refine s_X9_landmark0 hf A2.2.1 (fun c => ?_) (fun c τ3 hM e3 => ?_)
      · have c0 : acode f 1 (dv P (sk P L p) (dc P L (sk P L p))) (dv P (sk P L (sk P L p + dc P L (sk P L p))) (dc P L (sk P L (sk P L p + dc P L (sk P L p))))) 0 0 = 10 := by
          show (if gK f = 3 then 10 else 0) = 10
          rw [if_pos c]
        exact hO.re (by decide) (by rw [c0]; decide) c0 A2
      · refine hO.ok ?_ (A2.mf hM e3)
        show (if gK f = 3 then 10 else 0) = 0
        rw [if_neg (by omega)]
    · rw [nmK_f b2] at hO
      exact hO.no F2
  · rw [nmK_f b] at hO
    exact hO.no F1
theorem b_put {σ τ : St} {L p q : Nat} {P : Nat → Nat} {f : Nat → Int32} {Q : Int32 → St → Prop} (hf : Good f) (hT : TR σ L P) (hA : Aw σ τ f p) (hp : p ≤ L) (hO : RO σ L f q (pa2 P L 8 99 999 p) Q) : wp_X9_putText τ (fun r σ' => wp_X9_act_231 σ' (nI q) r Q) := by
  obtain ⟨k1, k2, -⟩ := sk_ok (P := P) hp
  unfold pa2 at hO
  unfold wp_X9_putText
  refine s_num hT hA hp (by decide) (by decide) (fun b τ1 A1 => ?_) (fun b τ1 v F1 => s_numf F1 ⟨fun _ => ?_, fun t => absurd t F1.ne⟩)
  · rw [nmK_t b] at hO
    have ha := nmB_iff.mp b
    refine s_num hT A1 (dc_ok (P := P) k2).1 (by decide) (by decide) (fun b2 τ2 A2 => ⟨fun t => absurd A2.2.2.2 t, fun _ => ?_⟩) (fun b2 τ2 v F2 => ⟨fun _ => ?_, fun t => absurd t F2.ne⟩)
    · rw [nmK_t b2] at hO
      have hb := nmB_iff.mp b2
      generalize dv P (sk P L p) (dc P L (sk P L p)) = a at *
      generalize dv P (sk P L (sk P L p + dc P L (sk P L p))) (dc P L (sk P L (sk P L p + dc P L (sk P L p)))) = b' at *
      refine s_X9_put0 hf A2.2.1 (by omega) (by omega) (fun c τ3 hM e3 => ?_) (fun c τ3 hM e3 => ?_)
      · have c0 : acode f 8 a b' 0 0 = 8 := by
          show (if wth f a = 0 then 8 else 0) = 8
          rw [if_pos c]
        exact hO.re (by decide) (by rw [c0]; decide) c0 (A2.mf hM e3)
      · refine hO.ok ?_ (A2.mf hM e3)
        show (if wth f a = 0 then 8 else 0) = 0
        rw [if_neg c]
    · rw [nmK_f b2] at hO
      exact hO.no F2
  · rw [nmK_f b] at hO
    exact hO.no F1
theorem b_go {σ τ : St} {L p q h : Nat} {P : Nat → Nat} {f : Nat → Int32} {Q : Int32 → St → Prop} (hh : h < 3) (hf : Good f) (hT : TR σ L P) (hA : Aw σ τ f p) (hp : p ≤ L) (hO : RO σ L f q (pa1 P L (4 + h) 0 9 p) Q) : wp_X9_goText τ (nI h) (fun r σ' => wp_X9_act_231 σ' (nI q) r Q) := by
  unfold pa1 at hO
  unfold wp_X9_goText
  refine s_num hT hA hp (by decide) (by decide) (fun b τ1 A1 => ⟨fun t => absurd A1.2.2.2 t, fun _ => ?_⟩) (fun b τ1 v F1 => ⟨fun _ => ?_, fun t => absurd t F1.ne⟩)
  · rw [nmK_t b] at hO
    have ha := nmB_iff.mp b
    exact s_X9_gk hf A1.2.1 (by omega) hh (fun c τ2 hM e2 => hO.re (by omega) c rfl (A1.mf hM e2)) (fun c τ2 hM e2 _ => hO.ok c (A1.mf hM e2))
  · rw [nmK_f b] at hO
    exact hO.no F1
theorem b_cut {σ τ : St} {L p q : Nat} {P : Nat → Nat} {f : Nat → Int32} {Q : Int32 → St → Prop} (hf : Good f) (hT : TR σ L P) (hA : Aw σ τ f p) (hp : p ≤ L) (hO : RO σ L f q (pa1 P L 9 0 99 p) Q) :
    wp_X9_number τ (nI 0) (nI 99) (fun r_38 σ_39 => ((¬ (σ_39 244 12) = (-1) → (wp_X9_act_204 σ_39 (nI q) (nI 0) Q)) ∧ ((σ_39 244 12) = (-1) → (wp_X9_cut0 σ_39 r_38 (fun r_41 σ_42 => (wp_X9_act_204 σ_42 (nI q) r_41 Q)))))) := by
  unfold pa1 at hO
  refine s_num hT hA hp (by decide) (by decide) (fun b τ1 A1 => ⟨fun t => absurd A1.2.2.2 t, fun _ => ?_⟩) (fun b τ1 v F1 => ⟨fun _ => ?_, fun t => absurd t F1.ne⟩)
  · rw [nmK_t b] at hO
    have ha := nmB_iff.mp b
    generalize dv P (sk P L p) (dc P L (sk P L p)) = a at *
    refine s_X9_cut0 hf A1.2.1 (by omega) (fun c => ?_) (fun c τ2 hM e2 => ?_)
    · have c0 : acode f 9 a 0 0 0 = 9 := by
        show (if gsd f a = 0 then 9 else 0) = 9
        rw [if_pos c]
      exact hO.re (by decide) (by rw [c0]; decide) c0 A1
    · refine hO.ok ?_ (A1.mf hM e2)
      show (if gsd f a = 0 then 9 else 0) = 0
      rw [if_neg (by omega)]
  · rw [nmK_f b] at hO
    exact hO.no F1
theorem b_tidy {σ τ : St} {L p q : Nat} {f : Nat → Int32} {Q : Int32 → St → Prop} (hf : Good f) (hA : Aw σ τ f p) (hO : RO σ L f q (some (7, 0, 0, 0, 0), p) Q) : wp_X9_tidy0 τ (fun r σ' => wp_X9_act_231 σ' (nI q) r Q) := by
  refine s_X9_tidy0 hf hA.2.1 (fun c => ?_) (fun c τ2 hM e2 => ?_)
  · have c0 : acode f 7 0 0 0 0 = 7 := by
      show (if cntS (gst f) 2 10 ≠ 0 then 7 else 0) = 7
      rw [if_pos c]
    exact hO.re (by decide) (by rw [c0]; decide) c0 hA
  · refine hO.ok ?_ (hA.mf hM e2)
    show (if cntS (gst f) 2 10 ≠ 0 then 7 else 0) = 0
    rw [if_neg (by omega)]
theorem b_mend {σ τ : St} {L p q : Nat} {f : Nat → Int32} {Q : Int32 → St → Prop} (hf : Good f) (hA : Aw σ τ f p) (hO : RO σ L f q (some (10, 0, 0, 0, 0), p) Q) : wp_X9_mend0 τ (fun _ σ' => wp_X9_act_231 σ' (nI q) (nI 0) Q) :=
  s_X9_mend0 hf hA.2.1 (fun τ2 hM e2 => hO.ok rfl (hA.mf hM e2))
theorem b_59f {σ τ : St} {L v : Nat} {f : Nat → Int32} {x y : Int32} {K : Int32 → St → Prop} (hF : Fa σ τ f v L) (h : K (nI 0) τ) : wp_X9_joinText_59 τ x y K := by
  unfold wp_X9_joinText_59
  exact s_numf hF (s_numf hF ⟨fun _ => h, fun t => absurd t hF.ne⟩)
theorem b_join {σ τ : St} {L p q : Nat} {P : Nat → Nat} {f : Nat → Int32} {Q : Int32 → St → Prop} (hf : Good f) (hT : TR σ L P) (hA : Aw σ τ f p) (hp : p ≤ L) (hO : RO σ L f q (paj P L p) Q) : wp_X9_joinText τ (fun r σ' => wp_X9_act_231 σ' (nI q) r Q) := by
  obtain ⟨k1, k2, -⟩ := sk_ok (P := P) hp
  unfold paj at hO
  unfold wp_X9_joinText
  have bad : ∀ v, RO σ L f q (none, v) Q → ∀ τ2 x y, Fa σ τ2 f v L → wp_X9_has τ2 10 (fun r_12 σ_13 => ((r_12 = 0 → ((¬ (σ_13 244 12) = (-1) → (wp_X9_joinText_59 σ_13 x y (fun r σ' => wp_X9_act_231 σ' (nI q) r Q))) ∧ ((σ_13 244 12) = (-1) → (wp_X9_has σ_13 11 (fun r_16 σ_17 => ((¬ r_16 = 0 → (wp_X9_joinText_59 σ_17 x y (fun r σ' => wp_X9_act_231 σ' (nI q) r Q))) ∧ (r_16 = 0 → (wp_X9_wrong σ_17 (σ_17 244 11) (fun σ_19 => (wp_X9_joinText_59 σ_19 x y (fun r σ' => wp_X9_act_231 σ' (nI q) r Q))))))))))) ∧ (¬ r_12 = 0 → (wp_X9_near0 σ_13 x y (fun r_20 σ_21 => (wp_X9_act_231 σ_21 (nI q) r_20 Q)))))) := fun v hv τ2 x y F2 =>
    s_hasf hT F2 (fun τ3 F3 => ⟨fun _ => ⟨fun _ => b_59f F3 (hv.no F3), fun t => absurd t F3.ne⟩, fun t => absurd rfl t⟩)
  refine s_num hT hA hp (by decide) (by decide) (fun b τ1 A1 => ?_) (fun b τ1 v F1 => s_numf F1 ?_)
  · rw [nmK_t b] at hO
    have ha := nmB_iff.mp b
    have hp1 := (dc_ok (P := P) k2).1
    obtain ⟨m1, m2, -⟩ := sk_ok (P := P) hp1
    refine s_num hT A1 hp1 (by decide) (by decide) (fun b2 τ2 A2 => ?_) (fun b2 τ2 v F2 => ?_)
    · rw [nmK_t b2] at hO
      have hb := nmB_iff.mp b2
      have hp2 := (dc_ok (P := P) m2).1
      generalize dv P (sk P L p) (dc P L (sk P L p)) = a at *
      generalize dv P (sk P L (sk P L p + dc P L (sk P L p))) (dc P L (sk P L (sk P L p + dc P L (sk P L p)))) = b' at *
      generalize sk P L (sk P L p + dc P L (sk P L p)) + dc P L (sk P L (sk P L p + dc P L (sk P L p))) = p2 at *
      obtain ⟨n1, n2, -⟩ := sk_ok (P := P) hp2
      unfold paim at hO
      refine s_has (by decide) hT A2 hp2 (fun w1 τ3 A3 => ⟨fun t => absurd t (by decide), fun _ => ?_⟩) (fun w1 τ3 A3 => ⟨fun _ => ⟨fun t => absurd A3.2.2.2 t, fun _ => ?_⟩, fun t => absurd rfl t⟩)
      · rw [if_pos w1] at hO
        have hnl := nrx_lt hf.1 a b'
        exact s_X9_near0 A3.2.1 hf.1 (by omega) (by omega) (s_X9_jn hf A3.2.1 (by omega) (by omega) (fun c τ4 hM e4 => hO.re (by decide) c rfl (A3.mf hM e4)) (fun c τ4 hM e4 _ => hO.ok c (A3.mf hM e4)))
      · rw [if_neg (by rw [w1]; decide)] at hO
        refine s_has (by decide) hT A3 n2 (fun w2 τ4 A4 => ⟨fun _ => ?_, fun t => absurd t (by decide)⟩) (fun w2 τ4 A4 => ⟨fun t => absurd rfl t, fun _ => ?_⟩)
        · rw [sk_idem hp2] at w2 A4
          rw [if_pos w2] at hO
          have hp3 : sk P L p2 + wln 11 ≤ L := wdB_le w2
          obtain ⟨o1, o2, -⟩ := sk_ok (P := P) hp3
          unfold wp_X9_joinText_59
          refine s_num hT A4 hp3 (by decide) (by decide) (fun b3 τ5 A5 => ?_) (fun b3 τ5 v F5 => s_numf F5 ⟨fun _ => ?_, fun t => absurd t F5.ne⟩)
          · rw [nmK_t b3] at hO
            have hc := nmB_iff.mp b3
            refine s_num hT A5 (dc_ok (P := P) o2).1 (by decide) (by decide) (fun b4 τ6 A6 => ⟨fun t => absurd A6.2.2.2 t, fun _ => ?_⟩) (fun b4 τ6 v F6 => ⟨fun _ => ?_, fun t => absurd t F6.ne⟩)
            · rw [nmK_t b4] at hO
              have hd := nmB_iff.mp b4
              exact s_X9_jn hf A6.2.1 (by omega) (by omega) (fun c τ7 hM e7 => hO.re (by decide) c rfl (A6.mf hM e7)) (fun c τ7 hM e7 _ => hO.ok c (A6.mf hM e7))
            · rw [nmK_f b4] at hO
              exact hO.no F6
          · rw [nmK_f b3] at hO
            exact hO.no F5
        · rw [sk_idem hp2] at w2 A4
          rw [if_neg (by rw [w2]; decide)] at hO
          rw [A4.2.2.1]
          refine s_X9_wrong A4.2.2.2 (fun τ5 h5 => ?_)
          have F5 := A4.wr n2 n2 hT.2.1 h5
          exact b_59f F5 (hO.no F5)
    · rw [nmK_f b2] at hO
      exact bad _ hO _ _ _ F2
  · rw [nmK_f b] at hO
    exact bad _ hO _ _ _ F1
theorem s_hasq {σ τ : St} {f : Nat → Int32} {L q w : Nat} {P : Nat → Nat} {K : Int32 → St → Prop} (hw : w < 12) (hT : TR σ L P) (hA : Aw σ τ f q) (hq : q ≤ L) (hs : sk P L q = q)
    (h1 : wdB P L w q = true → ∀ τ', Aw σ τ' f (q + wln w) → K (nI 1) τ') (h0 : wdB P L w q = false → ∀ τ', Aw σ τ' f q → K (nI 0) τ') : wp_X9_has τ w K :=
  s_has hw hT hA hq (by rw [hs]; exact h1) (by rw [hs]; exact h0)
theorem s_X9_act {σ τ : St} {L p : Nat} {P : Nat → Nat} {f : Nat → Int32} {Q : Int32 → St → Prop} (hf : Good f) (hT : TR σ L P) (hA : Aw σ τ f p) (hp : p ≤ L) (hO : RO σ L f (sk P L p) (pAct P L (sk P L p)) Q) : wp_X9_act τ Q := by
  obtain ⟨-, hq2, -⟩ := sk_ok (P := P) hp
  have hs : sk P L (sk P L p) = sk P L p := sk_idem hp
  unfold wp_X9_act
  refine s_X9_here (hT.zf hA.1) hp hA.2.2.1 (fun τ0 g0 e0 => ?_)
  have A0 := hA.qp g0 e0
  generalize sk P L p = q at *
  have k0 : kd P L q = kdR P L q 10 0 := rfl
  have pw : ∀ w, kd P L q = some w → RO σ L f q (pArg P L w (q + wln w)) Q := fun w hk => by
    unfold pAct at hO
    rw [hk] at hO
    exact hO
  refine s_hasq (by decide) hT A0 hq2 hs (fun w0 τ A => ⟨fun t => absurd t (by decide), fun _ => ?_⟩) (fun w0 τ1 A1 => ⟨fun _ => ?_, fun t => absurd rfl t⟩)
  · have O := pw 0 (k0.trans (kdR_t w0))
    have hle := wdB_le w0
    exact b_net hT A hle O
  have k1 := k0.trans (kdR_f w0)
  refine s_hasq (by decide) hT A1 hq2 hs (fun w1 τ A => ⟨fun t => absurd t (by decide), fun _ => ?_⟩) (fun w1 τ2 A2 => ⟨fun _ => ?_, fun t => absurd rfl t⟩)
  · have O := pw 1 (k1.trans (kdR_t w1))
    have hle := wdB_le w1
    exact b_land hf hT A hle O
  have k2 := k1.trans (kdR_f w1)
  refine s_hasq (by decide) hT A2 hq2 hs (fun w2 τ A => ⟨fun t => absurd t (by decide), fun _ => ?_⟩) (fun w2 τ3 A3 => ⟨fun _ => ?_, fun t => absurd rfl t⟩)
  · have O := pw 2 (k2.trans (kdR_t w2))
    have hle := wdB_le w2
    exact b_join hf hT A hle O
  have k3 := k2.trans (kdR_f w2)
  refine s_hasq (by decide) hT A3 hq2 hs (fun w3 τ A => ⟨fun t => absurd t (by decide), fun _ => ?_⟩) (fun w3 τ4 A4 => ⟨fun _ => ?_, fun t => absurd rfl t⟩)
  · have O := pw 3 (k3.trans (kdR_t w3))
    have hle := wdB_le w3
    exact b_go (h := 0) (by decide) hf hT A hle O
  have k4 := k3.trans (kdR_f w3)
  refine s_hasq (by decide) hT A4 hq2 hs (fun w4 τ A => ⟨fun t => absurd t (by decide), fun _ => ?_⟩) (fun w4 τ5 A5 => ⟨fun _ => ?_, fun t => absurd rfl t⟩)
  · have O := pw 4 (k4.trans (kdR_t w4))
    have hle := wdB_le w4
    exact b_go (h := 1) (by decide) hf hT A hle O
  have k5 := k4.trans (kdR_f w4)
  refine s_hasq (by decide) hT A5 hq2 hs (fun w5 τ A => ⟨fun t => absurd t (by decide), fun _ => ?_⟩) (fun w5 τ6 A6 => ⟨fun _ => ?_, fun t => absurd rfl t⟩)
  · have O := pw 5 (k5.trans (kdR_t w5))
    have hle := wdB_le w5
    exact b_go (h := 2) (by decide) hf hT A hle O
  have k6 := k5.trans (kdR_f w5)
  refine s_hasq (by decide) hT A6 hq2 hs (fun w6 τ A => ⟨fun t => absurd t (by decide), fun _ => ?_⟩) (fun w6 τ7 A7 => ⟨fun _ => ?_, fun t => absurd rfl t⟩)
  · have O := pw 6 (k6.trans (kdR_t w6))
    have hle := wdB_le w6
    exact b_tidy hf A O
  have k7 := k6.trans (kdR_f w6)
  refine s_hasq (by decide) hT A7 hq2 hs (fun w7 τ A => ⟨fun t => absurd t (by decide), fun _ => ?_⟩) (fun w7 τ8 A8 => ⟨fun _ => ?_, fun t => absurd rfl t⟩)
  · have O := pw 7 (k7.trans (kdR_t w7))
    have hle := wdB_le w7
    exact b_put hf hT A hle O
  have k8 := k7.trans (kdR_f w7)
  refine s_hasq (by decide) hT A8 hq2 hs (fun w8 τ A => ⟨fun t => absurd t (by decide), fun _ => ?_⟩) (fun w8 τ9 A9 => ⟨fun _ => ?_, fun t => absurd rfl t⟩)
  · have O := pw 8 (k8.trans (kdR_t w8))
    have hle := wdB_le w8
    exact b_cut hf hT A hle O
  have k9 := k8.trans (kdR_f w8)
  refine s_hasq (by decide) hT A9 hq2 hs (fun w9 τ A => ⟨fun t => absurd t (by decide), fun _ => ?_⟩) (fun w9 τ10 A10 => ⟨fun _ => ?_, fun t => absurd rfl t⟩)
  · have O := pw 9 (k9.trans (kdR_t w9))
    have hle := wdB_le w9
    exact b_mend hf A O
  have k10 := k9.trans (kdR_f w9)
  have hk : kd P L q = none := k10
  unfold pAct at hO
  rw [hk] at hO
  refine s_X9_wrong A10.2.2.2 (fun τ11 h11 => ?_)
  exact hO.no (A10.wr hq2 hq2 hT.2.1 h11)
