/-! ONE STEP OF THE LAW, the class's side: what its helper leaves -/
def LQ (r : RS) (s : AS) (k : Int32) (τ : St) : Prop := k = nI r.1 ∧ (r.1 = 0 → τ 258 0 = r.2.1) ∧ CR τ r.2.2 ∧ RR τ s
theorem RR.out {τ : St} {s : AS} (h : RR τ s) (v : Int32) : RR (su τ 258 0 v) s := by
  unfold RR
  rw [su_ne (by decide), su_ne (by decide), su_ne (by decide), su_ne (by decide), su_ne (by decide)]
  exact h
theorem CR.out {τ : St} {s : AS} (h : CR τ s) (hs : Sok s) (v : Int32) : CR (su τ 258 0 v) s := by
  obtain ⟨A, B, F, h⟩ := h
  exact ⟨A, B, F, h.congr hs (fun b hb => su_ne (by have := hb.1; omega))⟩
theorem lq0 {σ τ : St} {r : RS} {s : AS} (hR : RR σ s) (hs : Sok r.2.2) (h0 : r.1 = 0) (hc : Cf σ τ) (hC : CR τ r.2.2) : LQ r s (nI 0) (su τ 258 0 r.2.1) :=
  ⟨by rw [h0], fun _ => by rw [su_at, if_pos rfl], hC.out hs _, (hR.cf hc).out _⟩
theorem lq1 {σ τ : St} {r : RS} {s : AS} {k : Nat} (hR : RR σ s) (h0 : r.1 = k) (hk : k ≠ 0) (hc : Cf σ τ) (hC : CR τ r.2.2) : LQ r s (nI k) τ :=
  ⟨by rw [h0], fun t => absurd (h0.symm.trans t) hk, hC, hR.cf hc⟩
theorem lc1 {σ : St} {r : RS} {s : AS} {a b c : String} (hR : RR σ s) (hs : Sok r.2.2) (hr : r.1 ≤ 1) : PC σ r (ex3 a b c) (fun E τ => (E = a ∧ LQ r s (nI 1) τ)) (fun v τ => LQ r s (nI 0) (su τ 258 0 v)) := by
  refine ⟨fun h0 τ hc hC => lq0 hR hs h0 hc hC, fun h0 τ hc hC => ?_⟩
  have h1 : r.1 = 1 := by omega
  exact ⟨by rw [h1]; rfl, lq1 hR h1 (by decide) hc hC⟩
theorem lc2 {σ : St} {r : RS} {s : AS} {a b c : String} (hR : RR σ s) (hs : Sok r.2.2) (hr : r.1 ≤ 2) : PC σ r (ex3 a b c) (fun E τ => (E = a ∧ LQ r s (nI 1) τ) ∨ (E = b ∧ LQ r s (nI 2) τ)) (fun v τ => LQ r s (nI 0) (su τ 258 0 v)) := by
  refine ⟨fun h0 τ hc hC => lq0 hR hs h0 hc hC, fun h0 τ hc hC => ?_⟩
  have h1 : r.1 = 1 ∨ r.1 = 2 := by omega
  rcases h1 with h1 | h1
  · exact Or.inl ⟨by rw [h1]; rfl, lq1 hR h1 (by decide) hc hC⟩
  · exact Or.inr ⟨by rw [h1]; rfl, lq1 hR h1 (by decide) hc hC⟩
theorem lc3 {σ : St} {r : RS} {s : AS} {a b c : String} (hR : RR σ s) (hs : Sok r.2.2) (hr : r.1 ≤ 3) : PC σ r (ex3 a b c) (fun E τ => (E = a ∧ LQ r s (nI 1) τ) ∨ (E = b ∧ LQ r s (nI 2) τ) ∨ (E = c ∧ LQ r s (nI 3) τ)) (fun v τ => LQ r s (nI 0) (su τ 258 0 v)) := by
  refine ⟨fun h0 τ hc hC => lq0 hR hs h0 hc hC, fun h0 τ hc hC => ?_⟩
  have h1 : r.1 = 1 ∨ r.1 = 2 ∨ r.1 = 3 := by omega
  rcases h1 with h1 | h1 | h1
  · exact Or.inl ⟨by rw [h1]; rfl, lq1 hR h1 (by decide) hc hC⟩
  · exact Or.inr (Or.inl ⟨by rw [h1]; rfl, lq1 hR h1 (by decide) hc hC⟩)
  · exact Or.inr (Or.inr ⟨by rw [h1]; rfl, lq1 hR h1 (by decide) hc hC⟩)
/-- the reference then answers the same -/
def LR2 (r : RS) (k : Int32) (v : Int32) (τ : St) : Prop := τ 244 0 = k ∧ (k = 0 → (τ 258 0) = v) ∧ CR τ r.2.2 ∧ RR τ r.2.2
theorem lr {τ : St} {r : RS} {s : AS} {k : Int32} (h : LQ r s k τ) (hs : Sok r.2.2) (hr : r.1 ≤ 3) : PR τ r (fun v ρ => LR2 r k v ρ) := fun ρ v hf hR ht hv => by
  obtain ⟨h1, h2, h3, h4⟩ := h
  refine ⟨by rw [ht, h1], fun hk => ?_, h3.rf hs hf, hR⟩
  rw [h1, n_eq0 (by omega)] at hk
  rw [hf 258 (by omega), h2 hk, hv hk]
theorem actR_le {s : AS} {e k a b c d n : Nat} (he : e ≤ n) : (actR s e k a b c d).1 ≤ n := by
  unfold actR
  split
  · exact Nat.zero_le _
  · exact he
theorem rActs_le (s : AS) : (rActs s).1 ≤ 1 := by
  unfold rActs
  split
  · exact Nat.zero_le _
  · exact Nat.le_refl _
