/-! THE NET OF THE CLASS AND THE ROW OF THE REFERENCE -/
def hm (f : Nat → Int32) (k : Nat) : Nat := bm (fun r => ghd f r k == 1) 3
def NetRep (σ : St) (a : Nat) (f : Nat → Int32) : Prop :=
  (σ a 9 = nI (gR f)) ∧
  (σ a 8 = nI (gK f)) ∧
  (rowIs (σ (a + 2)) 10 (gst f)) ∧
  (∀ n, n < 10 → gst f n ≠ 0 → σ (a + 3) n = nI (gpx f n)) ∧
  (∀ n, n < 10 → gst f n ≠ 0 → σ (a + 4) n = nI (gpy f n)) ∧
  (∀ i, i < gK f → σ (a + 5) i = nI (gmx f i)) ∧
  (∀ i, i < gK f → σ (a + 6) i = nI (gmy f i)) ∧
  (∀ k, k < 100 → σ (a + 7) k = if gsd f k = 1 then nI (gva f k) else -1) ∧
  (rowIs (σ (a + 8)) 100 (hm f)) ∧
  (∀ r, r < gR f → SpRep σ (a + 1 + 8 + 4 * r) (gow f r))
theorem NetRep.re {σ : St} {a : Nat} {f : Nat → Int32} (h : NetRep σ a f) : σ a 9 = nI (gR f) := h.1
theorem NetRep.ma {σ : St} {a : Nat} {f : Nat → Int32} (h : NetRep σ a f) : σ a 8 = nI (gK f) := h.2.1
theorem NetRep.st {σ : St} {a : Nat} {f : Nat → Int32} (h : NetRep σ a f) : rowIs (σ (a + 2)) 10 (gst f) := h.2.2.1
theorem NetRep.px {σ : St} {a : Nat} {f : Nat → Int32} (h : NetRep σ a f) : ∀ n, n < 10 → gst f n ≠ 0 → σ (a + 3) n = nI (gpx f n) := h.2.2.2.1
theorem NetRep.py {σ : St} {a : Nat} {f : Nat → Int32} (h : NetRep σ a f) : ∀ n, n < 10 → gst f n ≠ 0 → σ (a + 4) n = nI (gpy f n) := h.2.2.2.2.1
theorem NetRep.mx {σ : St} {a : Nat} {f : Nat → Int32} (h : NetRep σ a f) : ∀ i, i < gK f → σ (a + 5) i = nI (gmx f i) := h.2.2.2.2.2.1
theorem NetRep.my {σ : St} {a : Nat} {f : Nat → Int32} (h : NetRep σ a f) : ∀ i, i < gK f → σ (a + 6) i = nI (gmy f i) := h.2.2.2.2.2.2.1
theorem NetRep.va {σ : St} {a : Nat} {f : Nat → Int32} (h : NetRep σ a f) : ∀ k, k < 100 → σ (a + 7) k = if gsd f k = 1 then nI (gva f k) else -1 := h.2.2.2.2.2.2.2.1
theorem NetRep.hd {σ : St} {a : Nat} {f : Nat → Int32} (h : NetRep σ a f) : rowIs (σ (a + 8)) 100 (hm f) := h.2.2.2.2.2.2.2.2.1
theorem NetRep.sp {σ : St} {a : Nat} {f : Nat → Int32} (h : NetRep σ a f) : ∀ r, r < gR f → SpRep σ (a + 1 + 8 + 4 * r) (gow f r) := h.2.2.2.2.2.2.2.2.2
/-- only the net at a has changed -/
def Nf (a : Nat) (σ τ : St) : Prop := ∀ b, b < a ∨ a + 21 ≤ b → τ b = σ b
theorem Nf.rf (a : Nat) (σ : St) : Nf a σ σ := fun _ _ => rfl
theorem Nf.tr {a : Nat} {σ τ ρ : St} (h1 : Nf a σ τ) (h2 : Nf a τ ρ) : Nf a σ ρ := fun b hb => (h2 b hb).trans (h1 b hb)
theorem Nf.su {a : Nat} {σ τ : St} (h : Nf a σ τ) {c i : Nat} {v : Int32} (h1 : a ≤ c) (h2 : c < a + 21) : Nf a σ (su τ c i v) := fun b hb => by rw [su_ne (by omega)]; exact h b hb
theorem Spf.nf {a r : Nat} {σ τ : St} (h : Spf (a + 1 + 8 + 4 * r) σ τ) (hr : r < 3) : Nf a σ τ := fun b hb => h b (by omega) (by omega) (by omega)
theorem SpRep.congr {σ τ : St} {s : Nat} {o : Nat → Nat} (h : SpRep σ s o) (h1 : τ (s + 1) = σ (s + 1)) (h2 : τ (s + 2) = σ (s + 2)) (h3 : τ (s + 3) = σ (s + 3)) : SpRep τ s o := by
  unfold SpRep
  rw [h1, h2, h3]
  exact h
theorem NetRep.congr {σ τ : St} {a : Nat} {f : Nat → Int32} (h : NetRep σ a f) (hR : gR f ≤ 3) (e : ∀ b, a ≤ b → b < a + 21 → τ b = σ b) : NetRep τ a f := by
  refine ⟨?_, ?_, ?_, ?_, ?_, ?_, ?_, ?_, ?_, fun r hr => ?_⟩
  · rw [e a (by omega) (by omega)]; exact h.re
  · rw [e a (by omega) (by omega)]; exact h.ma
  · rw [e (a + 2) (by omega) (by omega)]; exact h.st
  · rw [e (a + 3) (by omega) (by omega)]; exact h.px
  · rw [e (a + 4) (by omega) (by omega)]; exact h.py
  · rw [e (a + 5) (by omega) (by omega)]; exact h.mx
  · rw [e (a + 6) (by omega) (by omega)]; exact h.my
  · rw [e (a + 7) (by omega) (by omega)]; exact h.va
  · rw [e (a + 8) (by omega) (by omega)]; exact h.hd
  · exact (h.sp r hr).congr (e _ (by omega) (by omega)) (e _ (by omega) (by omega)) (e _ (by omega) (by omega))
/-! rows written -/
theorem upd_at (f : Nat → Int32) (j : Nat) (v : Int32) (i : Nat) : upd f j v i = if i = j then v else f i := by unfold upd; rfl
theorem upd_ne' {f : Nat → Int32} {j i : Nat} {v : Int32} (h : i ≠ j) : upd f j v i = f i := by rw [upd_at, if_neg h]
theorem gst_upd {f : Nat → Int32} {j : Nat} {v : Int32} (h : 10 ≤ j) : gst (upd f j v) = gst f := by
  funext n; unfold gst
  split
  · rw [upd_ne' (by omega)]
  · rfl
theorem gpx_upd {f : Nat → Int32} {j : Nat} {v : Int32} (h : j < 10 ∨ 20 ≤ j) : gpx (upd f j v) = gpx f := by
  funext n; unfold gpx
  split
  · rw [upd_ne' (by omega)]
  · rfl
theorem gpy_upd {f : Nat → Int32} {j : Nat} {v : Int32} (h : j < 20 ∨ 30 ≤ j) : gpy (upd f j v) = gpy f := by
  funext n; unfold gpy
  split
  · rw [upd_ne' (by omega)]
  · rfl
theorem gK_upd {f : Nat → Int32} {j : Nat} {v : Int32} (h : j ≠ 30) : gK (upd f j v) = gK f := by unfold gK; rw [upd_ne' (by omega)]
theorem gR_upd {f : Nat → Int32} {j : Nat} {v : Int32} (h : j ≠ 37) : gR (upd f j v) = gR f := by unfold gR; rw [upd_ne' (by omega)]
theorem gmx_upd {f : Nat → Int32} {j : Nat} {v : Int32} (h : j < 31 ∨ 34 ≤ j) : gmx (upd f j v) = gmx f := by
  funext n; unfold gmx
  split
  · rw [upd_ne' (by omega)]
  · rfl
theorem gmy_upd {f : Nat → Int32} {j : Nat} {v : Int32} (h : j < 34 ∨ 37 ≤ j) : gmy (upd f j v) = gmy f := by
  funext n; unfold gmy
  split
  · rw [upd_ne' (by omega)]
  · rfl
theorem gsd_upd {f : Nat → Int32} {j : Nat} {v : Int32} (h : j < 38 ∨ 138 ≤ j) : gsd (upd f j v) = gsd f := by
  funext n; unfold gsd
  split
  · rw [upd_ne' (by omega)]
  · rfl
theorem gva_upd {f : Nat → Int32} {j : Nat} {v : Int32} (h : j < 138 ∨ 238 ≤ j) : gva (upd f j v) = gva f := by
  funext n; unfold gva
  split
  · rw [upd_ne' (by omega)]
  · rfl
theorem ghd_upd {f : Nat → Int32} {j : Nat} {v : Int32} (h : j < 238 ∨ 538 ≤ j) : ghd (upd f j v) = ghd f := by
  funext r n; unfold ghd
  split
  · rw [upd_ne' (by omega)]
  · rfl
theorem gow_upd {f : Nat → Int32} {j : Nat} {v : Int32} (h : j < 538) : gow (upd f j v) = gow f := by
  funext r n; unfold gow
  split
  · rw [upd_ne' (by omega)]
  · rfl
theorem gst_set {f : Nat → Int32} {n v : Nat} (hn : n < 10) (hv : v < 2 ^ 31) : gst (upd f n (nI v)) = setO (gst f) n v := by
  funext m; unfold gst setO
  rw [upd_at]
  by_cases e : m = n
  · rw [if_pos e, if_pos e, if_pos (by omega), n_cl hv]
  · rw [if_neg e, if_neg e]
theorem gpx_set {f : Nat → Int32} {n v : Nat} (hn : n < 10) (hv : v < 2 ^ 31) : gpx (upd f (10 + n) (nI v)) = setO (gpx f) n v := by
  funext m; unfold gpx setO
  rw [upd_at]
  by_cases e : m = n
  · rw [if_pos e, if_pos (by omega), if_pos (by omega), n_cl hv]
  · have e2 : ¬ 10 + m = 10 + n := by omega
    rw [if_neg e, if_neg e2]
theorem gpy_set {f : Nat → Int32} {n v : Nat} (hn : n < 10) (hv : v < 2 ^ 31) : gpy (upd f (20 + n) (nI v)) = setO (gpy f) n v := by
  funext m; unfold gpy setO
  rw [upd_at]
  by_cases e : m = n
  · rw [if_pos e, if_pos (by omega), if_pos (by omega), n_cl hv]
  · have e2 : ¬ 20 + m = 20 + n := by omega
    rw [if_neg e, if_neg e2]
/-- the owners of the first k realities replaced -/
def updA (f : Nat → Int32) (g : Nat → Nat → Nat) : Nat → (Nat → Int32)
  | 0 => f
  | k + 1 => updO (updA f g k) k (g k)
theorem updA_lo (f : Nat → Int32) (g : Nat → Nat → Nat) {j : Nat} (h : j < 538) : ∀ k, updA f g k j = f j
  | 0 => rfl
  | k + 1 => by unfold updA; rw [updO_lo h]; exact updA_lo f g h k
theorem gst_updA (f : Nat → Int32) (g : Nat → Nat → Nat) : ∀ k, gst (updA f g k) = gst f
  | 0 => rfl
  | k + 1 => by unfold updA; rw [gst_updO]; exact gst_updA f g k
theorem gR_updA (f : Nat → Int32) (g : Nat → Nat → Nat) : ∀ k, gR (updA f g k) = gR f
  | 0 => rfl
  | k + 1 => by unfold updA; rw [gR_updO]; exact gR_updA f g k
theorem gK_updA (f : Nat → Int32) (g : Nat → Nat → Nat) : ∀ k, gK (updA f g k) = gK f
  | 0 => rfl
  | k + 1 => by unfold updA; rw [gK_updO]; exact gK_updA f g k
theorem gpx_updA (f : Nat → Int32) (g : Nat → Nat → Nat) : ∀ k, gpx (updA f g k) = gpx f
  | 0 => rfl
  | k + 1 => by unfold updA; rw [gpx_updO]; exact gpx_updA f g k
theorem gpy_updA (f : Nat → Int32) (g : Nat → Nat → Nat) : ∀ k, gpy (updA f g k) = gpy f
  | 0 => rfl
  | k + 1 => by unfold updA; rw [gpy_updO]; exact gpy_updA f g k
theorem gmx_updA (f : Nat → Int32) (g : Nat → Nat → Nat) : ∀ k, gmx (updA f g k) = gmx f
  | 0 => rfl
  | k + 1 => by unfold updA; rw [gmx_updO]; exact gmx_updA f g k
theorem gmy_updA (f : Nat → Int32) (g : Nat → Nat → Nat) : ∀ k, gmy (updA f g k) = gmy f
  | 0 => rfl
  | k + 1 => by unfold updA; rw [gmy_updO]; exact gmy_updA f g k
theorem gsd_updA (f : Nat → Int32) (g : Nat → Nat → Nat) : ∀ k, gsd (updA f g k) = gsd f
  | 0 => rfl
  | k + 1 => by unfold updA; rw [gsd_updO]; exact gsd_updA f g k
theorem gva_updA (f : Nat → Int32) (g : Nat → Nat → Nat) : ∀ k, gva (updA f g k) = gva f
  | 0 => rfl
  | k + 1 => by unfold updA; rw [gva_updO]; exact gva_updA f g k
theorem ghd_updA (f : Nat → Int32) (g : Nat → Nat → Nat) : ∀ k, ghd (updA f g k) = ghd f
  | 0 => rfl
  | k + 1 => by unfold updA; rw [ghd_updO]; exact ghd_updA f g k
theorem gow_updA (f : Nat → Int32) (g : Nat → Nat → Nat) : ∀ k, (∀ r, r < k → (∀ z, z < 2048 → g r z ≤ 10) ∧ ∀ z, 2048 ≤ z → g r z = 0) → ∀ r, gow (updA f g k) r = if r < k then g r else gow f r
  | 0, _, r => by rw [if_neg (by omega)]; rfl
  | k + 1, h, r => by
    unfold updA
    by_cases e : r = k
    · rw [e, gow_updO (h k (by omega)).1 (h k (by omega)).2, if_pos (by omega)]
    · rw [gow_updO_ne e, gow_updA f g k (fun r hr => h r (by omega)) r]
      by_cases q : r < k
      · rw [if_pos q, if_pos (by omega)]
      · rw [if_neg q, if_neg (by omega)]
theorem RowOK.updA {f : Nat → Int32} (hf : RowOK f) {g : Nat → Nat → Nat} : ∀ k, k ≤ 3 → (∀ r, r < k → ∀ z, z < 2048 → g r z ≤ 10) → RowOK (updA f g k)
  | 0, _, _ => hf
  | k + 1, hk, h => (RowOK.updA hf k (by omega) (fun r hr => h r (by omega))).updO (by omega) (h k (by omega))
/-! simple questions of the net -/
theorem s_X1_leastNodeAway {σ : St} {a n : Nat} {f : Nat → Int32} {Q : Int32 → Prop} (h : NetRep σ a f) (hf : RowOK f) (hn : n < 10) (h0 : gst f n = 0) (hl : ∀ m, m < n → gst f m ≠ 0) (hQ : Q (nI n)) : wp_X1_leastNodeAway σ a Q := by
  refine LP1_nat n (fun i x => x = nI i) ?_ 0 _ (Nat.zero_le _) rfl
  rintro ih i _ hi rfl hih
  have h2 := hf.1 i (by omega)
  unfold wp_X1_leastNodeAway_2
  simp (disch := omega) only [forall_eq, forall_eq', n_inT, n_cl, n_lt, n_le, n_eq, n_eq0, n_lt0, n_ge0, n_gt0, n_le0, n_em, n_me, n_add, n_mul, n_00, n_s01, n_1z, n_0z, Nat.one_ne_zero, eq_self, ne_eq, true_and, and_true, true_implies, false_implies, implies_true, not_true_eq_false, not_false_eq_true, false_and, and_false, or_false, false_or, or_true, true_or]
  rw [h.st i (by omega), n_eq0 (by omega)]
  refine ⟨fun q => absurd q (by omega), fun _ => ⟨fun q => hih _ ?_ rfl, fun q => ?_⟩⟩
  · rcases Nat.lt_or_ge i n with c | c
    · exact c
    · exact absurd (by rw [show i = n by omega]; exact h0) q
  · rcases Nat.lt_or_ge i n with c | c
    · exact absurd q (hl i c)
    · rw [show i = n by omega]; exact hQ
theorem s_X1_leastNodeAway_no {σ : St} {a : Nat} {f : Nat → Int32} {Q : Int32 → Prop} (h : NetRep σ a f) (hf : RowOK f) (hl : ∀ m, m < 10 → gst f m ≠ 0) (hQ : Q (-1)) : wp_X1_leastNodeAway σ a Q := by
  refine LP1_nat 10 (fun i x => x = nI i) ?_ 0 _ (Nat.zero_le _) rfl
  rintro ih i _ hi rfl hih
  unfold wp_X1_leastNodeAway_2
  simp (disch := omega) only [forall_eq, forall_eq', n_inT, n_cl, n_lt, n_le, n_eq, n_eq0, n_lt0, n_ge0, n_gt0, n_le0, n_em, n_me, n_add, n_mul, n_00, n_s01, n_1z, n_0z, Nat.one_ne_zero, eq_self, ne_eq, true_and, and_true, true_implies, false_implies, implies_true, not_true_eq_false, not_false_eq_true, false_and, and_false, or_false, false_or, or_true, true_or]
  refine ⟨fun _ => hQ, fun q => ⟨n_in (by omega) (by decide), ?_⟩⟩
  have h2 := hf.1 i (by omega)
  rw [h.st i (by omega), n_eq0 (by omega)]
  exact ⟨fun _ => hih _ (by omega) rfl, fun q => absurd q (hl i (by omega))⟩
theorem s_X1_nodesThatAre {σ : St} {a s : Nat} {f : Nat → Int32} {Q : Int32 → Prop} (h : rowIs (σ (a + 2)) 10 (gst f)) (hf : ∀ n, n < 10 → gst f n ≤ 2) (hs : s ≤ 2) (hQ : Q (nI (bits (gst f) s))) : wp_X1_nodesThatAre σ a (nI s) Q := by
  refine LP2_nat 10 (fun i x y => x = nI (bm (fun n => gst f n == s) i) ∧ y = nI i) ?_ 0 _ _ (Nat.zero_le _) ⟨rfl, rfl⟩
  rintro ih i _ _ hi ⟨rfl, rfl⟩ hih
  unfold wp_X1_nodesThatAre_4
  simp (disch := omega) only [forall_eq, forall_eq', n_inT, n_cl, n_lt, n_le, n_eq, n_eq0, n_lt0, n_ge0, n_gt0, n_le0, n_em, n_me, n_add, n_mul, n_00, n_s01, n_1z, n_0z, Nat.one_ne_zero, eq_self, ne_eq, true_and, and_true, true_implies, false_implies, implies_true, not_true_eq_false, not_false_eq_true, false_and, and_false, or_false, false_or, or_true, true_or]
  refine ⟨fun q => ?_, fun q => ⟨n_in (by omega) (by decide), ?_⟩⟩
  · rw [show i = 10 by omega]; exact hQ
  · have h2 := hf i (by omega)
    rw [h i (by omega), n_eq (by omega) (by omega), n_one (by omega), n_or]
    refine ⟨fun c => hih _ _ (by omega) ⟨?_, rfl⟩, fun c => hih _ _ (by omega) ⟨?_, rfl⟩⟩
    · simp [bm, c]
    · simp [bm, c]
