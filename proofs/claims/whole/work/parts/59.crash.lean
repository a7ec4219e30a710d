/-! A NODE CRASHES -/
theorem updA_self {f : Nat → Int32} (hf : RowOK f) : ∀ k, k ≤ gR f → updA f (gow f) k = f
  | 0, _ => rfl
  | k + 1, h => by
    unfold updA
    rw [updA_self hf k (by omega)]
    exact updO_self hf (by omega)
theorem gow_b {f : Nat → Int32} (hf : Good f) : ∀ r, r < gR f → (∀ z, z < 2048 → gow f r z ≤ 10) ∧ ∀ z, 2048 ≤ z → gow f r z = 0 := fun r hr => ⟨(hf.2 r hr).1.1.1, fun z hz => gow_hi hz⟩
theorem srow_ok {f : Nat → Int32} (hf : Good f) {p v : Nat} (hp : p < 10) (hv : v ≤ 2) (hv2 : v ≠ 0 → gst f p ≠ 0) : RowOK (upd f p (nI v)) := by
  have h := urow_ok hf.1 hp hv hv2 (gow_b hf)
  rw [updA_self hf.1 _ (Nat.le_refl _)] at h
  exact h
theorem srow_acc {f : Nat → Int32} {p v : Nat} (hp : p < 10) (hv : v ≤ 2) :
    gst (upd f p (nI v)) = setO (gst f) p v ∧ gpx (upd f p (nI v)) = gpx f ∧ gpy (upd f p (nI v)) = gpy f ∧ gK (upd f p (nI v)) = gK f ∧ gR (upd f p (nI v)) = gR f ∧ gmx (upd f p (nI v)) = gmx f ∧ gmy (upd f p (nI v)) = gmy f ∧ gsd (upd f p (nI v)) = gsd f ∧ gva (upd f p (nI v)) = gva f ∧ ghd (upd f p (nI v)) = ghd f ∧ gow (upd f p (nI v)) = gow f :=
  ⟨gst_set hp (by omega), gpx_upd (by omega), gpy_upd (by omega), gK_upd (by omega), gR_upd (by omega), gmx_upd (by omega), gmy_upd (by omega), gsd_upd (by omega), gva_upd (by omega), ghd_upd (by omega), gow_upd (by omega)⟩
def hmf (h : Nat → Nat → Nat) (k : Nat) : Nat := bm (fun r => h r k == 1) 3
theorem hm_hmf (f : Nat → Int32) (k : Nat) : hm f k = hmf (ghd f) k := rfl
theorem tb_hmf (h : Nat → Nat → Nat) (k r : Nat) : (hmf h k).testBit r = (decide (r < 3) && decide (h r k = 1)) := by
  unfold hmf
  rw [tb_bm]
  rfl
theorem hmf_lt (h : Nat → Nat → Nat) (k : Nat) : hmf h k < 8 := by
  unfold hmf bm bm bm bm
  split <;> split <;> split <;> decide
theorem hmf_ext {h g : Nat → Nat → Nat} {k : Nat} (e : ∀ r, r < 3 → (h r k = 1 ↔ g r k = 1)) : hmf h k = hmf g k := by
  refine nat_ext10 (by have := hmf_lt h k; omega) (by have := hmf_lt g k; omega) (fun r _ => ?_)
  rw [tb_hmf, tb_hmf]
  by_cases c : r < 3
  · have := e r c
    by_cases d : h r k = 1
    · simp [d, this.mp d]
    · have d2 : ¬ g r k = 1 := fun q => d (this.mpr q)
      simp [d, d2]
  · simp [c]
theorem hmf_row {f : Nat → Int32} {h : Nat → Nat → Nat} (hb : ∀ r k, r < 3 → k < 100 → h r k ≤ 1) {k : Nat} (hk : k < 100) : hm (hrow f h) k = hmf h k := by
  rw [hm_hmf]
  exact hmf_ext (fun r hr => by rw [(hrow_acc f h hb).2.2.2.2.2.2.2.2.2.1 r k hr hk])
theorem hmf_clr {h g : Nat → Nat → Nat} {k r : Nat} (hr : r < 3) (e : ∀ r', r' < 3 → r' ≠ r → (g r' k = 1 ↔ h r' k = 1)) (e2 : g r k ≠ 1) : clr (hmf h k) r = hmf g k := by
  have h1 := hmf_lt h k
  have h2 := clr_le (hmf h k) r
  refine nat_ext10 (by omega) (by have := hmf_lt g k; omega) (fun m _ => ?_)
  rw [tb_clr (by omega), tb_hmf, tb_hmf]
  by_cases c : m = r
  · rw [c]; simp [e2]
  · by_cases c3 : m < 3
    · have := e m c3 c
      have c' : ¬ r = m := fun q => c q.symm
      by_cases d : h m k = 1
      · simp [d, this.mpr d, c']
      · have d2 : ¬ g m k = 1 := fun q => d (this.mp q)
        simp [d, d2]
    · simp [c3]
/-- copies done up to the reality R of the key K -/
def hpt (h h0 : Nat → Nat → Nat) (K R r k : Nat) : Nat := if k < K ∨ (k = K ∧ r < R) then h r k else h0 r k
theorem hpt_0 (h h0 : Nat → Nat → Nat) : hpt h h0 0 0 = h0 := by
  funext r k
  unfold hpt
  rw [if_neg (by omega)]
theorem hpt_next {h h0 : Nat → Nat → Nat} {m : Nat} (e : ∀ r k, m ≤ r → h r k = h0 r k) (K : Nat) : hpt h h0 K m = hpt h h0 (K + 1) 0 := by
  funext r k
  unfold hpt
  by_cases c : k < K
  · rw [if_pos (Or.inl c), if_pos (by omega)]
  · by_cases c2 : k = K
    · rw [if_pos (show k < K + 1 ∨ k = K + 1 ∧ r < 0 by omega)]
      by_cases c3 : r < m
      · rw [if_pos (by omega)]
      · rw [if_neg (by omega), e r k (by omega)]
    · rw [if_neg (by omega), if_neg (by omega)]
theorem hpt_step (h h0 : Nat → Nat → Nat) (K R : Nat) : hpt h h0 K (R + 1) = fun r k => if r = R ∧ k = K then h R K else hpt h h0 K R r k := by
  funext r k
  unfold hpt
  by_cases c : r = R ∧ k = K
  · rw [if_pos c, if_pos (by omega), c.1, c.2]
  · rw [if_neg c]
    by_cases c2 : k < K ∨ k = K ∧ r < R
    · rw [if_pos c2, if_pos (by omega)]
    · rw [if_neg c2, if_neg (by omega)]
theorem hpt_same {h h0 : Nat → Nat → Nat} {K R : Nat} (e : h R K = h0 R K) : hpt h h0 K (R + 1) = hpt h h0 K R := by
  rw [hpt_step]
  funext r k
  by_cases c : r = R ∧ k = K
  · rw [if_pos c, c.1, c.2, e]
    unfold hpt
    rw [if_neg (by omega)]
  · rw [if_neg c]
theorem hpt_at (h h0 : Nat → Nat → Nat) (K R : Nat) : hpt h h0 K R R K = h0 R K := by unfold hpt; rw [if_neg (by omega)]
theorem hpt_end {h h0 : Nat → Nat → Nat} {r k : Nat} (hk : k < 100) : hpt h h0 100 0 r k = h r k := by unfold hpt; rw [if_pos (Or.inl hk)]
theorem hpt_or (h h0 : Nat → Nat → Nat) (K R r k : Nat) : hpt h h0 K R r k = h r k ∨ hpt h h0 K R r k = h0 r k := by
  unfold hpt
  split
  · exact Or.inl rfl
  · exact Or.inr rfl
def crh (f : Nat → Int32) (p r k : Nat) : Nat := if r < gR f ∧ kp f k r = p + 1 then 0 else ghd f r k
def crow (f : Nat → Int32) (p : Nat) : Nat → Int32 := hrow (upd f p (nI 2)) (crh f p)
theorem ghd_ok {f : Nat → Int32} (hf : RowOK f) {r k : Nat} (hr : r < 3) (hk : k < 100) : ghd f r k ≤ 1 ∧ (gsd f k = 0 → ghd f r k = 0) ∧ (gR f ≤ r → ghd f r k = 0) := (hf.2.2.2.2.2.2.2.1 r hr k hk).2
theorem crh_ok {f : Nat → Int32} (hf : RowOK f) (p : Nat) {r k : Nat} (hr : r < 3) (hk : k < 100) : crh f p r k ≤ 1 ∧ (gsd f k = 0 → crh f p r k = 0) ∧ (gR f ≤ r → crh f p r k = 0) := by
  have h := ghd_ok hf hr hk
  unfold crh
  split
  · exact ⟨by omega, fun _ => rfl, fun _ => rfl⟩
  · exact h
theorem hpt_ok {f : Nat → Int32} (hf : RowOK f) {h : Nat → Nat → Nat} (hh : ∀ r k, r < 3 → k < 100 → h r k ≤ 1 ∧ (gsd f k = 0 → h r k = 0) ∧ (gR f ≤ r → h r k = 0)) (K R : Nat) {r k : Nat} (hr : r < 3) (hk : k < 100) : hpt h (ghd f) K R r k ≤ 1 ∧ (gsd f k = 0 → hpt h (ghd f) K R r k = 0) ∧ (gR f ≤ r → hpt h (ghd f) K R r k = 0) := by
  rcases hpt_or h (ghd f) K R r k with e | e
  · rw [e]; exact hh r k hr hk
  · rw [e]; exact ghd_ok hf hr hk
theorem OwnP.set {o st : Nat → Nat} (h : OwnP o st) {p v : Nat} (hp : st p ≠ 0) (hp10 : p < 10) (hv : v ≠ 0) : OwnP o (setO st p v) := by
  refine ⟨h.1, fun ⟨n, hn, q⟩ => h.2.1 ⟨p, hp10, hp⟩, h.2.2.1, fun z n hz q => ?_⟩
  by_cases c : n = p
  · rw [c, setO_same]; exact hv
  · rw [setO_ne c]; exact h.2.2.2 z n hz q
theorem OwnOK.set {o st : Nat → Nat} (h : OwnOK o st) {p v : Nat} (hp : st p ≠ 0) (hp10 : p < 10) (hv : v ≠ 0) : OwnOK o (setO st p v) := by
  refine ⟨h.1.set hp hp10 hv, fun n hn q => ?_⟩
  by_cases c : n = p
  · rw [c]; exact h.2 p hp10 hp
  · rw [setO_ne c] at q; exact h.2 n hn q
