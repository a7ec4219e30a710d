/-! KEYS: put -/
def wth (f : Nat → Int32) (k : Nat) : Nat := bm (fun r => can f k r) (gR f)
theorem wth_lt {f : Nat → Int32} (hR : gR f ≤ 3) (k : Nat) : wth f k < 8 := lt_of_tb (k := 3) (fun j hj => by unfold wth; rw [tb_bm]; simp; omega)
theorem s_X1_realitiesWithin {σ : St} {a k : Nat} {f : Nat → Int32} {Q : Int32 → Prop} (hre : σ a 9 = nI (gR f)) (hst : rowIs (σ (a + 2)) 10 (gst f)) (hsp : ∀ r, r < gR f → SpRep σ (a + 1 + 8 + 4 * r) (gow f r)) (hf : Good f) (hk : k < 100) (hQ : Q (nI (wth f k))) : wp_X1_realitiesWithin σ a (nI k) Q := by
  have hR := hf.1.2.2.2.2.1.2.2
  refine LP2_nat (gR f) (fun i x y => x = nI (bm (fun r => can f k r) i) ∧ y = nI i) ?_ 0 _ _ (Nat.zero_le _) ⟨rfl, rfl⟩
  rintro ih i _ _ hi ⟨rfl, rfl⟩ hih
  unfold wp_X1_realitiesWithin_4
  rw [hre]
  simp (disch := omega) only [forall_eq, forall_eq', n_inT, n_cl, n_lt, n_le, n_eq, n_eq0, n_lt0, n_ge0, n_gt0, n_le0, n_em, n_me, n_add, n_mul, n_00, n_s01, n_1z, n_0z, Nat.one_ne_zero, eq_self, ne_eq, true_and, and_true, true_implies, false_implies, implies_true, not_true_eq_false, not_false_eq_true, false_and, and_false, or_false, false_or, or_true, true_or]
  refine ⟨fun q => ?_, fun q => ⟨n_in (by omega) (by decide), ?_⟩⟩
  · rw [show i = gR f by omega]; exact hQ
  · have hir : i < gR f := by omega
    have hob := (hf.2 i hir).1.1
    have hkl := kp_le hob k
    have hy := pnt_y k i
    refine s_X1_pointX (s_X1_pointY ?_)
    refine s_X4_nodeAt (X := pnt k i % 32) (Y := pnt k i / 32) (hsp i hir).1 hob (by rw [n_and31]; congr 1; omega) (Nat.mod_lt _ (by decide)) (by rw [n_and31]; congr 1; omega) hy ?_
    rw [← ptc, ← kp, nm_iff (by omega)]
    refine ⟨fun e => hih _ _ hir ⟨?_, rfl⟩, fun e => ?_⟩
    · have : can f k i = false := by unfold can; simp [e]
      simp [bm, this]
    · rw [n_sub (by omega)]
      have hs := hf.1.1 (kp f k i - 1) (by omega)
      simp (disch := omega) only [forall_eq, forall_eq', n_inT, n_cl, n_lt, n_le, n_eq, n_eq0, n_lt0, n_ge0, n_gt0, n_le0, n_em, n_me, n_add, n_mul, n_00, n_s01, n_1z, n_0z, Nat.one_ne_zero, eq_self, ne_eq, true_and, and_true, true_implies, false_implies, implies_true, not_true_eq_false, not_false_eq_true, false_and, and_false, or_false, false_or, or_true, true_or]
      rw [hst _ (by omega), n_eq (by omega) (by decide), n_one (by omega), n_or]
      refine ⟨fun c => hih _ _ hir ⟨?_, rfl⟩, fun c => hih _ _ hir ⟨?_, rfl⟩⟩
      · have : can f k i = false := by unfold can; simp [c]
        simp [bm, this]
      · have : can f k i = true := by unfold can; simp [c, e]
        simp [bm, this]
def pth (f : Nat → Int32) (k r k' : Nat) : Nat := if k' = k then (if r < gR f ∧ can f k r = true then 1 else 0) else ghd f r k'
def prow (f : Nat → Int32) (k v : Nat) : Nat → Int32 := hrow (upd (upd f (38 + k) (nI 1)) (138 + k) (nI v)) (pth f k)
theorem prow_acc {f : Nat → Int32} (hf : RowOK f) {k v : Nat} (hk : k < 100) (hv : v < 1000) :
    gst (prow f k v) = gst f ∧ gpx (prow f k v) = gpx f ∧ gpy (prow f k v) = gpy f ∧ gK (prow f k v) = gK f ∧ gR (prow f k v) = gR f ∧ gmx (prow f k v) = gmx f ∧ gmy (prow f k v) = gmy f ∧ gsd (prow f k v) = setO (gsd f) k 1 ∧ gva (prow f k v) = setO (gva f) k v ∧ (∀ r k', r < 3 → k' < 100 → ghd (prow f k v) r k' = pth f k r k') ∧ gow (prow f k v) = gow f := by
  have hb : ∀ r k', r < 3 → k' < 100 → pth f k r k' ≤ 1 := fun r k' hr hk' => by
    unfold pth
    split
    · split <;> omega
    · exact (ghd_ok hf hr hk').1
  obtain ⟨z1, z2, z3, z4, z5, z6, z7, z8, z9, z10, z11⟩ := hrow_acc (upd (upd f (38 + k) (nI 1)) (138 + k) (nI v)) (pth f k) hb
  unfold prow
  refine ⟨?_, ?_, ?_, ?_, ?_, ?_, ?_, ?_, ?_, z10, ?_⟩
  · rw [z1, gst_upd (by omega), gst_upd (by omega)]
  · rw [z2, gpx_upd (by omega), gpx_upd (by omega)]
  · rw [z3, gpy_upd (by omega), gpy_upd (by omega)]
  · rw [z4, gK_upd (by omega), gK_upd (by omega)]
  · rw [z5, gR_upd (by omega), gR_upd (by omega)]
  · rw [z6, gmx_upd (by omega), gmx_upd (by omega)]
  · rw [z7, gmy_upd (by omega), gmy_upd (by omega)]
  · rw [z8, gsd_upd (by omega)]
    funext m; unfold gsd setO
    rw [upd_at]
    by_cases e : m = k
    · rw [if_pos e, if_pos (by omega), if_pos (by omega), n_cl (by decide)]
    · have e2 : ¬ 38 + m = 38 + k := by omega
      rw [if_neg e, if_neg e2]
  · rw [z9]
    funext m; unfold gva setO
    rw [upd_at, upd_at]
    by_cases e : m = k
    · rw [if_pos e, if_pos (by omega), if_pos (by omega), n_cl (by omega)]
    · have e2 : ¬ 138 + m = 138 + k := by omega
      by_cases c : m < 100
      · have e3 : ¬ 138 + m = 38 + k := by omega
        rw [if_neg e, if_neg e2, if_neg e3]
      · rw [if_neg e, if_neg c]; exact (if_neg c).symm
  · rw [z11, gow_upd (by omega), gow_upd (by omega)]
theorem prow_good {f : Nat → Int32} (hf : Good f) {k v : Nat} (hk : k < 100) (hv : v < 1000) : Good (prow f k v) := by
  obtain ⟨e1, e2, e3, e4, e5, e6, e7, e8, e9, e10, e11⟩ := prow_acc hf.1 hk hv
  obtain ⟨h1, h2, h3, h4, h5, h6, h7, h8, h9⟩ := hf.1
  have hlo : ∀ j, j ≠ 38 + k → j ≠ 138 + k → j < 238 ∨ 538 ≤ j → prow f k v j = f j := fun j a b c => by unfold prow; rw [hrow_lo c, upd_ne' b, upd_ne' a]
  refine ⟨⟨fun m hm => ?_, fun m hm q => ?_, ?_, fun i hi => ?_, ?_, fun k' hk' => ?_, fun k' hk' q => ?_, fun r hr k' hk' => ?_, fun r hr z hz => ?_⟩, fun r hr => ?_⟩
  · rw [e1, hlo _ (by omega) (by omega) (by omega)]; exact h1 m hm
  · rw [e1] at q
    rw [e2, e3, hlo _ (by omega) (by omega) (by omega), hlo _ (by omega) (by omega) (by omega)]; exact h2 m hm q
  · rw [e4, hlo _ (by omega) (by omega) (by omega)]; exact h3
  · rw [e4] at hi
    have := h3.2
    rw [e6, e7, hlo _ (by omega) (by omega) (by omega), hlo _ (by omega) (by omega) (by omega)]; exact h4 i hi
  · rw [e5, hlo _ (by omega) (by omega) (by omega)]; exact h5
  · rw [e8]
    by_cases c : k' = k
    · rw [c, setO_same]
      refine ⟨?_, by decide⟩
      unfold prow
      rw [hrow_lo (by omega), upd_ne' (by omega), upd_at, if_pos rfl]
    · rw [setO_ne c, hlo _ (by omega) (by omega) (by omega)]; exact h6 k' hk'
  · rw [e9]
    by_cases c : k' = k
    · rw [c, setO_same]
      refine ⟨?_, hv⟩
      unfold prow
      rw [hrow_lo (by omega), upd_at, if_pos rfl]
    · rw [e8, setO_ne c] at q
      rw [setO_ne c, hlo _ (by omega) (by omega) (by omega)]; exact h7 k' hk' q
  · rw [e10 r k' hr hk', e8, e5]
    refine ⟨?_, ?_, fun q => ?_, fun q => ?_⟩
    · unfold prow
      rw [hrow_at hr hk']
    · unfold pth
      split
      · split <;> omega
      · exact (ghd_ok hf.1 hr hk').1
    · by_cases c : k' = k
      · rw [c, setO_same] at q; omega
      · rw [setO_ne c] at q
        unfold pth
        rw [if_neg c]; exact (ghd_ok hf.1 hr hk').2.1 q
    · unfold pth
      split
      · rw [if_neg (by omega)]
      · exact (ghd_ok hf.1 hr hk').2.2 q
  · rw [e5] at hr
    rw [e11, hlo _ (by omega) (by omega) (by omega)]; exact h9 r hr z hz
  · rw [e5] at hr
    rw [e11, e1]; exact hf.2 r hr
