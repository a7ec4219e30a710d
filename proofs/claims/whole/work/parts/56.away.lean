/-! the row after a node is gone -/
def lg (f : Nat → Int32) (p r : Nat) : Nat → Nat := hnd (gow f r) p (rest (gst f) p)
def zrow (f : Nat → Int32) : Nat → Int32 := fun j => if 238 ≤ j ∧ j < 538 then nI 0 else f j
def lrow (f : Nat → Int32) (p : Nat) : Nat → Int32 := if cntS (setO (gst f) p 0) 0 10 = 10 then zrow (upd (updA f (lg f p) (gR f)) p (nI 0)) else upd (updA f (lg f p) (gR f)) p (nI 0)
theorem stepH_0 (o : Nat → Nat) (z : Nat) : stepH 0 o z = setO o z 0 := by
  unfold stepH
  rw [(heir_no (by decide)).mpr rfl]
theorem fold_0 : ∀ (L : List Nat) (o : Nat → Nat) (y : Nat), L.foldl (stepH 0) o y = if y ∈ L then 0 else o y
  | [], o, y => by simp
  | z :: L, o, y => by
    rw [List.foldl_cons, stepH_0, fold_0 L]
    by_cases e : y ∈ L
    · rw [if_pos e, if_pos (List.mem_cons_of_mem _ e)]
    · rw [if_neg e]
      by_cases e2 : y = z
      · rw [e2, setO_same, if_pos List.mem_cons_self]
      · rw [setO_ne e2, if_neg]
        rw [List.mem_cons]
        exact fun q => q.elim e2 e
theorem HI.own {o : Nat → Nat} {p ups : Nat} {st : Nat → Nat} (hP : PT o) (hhi : ∀ y, 2048 ≤ y → o y = 0) (hu : ups < 1024) (h0 : ups ≠ 0) (hp : ups.testBit p = false) (hst : ∀ m, ups.testBit m = true → st m ≠ 0) (ho : ∀ y m, o y = m + 1 → st m ≠ 0) : ∀ k, k ≤ 2048 → ∀ y m, (zlp o p k).foldl (stepH ups) o y = m + 1 → st m ≠ 0
  | 0, _ => by
    simp only [zlp, List.range_zero, List.filter_nil, List.foldl_nil]
    exact ho
  | k + 1, hk => by
    have ih := HI.own hP hhi hu h0 hp hst ho k (by omega)
    have hH := HI.all hP hhi hu h0 hp k (by omega)
    rw [zlp_succ]
    by_cases e : o k = p + 1
    · rw [if_pos e, List.foldl_append, List.foldl_cons, List.foldl_nil]
      have hnot : k ∉ zlp o p k := fun q => by have := (zlp_mem.mp q).1; omega
      obtain ⟨-, -, hh, hl, hb, -, es⟩ := hH.step hu h0 hp (by omega) e hnot
      have e1 := (hH.2.2.1 k).mpr ⟨e, hnot⟩
      intro y m hy
      rw [es] at hy
      by_cases c : m = hh
      · rw [c]; exact hst hh hb
      · exact ih y m (((giv_ok hH.1 (by omega) (by omega) hl).2.1 m c y).mp hy).1
    · rw [if_neg e, List.append_nil]
      exact ih
/-- nobody else is left, or somebody is up -/
def mayGo (st : Nat → Nat) (p : Nat) : Prop := rest st p = 0 → ∀ m, m < 10 → m ≠ p → st m = 0
theorem mayGo_all {st : Nat → Nat} {p : Nat} (hp : p < 10) (h : mayGo st p) : cntS (setO st p 0) 0 10 = 10 ↔ rest st p = 0 := by
  rw [cntS_all]
  constructor
  · intro q
    refine nat_ext10 (rest_lt _ _) (by decide) (fun m hm => ?_)
    rw [tb_rest, Nat.zero_testBit]
    by_cases e : m = p
    · simp [e]
    · have := q m hm
      rw [setO_ne e] at this
      simp [this]
  · intro q m hm
    by_cases e : m = p
    · rw [e, setO_same]
    · rw [setO_ne e]; exact h q m hm e
theorem lg_ok {f : Nat → Int32} (hf : Good f) {p r : Nat} (hp : p < 10) (hr : r < gR f) (hp1 : gst f p ≠ 0) (hm : mayGo (gst f) p) : OwnOK (lg f p r) (setO (gst f) p 0) ∧ (∀ z, 2048 ≤ z → lg f p r z = 0) ∧ (rest (gst f) p = 0 → lg f p r = zro) := by
  have hO := hf.2 r hr
  have hs : some1 (gst f) := ⟨p, hp, hp1⟩
  have hP := hf.pt hs hr
  have hhi : ∀ y, 2048 ≤ y → gow f r y = 0 := fun y hy => gow_hi hy
  by_cases e : rest (gst f) p = 0
  · have hz : lg f p r = zro := by
      funext y
      unfold lg hnd
      rw [e, fold_0]
      by_cases c : y ∈ zlp (gow f r) p 2048
      · rw [if_pos c]; rfl
      · rw [if_neg c]
        refine Classical.byContradiction fun q => c ?_
        have hy : y < 2048 := by
          rcases Nat.lt_or_ge y 2048 with t | t
          · exact t
          · exact absurd (hhi y t) q
        have hb := hP.1.1 y hy
        have q' : gow f r y ≠ 0 := q
        obtain ⟨m, hm'⟩ : ∃ m, gow f r y = m + 1 := ⟨gow f r y - 1, by omega⟩
        have hst := hO.1.2.2.2 y m hy hm'
        have : m = p := Classical.byContradiction fun t => hst (hm e m (by omega) t)
        exact zlp_mem.mpr ⟨hy, by rw [hm', this]⟩
    rw [hz]
    have hst : ∀ m, m < 10 → setO (gst f) p 0 m = 0 := cntS_all 10 |>.mp ((mayGo_all hp hm).mpr e)
    refine ⟨⟨⟨⟨fun z _ => Nat.zero_le _, rfl⟩, ?_, fun z j _ _ q => absurd rfl q, fun z n _ q => by unfold zro at q; omega⟩, fun n hn q => absurd (hst n hn) q⟩, fun _ _ => rfl, fun _ => rfl⟩
    rintro ⟨n, hn, q⟩
    exact absurd (hst n hn) q
  · have hu := rest_lt (gst f) p
    have hH := HI.all hP hhi hu e (rest_p _ _) 2048 (Nat.le_refl _)
    have hown := HI.own (st := gst f) hP hhi hu e (rest_p _ _) (fun m q => by rw [(rest_on q).2.1]; decide) (fun y m q => by
      rcases Nat.lt_or_ge y 2048 with t | t
      · exact hO.1.2.2.2 y m t q
      · rw [hhi y t] at q; omega) 2048 (Nat.le_refl _)
    have el : (zlp (gow f r) p 2048).foldl (stepH (rest (gst f) p)) (gow f r) = lg f p r := by unfold lg hnd; exact rfl
    rw [el] at hH hown
    have hnp : ∀ y, lg f p r y ≠ p + 1 := fun y q => by
      have := (hH.2.2.1 y).mp q
      refine this.2 (zlp_mem.mpr ⟨?_, this.1⟩)
      rcases Nat.lt_or_ge y 2048 with t | t
      · exact t
      · rw [hhi y t] at this; omega
    refine ⟨⟨⟨hH.1.1, fun _ => hH.1.2.1, hH.1.2.2, fun z m hz q => ?_⟩, fun m hm' q => ?_⟩, hH.2.1, fun q => absurd q e⟩
    · have c : m ≠ p := fun c => hnp z (q.trans (by rw [c]))
      rw [setO_ne c]
      exact hown z m q
    · by_cases c : m = p
      · rw [c, setO_same] at q; exact absurd rfl q
      · rw [setO_ne c] at q
        exact hH.2.2.2 m c (hO.2 m hm' q)
theorem zrow_lo {f : Nat → Int32} {j : Nat} (h : j < 238 ∨ 538 ≤ j) : zrow f j = f j := by unfold zrow; rw [if_neg (by omega)]
theorem zrow_acc (f : Nat → Int32) : gst (zrow f) = gst f ∧ gpx (zrow f) = gpx f ∧ gpy (zrow f) = gpy f ∧ gK (zrow f) = gK f ∧ gR (zrow f) = gR f ∧ gmx (zrow f) = gmx f ∧ gmy (zrow f) = gmy f ∧ gsd (zrow f) = gsd f ∧ gva (zrow f) = gva f ∧ (∀ r k, ghd (zrow f) r k = 0) ∧ gow (zrow f) = gow f := by
  refine ⟨?_, ?_, ?_, ?_, ?_, ?_, ?_, ?_, ?_, fun r k => ?_, ?_⟩
  · funext n; unfold gst; split
    · rw [zrow_lo (by omega)]
    · rfl
  · funext n; unfold gpx; split
    · rw [zrow_lo (by omega)]
    · rfl
  · funext n; unfold gpy; split
    · rw [zrow_lo (by omega)]
    · rfl
  · unfold gK; rw [zrow_lo (by omega)]
  · unfold gR; rw [zrow_lo (by omega)]
  · funext n; unfold gmx; split
    · rw [zrow_lo (by omega)]
    · rfl
  · funext n; unfold gmy; split
    · rw [zrow_lo (by omega)]
    · rfl
  · funext n; unfold gsd; split
    · rw [zrow_lo (by omega)]
    · rfl
  · funext n; unfold gva; split
    · rw [zrow_lo (by omega)]
    · rfl
  · unfold ghd zrow
    by_cases h : r < 3 ∧ k < 100
    · rw [if_pos h, if_pos (by omega)]; rfl
    · rw [if_neg h]
  · funext r n; unfold gow; split
    · rw [zrow_lo (by omega)]
    · rfl
/-- the row with one state changed and new owners -/
theorem urow_acc {f : Nat → Int32} {g : Nat → Nat → Nat} {p v : Nat} (hp : p < 10) (hv : v ≤ 2) (hg : ∀ r, r < gR f → (∀ z, z < 2048 → g r z ≤ 10) ∧ ∀ z, 2048 ≤ z → g r z = 0) :
    gst (upd (updA f g (gR f)) p (nI v)) = setO (gst f) p v ∧ gpx (upd (updA f g (gR f)) p (nI v)) = gpx f ∧ gpy (upd (updA f g (gR f)) p (nI v)) = gpy f ∧ gK (upd (updA f g (gR f)) p (nI v)) = gK f ∧ gR (upd (updA f g (gR f)) p (nI v)) = gR f ∧ gmx (upd (updA f g (gR f)) p (nI v)) = gmx f ∧ gmy (upd (updA f g (gR f)) p (nI v)) = gmy f ∧ gsd (upd (updA f g (gR f)) p (nI v)) = gsd f ∧ gva (upd (updA f g (gR f)) p (nI v)) = gva f ∧ ghd (upd (updA f g (gR f)) p (nI v)) = ghd f ∧ (∀ r, r < gR f → gow (upd (updA f g (gR f)) p (nI v)) r = g r) := by
  refine ⟨?_, ?_, ?_, ?_, ?_, ?_, ?_, ?_, ?_, ?_, fun r hr => ?_⟩
  · rw [gst_set hp (by omega), gst_updA]
  · rw [gpx_upd (by omega), gpx_updA]
  · rw [gpy_upd (by omega), gpy_updA]
  · rw [gK_upd (by omega), gK_updA]
  · rw [gR_upd (by omega), gR_updA]
  · rw [gmx_upd (by omega), gmx_updA]
  · rw [gmy_upd (by omega), gmy_updA]
  · rw [gsd_upd (by omega), gsd_updA]
  · rw [gva_upd (by omega), gva_updA]
  · rw [ghd_upd (by omega), ghd_updA]
  · rw [gow_upd (by omega), gow_updA f g _ hg, if_pos hr]
theorem urow_ok {f : Nat → Int32} (hf : RowOK f) {g : Nat → Nat → Nat} {p v : Nat} (hp : p < 10) (hv : v ≤ 2) (hv2 : v ≠ 0 → gst f p ≠ 0) (hg : ∀ r, r < gR f → (∀ z, z < 2048 → g r z ≤ 10) ∧ ∀ z, 2048 ≤ z → g r z = 0) : RowOK (upd (updA f g (gR f)) p (nI v)) := by
  obtain ⟨e1, e2, e3, e4, e5, e6, e7, e8, e9, e10, e11⟩ := urow_acc (f := f) hp hv hg
  have hR := hf.2.2.2.2.1.2.2
  have hA : RowOK (updA f g (gR f)) := hf.updA (gR f) hR (fun r hr => (hg r hr).1)
  have hlo : ∀ j, j ≠ p → upd (updA f g (gR f)) p (nI v) j = updA f g (gR f) j := fun j a => upd_ne' a
  obtain ⟨h1, h2, h3, h4, h5, h6, h7, h8, h9⟩ := hA
  rw [gst_updA] at h1 h2
  rw [gpx_updA, gpy_updA] at h2
  rw [gK_updA] at h3 h4
  rw [gmx_updA, gmy_updA] at h4
  rw [gR_updA] at h5 h8 h9
  rw [gsd_updA] at h6 h7 h8
  rw [gva_updA] at h7
  rw [ghd_updA] at h8
  refine ⟨fun m hm => ?_, fun m hm q => ?_, ?_, fun i hi => ?_, ?_, fun k hk => ?_, fun k hk => ?_, fun r hr k hk => ?_, fun r hr z hz => ?_⟩
  · rw [e1]
    by_cases c : m = p
    · rw [c, setO_same]
      exact ⟨by rw [upd_at, if_pos rfl], hv⟩
    · rw [setO_ne c, hlo m c]
      exact h1 m hm
  · rw [e2, e3, hlo _ (by omega), hlo _ (by omega)]
    refine h2 m hm ?_
    rw [e1] at q
    by_cases c : m = p
    · rw [c, setO_same] at q; rw [c]; exact hv2 q
    · rw [setO_ne c] at q; exact q
  · rw [e4, hlo 30 (by omega)]; exact h3
  · rw [e4] at hi
    rw [e6, e7, hlo _ (by omega), hlo _ (by omega)]
    exact h4 i hi
  · rw [e5, hlo _ (by omega)]; exact h5
  · rw [e8, hlo _ (by omega)]; exact h6 k hk
  · rw [e8, e9, hlo _ (by omega)]; exact h7 k hk
  · rw [e8, e10, e5, hlo _ (by omega)]; exact h8 r hr k hk
  · rw [e5] at hr
    rw [hlo _ (by omega), h9 r hr z hz, e11 r hr, gow_updA f g _ hg, if_pos hr]
theorem zrow_ok {f : Nat → Int32} (hf : RowOK f) : RowOK (zrow f) := by
  obtain ⟨e1, e2, e3, e4, e5, e6, e7, e8, e9, e10, e11⟩ := zrow_acc f
  obtain ⟨h1, h2, h3, h4, h5, h6, h7, h8, h9⟩ := hf
  unfold RowOK
  rw [e1, e2, e3, e4, e5, e6, e7, e8, e9, e11]
  refine ⟨fun m hm => ?_, fun m hm q => ?_, ?_, fun i hi => ?_, ?_, fun k hk => ?_, fun k hk => ?_, fun r hr k hk => ?_, fun r hr z hz => ?_⟩
  · rw [zrow_lo (by omega)]; exact h1 m hm
  · rw [zrow_lo (by omega), zrow_lo (by omega)]; exact h2 m hm q
  · rw [zrow_lo (by omega)]; exact h3
  · have := h3.2
    rw [zrow_lo (by omega), zrow_lo (by omega)]; exact h4 i hi
  · rw [zrow_lo (by omega)]; exact h5
  · rw [zrow_lo (by omega)]; exact h6 k hk
  · rw [zrow_lo (by omega)]; exact h7 k hk
  · rw [e10]
    refine ⟨?_, by decide, fun _ => rfl, fun _ => rfl⟩
    unfold zrow
    rw [if_pos (by omega)]
  · rw [zrow_lo (by omega)]; exact h9 r hr z hz
theorem lg_b {f : Nat → Int32} (hf : Good f) {p : Nat} (hp : p < 10) (hp1 : gst f p ≠ 0) (hm : mayGo (gst f) p) : ∀ r, r < gR f → (∀ z, z < 2048 → lg f p r z ≤ 10) ∧ ∀ z, 2048 ≤ z → lg f p r z = 0 := fun r hr => ⟨(lg_ok hf hp hr hp1 hm).1.1.1.1, (lg_ok hf hp hr hp1 hm).2.1⟩
theorem lrow_good {f : Nat → Int32} (hf : Good f) {p : Nat} (hp : p < 10) (hp1 : gst f p ≠ 0) (hm : mayGo (gst f) p) : Good (lrow f p) := by
  have hb := lg_b hf hp hp1 hm
  have hU := urow_ok hf.1 hp (show 0 ≤ 2 by decide) (fun q => absurd rfl q) hb
  obtain ⟨e1, e2, e3, e4, e5, e6, e7, e8, e9, e10, e11⟩ := urow_acc (v := 0) hp (by decide) hb
  have hG : Good (upd (updA f (lg f p) (gR f)) p (nI 0)) := ⟨hU, fun r hr => by
    rw [e5] at hr
    rw [e11 r hr, e1]
    exact (lg_ok hf hp hr hp1 hm).1⟩
  unfold lrow
  split
  · obtain ⟨z1, z2, z3, z4, z5, z6, z7, z8, z9, z10, z11⟩ := zrow_acc (upd (updA f (lg f p) (gR f)) p (nI 0))
    refine ⟨zrow_ok hU, fun r hr => ?_⟩
    rw [z5] at hr
    rw [z11, z1]
    exact hG.2 r hr
  · exact hG
