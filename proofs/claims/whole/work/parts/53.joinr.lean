/-! A NODE JOINS -/
def cc (x y r : Nat) : Nat := cn ((x + 11 * r) % 32) ((y + 7 * r) % 32)
def jdeep (f : Nat → Int32) (x y k : Nat) : Prop := ∃ r, r < k ∧ 1024 ≤ zat (gow f r) (cc x y r)
def jdead (f : Nat → Int32) (x y k : Nat) : Prop := ∃ r, r < k ∧ ∃ p, gow f r (zat (gow f r) (cc x y r)) = p + 1 ∧ gst f p = 2
theorem cc_lt (x y r : Nat) : 1024 ≤ cc x y r ∧ cc x y r < 2048 := cn_lt (Nat.mod_lt _ (by decide)) (Nat.mod_lt _ (by decide))
theorem zat_lt {o : Nat → Nat} {c : Nat} (hc : c < 2048) : zat o c < 2048 := zatF_lt hc 10
theorem s_X1_refusalOfJoin_57 {σ : St} {a x y : Nat} {f : Nat → Int32} {Q : Int32 → Prop} (h : NetRep σ a f) (hf : Good f) (hx : x < 1000) (hy : y < 1000) (h3 : jdead f x y (gR f) → Q (nI 3)) (h0 : ¬ jdead f x y (gR f) → Q (nI 0)) : ∃ n9 : Nat, LP1 (wp_X1_refusalOfJoin_57 σ a (nI x) (nI y) Q) n9 (nI 0) := by
  have hR := hf.1.2.2.2.2.1.2.2
  refine LP1_nat (gR f) (fun i z => z = nI i ∧ ¬ jdead f x y i) ?_ 0 _ (Nat.zero_le _) ⟨rfl, fun ⟨r, q, _⟩ => absurd q (by omega)⟩
  rintro ih i _ hi ⟨rfl, hnd⟩ hih
  unfold wp_X1_refusalOfJoin_57
  rw [h.re]
  simp (disch := omega) only [forall_eq, forall_eq', n_inT, n_cl, n_lt, n_le, n_eq, n_eq0, n_lt0, n_ge0, n_gt0, n_le0, n_em, n_me, n_add, n_mul, n_00, n_s01, n_1z, n_0z, Nat.one_ne_zero, eq_self, ne_eq, true_and, and_true, true_implies, false_implies, implies_true, not_true_eq_false, not_false_eq_true, false_and, and_false, or_false, false_or, or_true, true_or]
  refine ⟨fun q => ?_, fun q => ⟨n_in (by omega) (by decide), ?_⟩⟩
  · rw [show i = gR f by omega] at hnd
    exact h0 hnd
  · have hir : i < gR f := by omega
    have hob := (hf.2 i hir).1.1
    have hz := zat_lt (o := gow f i) (cc_lt x y i).2
    have hbz := hob.1 _ hz
    refine s_X4_nodeAt (h.sp i hir).1 hob (n_and31 _) (Nat.mod_lt _ (by decide)) (n_and31 _) (Nat.mod_lt _ (by decide)) ?_
    rw [← cc, nm_iff (by omega)]
    refine ⟨fun e => hih _ hir ⟨rfl, ?_⟩, fun e => ?_⟩
    · rintro ⟨r, q1, p, q2, q3⟩
      rcases Nat.lt_or_ge r i with c | c
      · exact hnd ⟨r, c, p, q2, q3⟩
      · rw [show r = i by omega, e] at q2; omega
    · obtain ⟨p, hp⟩ : ∃ p, gow f i (zat (gow f i) (cc x y i)) = p + 1 := ⟨gow f i (zat (gow f i) (cc x y i)) - 1, by omega⟩
      rw [hp, n_sub (by omega), Nat.add_sub_cancel]
      have hst := hf.1.1 p (by omega)
      simp (disch := omega) only [forall_eq, forall_eq', n_inT, n_cl, n_lt, n_le, n_eq, n_eq0, n_lt0, n_ge0, n_gt0, n_le0, n_em, n_me, n_add, n_mul, n_00, n_s01, n_1z, n_0z, Nat.one_ne_zero, eq_self, ne_eq, true_and, and_true, true_implies, false_implies, implies_true, not_true_eq_false, not_false_eq_true, false_and, and_false, or_false, false_or, or_true, true_or]
      rw [h.st p (by omega), n_eq (by omega) (by decide)]
      refine ⟨fun q2 => hih _ hir ⟨rfl, ?_⟩, fun q2 => h3 ⟨i, hir, p, hp, q2⟩⟩
      rintro ⟨r, q1, p', q3, q4⟩
      rcases Nat.lt_or_ge r i with c | c
      · exact hnd ⟨r, c, p', q3, q4⟩
      · rw [show r = i by omega, hp] at q3
        rw [show p' = p by omega] at q4
        exact q2 q4
theorem s_X1_refusalOfJoin_12 {σ : St} {a x y : Nat} {f : Nat → Int32} {Q : Int32 → Prop} (h : NetRep σ a f) (hf : Good f) (hx : x < 1000) (hy : y < 1000) (h2 : jdeep f x y (gR f) → Q (nI 2)) (h3 : ¬ jdeep f x y (gR f) → jdead f x y (gR f) → Q (nI 3)) (h0 : ¬ jdeep f x y (gR f) → ¬ jdead f x y (gR f) → Q (nI 0)) : ∃ n9 : Nat, LP1 (wp_X1_refusalOfJoin_12 σ a (nI x) (nI y) Q) n9 (nI 0) := by
  have hR := hf.1.2.2.2.2.1.2.2
  refine LP1_nat (gR f) (fun i z => z = nI i ∧ ¬ jdeep f x y i) ?_ 0 _ (Nat.zero_le _) ⟨rfl, fun ⟨r, q, _⟩ => absurd q (by omega)⟩
  rintro ih i _ hi ⟨rfl, hnd⟩ hih
  unfold wp_X1_refusalOfJoin_12
  rw [h.re]
  simp (disch := omega) only [forall_eq, forall_eq', n_inT, n_cl, n_lt, n_le, n_eq, n_eq0, n_lt0, n_ge0, n_gt0, n_le0, n_em, n_me, n_add, n_mul, n_00, n_s01, n_1z, n_0z, Nat.one_ne_zero, eq_self, ne_eq, true_and, and_true, true_implies, false_implies, implies_true, not_true_eq_false, not_false_eq_true, false_and, and_false, or_false, false_or, or_true, true_or]
  refine ⟨fun q => ?_, fun q => ⟨n_in (by omega) (by decide), ?_⟩⟩
  · rw [show i = gR f by omega] at hnd
    exact s_X1_refusalOfJoin_57 h hf hx hy (h3 hnd) (h0 hnd)
  · have hir : i < gR f := by omega
    have hob := (hf.2 i hir).1.1
    have hz := zat_lt (o := gow f i) (cc_lt x y i).2
    refine s_X4_zoneAt (h.sp i hir).1 hob (n_and31 _) (Nat.mod_lt _ (by decide)) (n_and31 _) (Nat.mod_lt _ (by decide)) ?_
    rw [← cc, n_lt (by omega) (by decide)]
    refine ⟨fun e => hih _ hir ⟨rfl, ?_⟩, fun e => h2 ⟨i, hir, by omega⟩⟩
    rintro ⟨r, q1, q2⟩
    rcases Nat.lt_or_ge r i with c | c
    · exact hnd ⟨r, c, q2⟩
    · rw [show r = i by omega] at q2; omega
theorem s_X1_refusalOfJoin {σ : St} {a x y n : Nat} {f : Nat → Int32} {Q : Int32 → Prop} (h : NetRep σ a f) (hf : Good f) (hx : x < 1000) (hy : y < 1000) (hn : n < 10) (hn0 : gst f n = 0) (hl : ∀ m, m < n → gst f m ≠ 0) (h2 : jdeep f x y (gR f) → Q (nI 2)) (h3 : ¬ jdeep f x y (gR f) → jdead f x y (gR f) → Q (nI 3)) (h0 : ¬ jdeep f x y (gR f) → ¬ jdead f x y (gR f) → Q (nI 0)) : wp_X1_refusalOfJoin σ a (nI x) (nI y) Q := by
  unfold wp_X1_refusalOfJoin
  refine s_X1_leastNodeAway h hf.1 hn hn0 hl ?_
  exact ⟨fun _ => s_X1_refusalOfJoin_12 h hf hx hy h2 h3 h0, fun q => absurd q (by rw [n_em (by omega)]; exact not_false)⟩
theorem s_X1_refusalOfJoin_no {σ : St} {a x y : Nat} {f : Nat → Int32} {Q : Int32 → Prop} (h : NetRep σ a f) (hf : Good f) (hl : ∀ m, m < 10 → gst f m ≠ 0) (h1 : Q (nI 1)) : wp_X1_refusalOfJoin σ a (nI x) (nI y) Q := by
  unfold wp_X1_refusalOfJoin
  refine s_X1_leastNodeAway_no h hf.1 hl ?_
  exact ⟨fun q => absurd rfl q, fun _ => h1⟩
/-! what a join makes of the row -/
def jg (f : Nat → Int32) (n x y r : Nat) : Nat → Nat := if cntS (gst f) 0 10 = 10 then setO (gow f r) 1 (n + 1) else spl (gow f r) (cc x y r) n
def jrow (f : Nat → Int32) (n px py x y : Nat) : Nat → Int32 := upd (upd (upd (updA f (jg f n x y) (gR f)) n (nI 1)) (10 + n) (nI px)) (20 + n) (nI py)
theorem Good.pt {f : Nat → Int32} (hf : Good f) (hs : some1 (gst f)) {r : Nat} (hr : r < gR f) : PT (gow f r) := ⟨(hf.2 r hr).1.1, (hf.2 r hr).1.2.1 hs, (hf.2 r hr).1.2.2.1⟩
theorem Good.no {f : Nat → Int32} (hf : Good f) (hs : ¬ some1 (gst f)) {r : Nat} (hr : r < gR f) (z : Nat) : gow f r z = 0 := by
  rcases Nat.lt_or_ge z 2048 with q | q
  · exact (hf.2 r hr).1.none hs q
  · exact gow_hi q
theorem spl_hi {o : Nat → Nat} {c n z : Nat} (h : 1 < hlf o c) (hl : hlf o c < 2048) (ho : ∀ y, 2048 ≤ y → o y = 0) (hz : 2048 ≤ z) : spl o c n z = 0 := by
  obtain ⟨a1, a2, a3, a4, a5, a6, a7⟩ := xor1_f hl h
  unfold spl
  rw [spz_v hl h, if_neg (by omega), if_neg (by omega), if_neg (by omega)]
  exact ho z hz
theorem jg_hlf {f : Nat → Int32} (hf : Good f) {x y r : Nat} (hs : some1 (gst f)) (hr : r < gR f) (hd : ¬ jdeep f x y (gR f)) : 1 < hlf (gow f r) (cc x y r) ∧ hlf (gow f r) (cc x y r) < 2048 ∧ hlf (gow f r) (cc x y r) / 2 = zat (gow f r) (cc x y r) ∧ gow f r (zat (gow f r) (cc x y r)) ≠ 0 := by
  have hz : zat (gow f r) (cc x y r) < 1024 := by
    rcases Nat.lt_or_ge (zat (gow f r) (cc x y r)) 1024 with q | q
    · exact q
    · exact absurd ⟨r, hr, q⟩ hd
  obtain ⟨i, -, -, -, q1, q2, q3, q4, -⟩ := hlf_ok (Nat.mod_lt _ (by decide)) (Nat.mod_lt _ (by decide)) (hf.pt hs hr).2.1 hz
  exact ⟨q1, q2, q3, q4⟩
/-- the owners after the join -/
theorem jg_ok {f : Nat → Int32} (hf : Good f) {n x y r : Nat} (hn : n < 10) (hn0 : gst f n = 0) (hr : r < gR f) (hd : ¬ jdeep f x y (gR f)) : OwnOK (jg f n x y r) (setO (gst f) n 1) ∧ ∀ z, 2048 ≤ z → jg f n x y r z = 0 := by
  have hO := hf.2 r hr
  have hst : ∀ m, m ≠ n → setO (gst f) n 1 m = gst f m := fun m q => setO_ne q
  unfold jg
  by_cases e : cntS (gst f) 0 10 = 10
  · rw [if_pos e]
    have hs := (cntS_some _).mp e
    have h0 := fun z => hf.no hs hr z
    have hP := PT.one h0 hn
    refine ⟨⟨⟨hP.1, fun _ => hP.2.1, hP.2.2, fun z m hz q => ?_⟩, fun m hm q => ?_⟩, setO_hi (by decide) (fun y _ => h0 y)⟩
    · by_cases c : z = 1
      · rw [c, setO_same] at q
        rw [show m = n by omega, setO_same]; decide
      · rw [setO_ne c, h0] at q; omega
    · by_cases c : m = n
      · exact ⟨1, by decide, by rw [setO_same, c]⟩
      · rw [hst m c] at q
        exact absurd ⟨m, hm, q⟩ hs
  · rw [if_neg e]
    have hs : some1 (gst f) := Classical.byContradiction fun q => e ((cntS_some _).mpr q)
    have hP0 := hf.pt hs hr
    obtain ⟨q1, q2, q3, q4⟩ := jg_hlf hf hs hr hd
    obtain ⟨a1, a2, a3, a4, a5, a6, a7⟩ := xor1_f q2 q1
    have hP := hP0.sp q2 q1 hn (by rw [q3]; exact q4)
    obtain ⟨b1, b2⟩ := spz_cell (n := n) hP0 q2 q1 (by rw [q3]; exact q4)
    have ev := spz_v (o := gow f r) (n := n) q2 q1
    refine ⟨⟨⟨hP.1, fun _ => hP.2.1, hP.2.2, fun z m hz q => ?_⟩, fun m hm q => ?_⟩, fun z hz => spl_hi q1 q2 (fun y hy => gow_hi hy) hz⟩
    · unfold spl at q
      rw [ev, q3] at q
      by_cases c : m = n
      · rw [c, setO_same]; decide
      · rw [hst m c]
        by_cases c1 : z = hlf (gow f r) (cc x y r) ^^^ 1
        · rw [if_pos c1] at q; exact hO.1.2.2.2 _ m (by omega) q
        · rw [if_neg c1] at q
          by_cases c2 : z = hlf (gow f r) (cc x y r)
          · rw [if_pos c2] at q; omega
          · rw [if_neg c2] at q
            by_cases c3 : z = zat (gow f r) (cc x y r)
            · rw [if_pos c3] at q; omega
            · rw [if_neg c3] at q; exact hO.1.2.2.2 _ m hz q
    · by_cases c : m = n
      · refine ⟨hlf (gow f r) (cc x y r), q2, ?_⟩
        unfold spl
        rw [ev, if_neg (by omega), if_pos rfl, c]
      · rw [hst m c] at q
        obtain ⟨z, hz, ez⟩ := hO.2 m hm q
        by_cases c3 : z = zat (gow f r) (cc x y r)
        · refine ⟨hlf (gow f r) (cc x y r) ^^^ 1, a4, ?_⟩
          unfold spl
          rw [ev, if_pos rfl, q3, ← c3, ez]
        · refine ⟨z, hz, ?_⟩
          unfold spl
          rw [ev, q3, if_neg (fun t => by rw [t, b2] at ez; omega), if_neg (fun t => by rw [t, b1] at ez; omega), if_neg c3, ez]
theorem jrow_acc {f : Nat → Int32} (hf : Good f) {n px py x y : Nat} (hn : n < 10) (hn0 : gst f n = 0) (hpx : px < 100) (hpy : py < 100) (hd : ¬ jdeep f x y (gR f)) :
    gst (jrow f n px py x y) = setO (gst f) n 1 ∧ gpx (jrow f n px py x y) = setO (gpx f) n px ∧ gpy (jrow f n px py x y) = setO (gpy f) n py ∧ gK (jrow f n px py x y) = gK f ∧ gR (jrow f n px py x y) = gR f ∧ gmx (jrow f n px py x y) = gmx f ∧ gmy (jrow f n px py x y) = gmy f ∧ gsd (jrow f n px py x y) = gsd f ∧ gva (jrow f n px py x y) = gva f ∧ ghd (jrow f n px py x y) = ghd f ∧ (∀ r, r < gR f → gow (jrow f n px py x y) r = jg f n x y r) := by
  unfold jrow
  refine ⟨?_, ?_, ?_, ?_, ?_, ?_, ?_, ?_, ?_, ?_, fun r hr => ?_⟩
  · rw [gst_upd (by omega), gst_upd (by omega), gst_set hn (by decide), gst_updA]
  · rw [gpx_upd (by omega), gpx_set hn (by omega), gpx_upd (by omega), gpx_updA]
  · rw [gpy_set hn (by omega), gpy_upd (by omega), gpy_upd (by omega), gpy_updA]
  · rw [gK_upd (by omega), gK_upd (by omega), gK_upd (by omega), gK_updA]
  · rw [gR_upd (by omega), gR_upd (by omega), gR_upd (by omega), gR_updA]
  · rw [gmx_upd (by omega), gmx_upd (by omega), gmx_upd (by omega), gmx_updA]
  · rw [gmy_upd (by omega), gmy_upd (by omega), gmy_upd (by omega), gmy_updA]
  · rw [gsd_upd (by omega), gsd_upd (by omega), gsd_upd (by omega), gsd_updA]
  · rw [gva_upd (by omega), gva_upd (by omega), gva_upd (by omega), gva_updA]
  · rw [ghd_upd (by omega), ghd_upd (by omega), ghd_upd (by omega), ghd_updA]
  · rw [gow_upd (by omega), gow_upd (by omega), gow_upd (by omega), gow_updA, if_pos hr]
    intro q hq
    have h := jg_ok hf hn hn0 hq hd
    exact ⟨h.1.1.1.1, h.2⟩
theorem jrow_good {f : Nat → Int32} (hf : Good f) {n px py x y : Nat} (hn : n < 10) (hn0 : gst f n = 0) (hpx : px < 100) (hpy : py < 100) (hd : ¬ jdeep f x y (gR f)) : Good (jrow f n px py x y) := by
  obtain ⟨e1, e2, e3, e4, e5, e6, e7, e8, e9, e10, e11⟩ := jrow_acc hf (px := px) (py := py) hn hn0 hpx hpy hd
  have hR := hf.1.2.2.2.2.1.2.2
  have hA : RowOK (updA f (jg f n x y) (gR f)) := hf.1.updA (gR f) hR (fun r hr => (jg_ok hf hn hn0 hr hd).1.1.1.1)
  have hlo : ∀ j, j ≠ n → j ≠ 10 + n → j ≠ 20 + n → jrow f n px py x y j = updA f (jg f n x y) (gR f) j := fun j a b c => by unfold jrow; rw [upd_ne' c, upd_ne' b, upd_ne' a]
  obtain ⟨h1, h2, h3, h4, h5, h6, h7, h8, h9⟩ := hA
  rw [gst_updA] at h1 h2
  rw [gpx_updA, gpy_updA] at h2
  rw [gK_updA] at h3 h4
  rw [gmx_updA, gmy_updA] at h4
  rw [gR_updA] at h5 h8 h9
  rw [gsd_updA] at h6 h7 h8
  rw [gva_updA] at h7
  rw [ghd_updA] at h8
  refine ⟨⟨fun m hm => ?_, fun m hm q => ?_, ?_, fun i hi => ?_, ?_, fun k hk => ?_, fun k hk => ?_, fun r hr k hk => ?_, fun r hr z hz => ?_⟩, fun r hr => ?_⟩
  · rw [e1]
    by_cases c : m = n
    · rw [c, setO_same]
      refine ⟨?_, by decide⟩
      unfold jrow
      rw [upd_ne' (by omega), upd_ne' (by omega), upd_at, if_pos rfl]
    · rw [setO_ne c, hlo m c (by omega) (by omega)]
      exact h1 m hm
  · rw [e2, e3]
    rw [e1] at q
    by_cases c : m = n
    · rw [c, setO_same, setO_same]
      unfold jrow
      refine ⟨⟨?_, hpx⟩, ?_, hpy⟩
      · rw [upd_ne' (by omega), upd_at, if_pos rfl]
      · rw [upd_at, if_pos rfl]
    · rw [setO_ne c] at q
      rw [setO_ne c, setO_ne c, hlo _ (by omega) (by omega) (by omega), hlo _ (by omega) (by omega) (by omega)]
      exact h2 m hm q
  · rw [e4, hlo 30 (by omega) (by omega) (by omega)]; exact h3
  · rw [e4] at hi
    rw [e6, e7, hlo _ (by omega) (by omega) (by omega), hlo _ (by omega) (by omega) (by omega)]
    exact h4 i hi
  · rw [e5, hlo _ (by omega) (by omega) (by omega)]; exact h5
  · rw [e8, hlo _ (by omega) (by omega) (by omega)]; exact h6 k hk
  · rw [e8, e9, hlo _ (by omega) (by omega) (by omega)]; exact h7 k hk
  · rw [e8, e10, e5, hlo _ (by omega) (by omega) (by omega)]; exact h8 r hr k hk
  · rw [e5] at hr
    rw [hlo _ (by omega) (by omega) (by omega), h9 r hr z hz, e11 r hr, gow_updA, if_pos hr]
    intro q hq
    have h := jg_ok hf hn hn0 hq hd
    exact ⟨h.1.1.1.1, h.2⟩
  · rw [e5] at hr
    rw [e11 r hr, e1]
    exact (jg_ok hf hn hn0 hr hd).1
