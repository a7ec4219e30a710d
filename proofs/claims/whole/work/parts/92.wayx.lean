/-! way: both sides -/
theorem wyL_len (fr : Nat → Nat) (nx : Nat → Option Nat) : ∀ k p, 1 ≤ (wyL fr nx k p).length ∧ (wyL fr nx k p).length ≤ k + 1
  | 0, p => ⟨Nat.le_refl _, Nat.le_refl _⟩
  | k + 1, p => by
    unfold wyL
    split
    · exact ⟨Nat.le_refl _, by show 1 ≤ k + 1 + 1; omega⟩
    · split
      · exact ⟨Nat.le_refl _, by show 1 ≤ k + 1 + 1; omega⟩
      · rename_i q _
        have := wyL_len fr nx k q
        rw [List.length_cons]
        omega
theorem wyL_all {fr : Nat → Nat} {nx : Nat → Option Nat} {P : Nat → Prop} (h : ∀ p q, nx p = some q → P q) : ∀ k p, P p → ∀ i, i < (wyL fr nx k p).length → P ((wyL fr nx k p).getD i 0)
  | 0, p, hp, i, hi => by
    have : i = 0 := by have : i < 1 := hi; omega
    subst this; exact hp
  | k + 1, p, hp, i, hi => by
    have base : ∀ i, i < [p].length → P ([p].getD i 0) := fun i hi => by
      have : i = 0 := by have : i < 1 := hi; omega
      subst this; exact hp
    unfold wyL at hi ⊢
    by_cases c : fr p = 0
    · rw [if_pos c] at hi ⊢; exact base i hi
    · rw [if_neg c] at hi ⊢
      cases e : nx p with
      | none => rw [e] at hi; exact base i hi
      | some q =>
        rw [e] at hi
        dsimp only at hi ⊢
        cases i with
        | zero => exact hp
        | succ i =>
          rw [List.length_cons] at hi
          exact wyL_all h k q (h p q e) i (by omega)
/-- one reality: the class's words -/
theorem frA_1 {o : Nat → Nat} {x y r : Nat} (hr : r < 3) : frA (2 ^ r) (fun _ n => far o x y n) = far o x y := by
  funext n
  have hl := far_le o x y n
  have h3 : r = 0 ∨ r = 1 ∨ r = 2 := by omega
  unfold frA
  rcases h3 with rfl | rfl | rfl
  · show mnF 1 _ n 3 = _
    have e : mnF 1 (fun _ n => far o x y n) n 3 = min 64 (far o x y n) := rfl
    rw [e, Nat.min_eq_right hl]
  · show mnF 2 _ n 3 = _
    have e : mnF 2 (fun _ n => far o x y n) n 3 = min 64 (far o x y n) := rfl
    rw [e, Nat.min_eq_right hl]
  · show mnF 4 _ n 3 = _
    have e : mnF 4 (fun _ n => far o x y n) n 3 = min 64 (far o x y n) := rfl
    rw [e, Nat.min_eq_right hl]
theorem nxA_1 {o : Nat → Nat} {x y r ups : Nat} (hr : r < 3) : nxA (2 ^ r) (fun _ n => far o x y n) (fun _ n => nbn o n) ups = nx1 o ups x y := by
  funext p
  have h3 : r = 0 ∨ r = 1 ∨ r = 2 := by omega
  have key : (sc1 (far o x y) (nbn o p &&& ups) (far o x y p) none 10).2 = nx1 o ups x y p := by
    unfold sc1 nx1
    cases lst (far o x y) (nbn o p &&& ups) 10 with
    | none => rfl
    | some b =>
      dsimp only
      split <;> rfl
  unfold nxA
  rw [frA_1 hr]
  rcases h3 with rfl | rfl | rfl
  · exact key
  · exact key
  · exact key
theorem tb_pow {r j : Nat} (h : (2 ^ r).testBit j = true) : j = r := by
  rw [Nat.testBit_two_pow, decide_eq_true_eq] at h
  exact h.symm
theorem pow_lt8 : ∀ r, r < 3 → 2 ^ r < 8 := by decide
theorem look1 {τ : St} {o : Nat → Nat} {x y r : Nat} (hb : ∀ n, n < 10 → τ 177 (10 * r + n) = nI (nbn o n)) (hf : ∀ n, n < 10 → τ 178 (10 * r + n) = nI (far o x y n)) : LookOK τ (2 ^ r) (fun _ n => far o x y n) (fun _ n => nbn o n) := by
  intro r' _ hbit n hn
  rw [tb_pow hbit]
  exact ⟨hf n hn, far_le o x y n, hb n hn, nbn_lt o n⟩
def qWay (L : List Nat) (b : Bool) (k : Int32) : Int32 := if k = -1 then (if b then -1 else nI (L.length - 1)) else if ¬ k < 0 ∧ k < nI L.length then nI (L.getD (cl k) 0) else -1
def rWay (s : AS) (x1 x2 x3 x4 x5 : Int32) : RS := if inR x1 10 ∧ inR x2 (gR (sF s)) then (if inR x3 32 ∧ inR x4 32 then (if gst (sF s) (cl x1) = 1 then (0, qWay (wayL (gow (sF s) (cl x2)) (bits (gst (sF s)) 1) (cl x3) (cl x4) (cl x1)) (wayS (gow (sF s) (cl x2)) (bits (gst (sF s)) 1) (cl x3) (cl x4) (cl x1)) x5, s) else (3, 0, s)) else (2, 0, s)) else (1, 0, s)
theorem s_X8_checkUp {σ : St} {s : AS} {p : Nat} {QX : String → St → Prop} {Q : Prop} (h : CR σ s) (hs : Sok s) (hp : p < 10) (h1 : gst (sF s) p = 1 → Q) (h0 : gst (sF s) p ≠ 1 → QX sISE σ) : wp_X8_checkUp σ (nI p) QX Q := by
  obtain ⟨A, e, l, hN, -⟩ := h.net
  have h2 := (hs.1.1.1 p hp).2
  unfold wp_X8_checkUp
  rw [e, n_cl (by omega), hN.st p hp, n_eq (by omega) (by decide)]
  exact ⟨l, n_in hp (by decide), h1, h0⟩
theorem CR.sc {σ τ : St} {s : AS} (h : CR σ s) (hs : Sok s) (e : ∀ b, b < 176 ∨ 180 < b → τ b = σ b) : CR τ s := by
  obtain ⟨A, B, F, h⟩ := h
  exact ⟨A, B, F, h.congr hs (fun b hb => e b hb.2.2.2.2.1)⟩
theorem Good.hP {f : Nat → Int32} (hf : Good f) {r : Nat} (hr : r < gR f) : ∀ z, z < 2048 → gow f r z ≠ 0 → PT (gow f r) := fun z hz ho => hf.pt2 hr hz (show gow f r z = (gow f r z - 1) + 1 by omega)
theorem WayOK.hops {τ : St} {L : List Nat} {b : Bool} {Q : Int32 → Prop} (h : WayOK τ L b) (hQ : Q (if b then -1 else nI (L.length - 1))) : wp_X7_hopsOrNone τ Q := by
  unfold wp_X7_hopsOrNone
  rw [h.1, h.2.1]
  cases b with
  | true => exact ⟨fun t => absurd t (by decide), fun _ => hQ⟩
  | false => exact ⟨fun _ => hQ, fun t => absurd rfl t⟩
theorem WayOK.nth {τ : St} {L : List Nat} {b : Bool} {k : Int32} {Q : Int32 → Prop} (h : WayOK τ L b) (h1 : 1 ≤ L.length) (h2 : L.length ≤ 11) (hQ : Q (if ¬ k < 0 ∧ k < nI L.length then nI (L.getD (cl k) 0) else -1)) : wp_X7_nodeOfWay τ k Q := by
  unfold wp_X7_nodeOfWay
  rw [h.1]
  have e : k ≤ nI (L.length - 1) ↔ k < nI L.length := le_pred (by omega) (by omega)
  refine ⟨fun c => ?_, fun c => ⟨fun d => ?_, fun d => ?_⟩⟩
  · rw [if_neg (fun q => q.1 c)] at hQ; exact hQ
  · rw [if_neg (fun q => absurd (e.mpr q.2) (Int32.not_le.mpr d))] at hQ; exact hQ
  · have hk : k < nI L.length := e.mp (Int32.not_lt.mp d)
    rw [if_pos ⟨c, hk⟩] at hQ
    obtain ⟨i1, i2⟩ := inR_n (n := L.length) (by omega) ⟨c, hk⟩
    have h3 := h.2.2 (cl k) i2
    rw [show (Int32.toNatClampNeg k) = cl k from rfl, h3]
    refine ⟨?_, hQ⟩
    rw [i1]
    exact n_in (by omega) (by decide)
theorem s_X8_way {σ : St} {s : AS} {x1 x2 x3 x4 x5 : Int32} {QX : String → St → Prop} {Q : Int32 → St → Prop} (h : CR σ s) (hs : Sok s) (hP : PC σ (rWay s x1 x2 x3 x4 x5) (ex3 sIOB sIAE sISE) QX Q) : wp_X8_way σ x1 x2 x3 x4 x5 QX Q := by
  obtain ⟨A, e, l, hN, hA⟩ := h.net
  unfold rWay at hP
  unfold wp_X8_way
  refine s_X8_checkNode (fun a => s_X8_checkReality h (fun b => s_X8_checkCell (fun c => ?_) (fun c => ?_)) (fun b => ?_)) (fun a => ?_)
  · rw [if_pos ⟨a, b⟩, if_pos c] at hP
    obtain ⟨i1, i2⟩ := inR_n (by decide) a
    obtain ⟨j1, j2, j3⟩ := inR_R hs b
    obtain ⟨k1, k2⟩ := inR_n (by decide) c.1
    obtain ⟨m1, m2⟩ := inR_n (by decide) c.2
    rw [e]
    generalize hc1 : cl x1 = c1 at *
    generalize hc2 : cl x2 = c2 at *
    generalize hc3 : cl x3 = c3 at *
    generalize hc4 : cl x4 = c4 at *
    rw [i1, j1, k1, m1, n_cl (by omega)]
    refine s_X8_checkUp h hs i2 (fun d => ?_) (fun d => ?_)
    · rw [if_pos d] at hP
      have hob := (hs.1.2 c2 j2).1.1
      refine ⟨l, n_in j3 (by decide), s_X7_lookBeside (hN.sp c2 j2) hob (hs.1.hP j2) j3 (Or.inr (by omega)) (fun τ1 a1 a2 a3 => ?_)⟩
      refine s_X7_lookFar (o := gow (sF s) c2) ((hN.sp c2 j2).congr (a1 _ (by omega)) (a1 _ (by omega)) (a1 _ (by omega))) hob j3 k2 m2 (Or.inr (by omega)) (fun τ2 b1 b2 b3 => ?_)
      have t0 : ∀ b, b < 176 ∨ 180 < b → τ2 b = σ b := fun b hb => by rw [b1 b (by omega), a1 b (by omega)]
      rw [t0 0 (by omega), e]
      refine ⟨l, s_X1_nodesThatAre (f := sF s) (by rw [t0 _ (by omega)]; exact hN.st) (fun n hn => (hs.1.1.1 n hn).2) (by decide) ?_⟩
      rw [n_one (by omega)]
      have hlook := look1 (τ := τ2) (o := gow (sF s) c2) (x := c3) (y := c4) (r := c2) (fun n hn => by rw [b1 177 (by decide)]; exact a2 n hn) b2
      refine s_X7_follow hlook (pow_lt8 c2 j3) (bits_lt _ _) i2 (fun τ3 g1 hW => ?_)
      rw [frA_1 j3, nxA_1 j3] at hW
      have hlen := wyL_len (far (gow (sF s) c2) c3 c4) (nx1 (gow (sF s) c2) (bits (gst (sF s)) 1) c3 c4) 10 c1
      have hq := hP.sc (τ := τ3) h hs (fun b hb => by rw [g1 b (by omega) (by omega)]; exact t0 b hb)
      unfold qWay wayL wayS at hq
      refine ⟨fun q => hW.nth hlen.1 hlen.2 ?_, fun q => hW.hops ?_⟩
      · rw [if_neg q] at hq; exact hq
      · rw [if_pos q] at hq; exact hq
    · rw [if_neg d] at hP
      exact hP.no (by decide) h rfl
  · rw [if_pos ⟨a, b⟩, if_neg c] at hP
    exact hP.no (by decide) h rfl
  · rw [if_neg (fun q => b q.2)] at hP
    exact hP.no (by decide) h rfl
  · rw [if_neg (fun q => a q.1)] at hP
    exact hP.no (by decide) h rfl
theorem s_X9_way {σ : St} {s : AS} {x1 x2 x3 x4 x5 : Int32} {Q : Int32 → St → Prop} (h : RR σ s) (hs : Sok s) (hP : PR σ (rWay s x1 x2 x3 x4 x5) Q) : wp_X9_way σ x1 x2 x3 x4 x5 Q := by
  unfold rWay at hP
  unfold wp_X9_way wp_X9_way_16
  refine s_X9_isNode (fun a => ⟨fun t => absurd t (by decide), fun _ => s_X9_isReality h hs (fun b => ⟨fun _ => s_X9_isCell (fun c => ⟨fun _ => ?_, fun t => absurd t (by decide)⟩) (fun c => ⟨fun t => absurd rfl t, fun _ => ?_⟩), fun t => absurd t (by decide)⟩) (fun b => ⟨fun t => absurd rfl t, fun _ => ?_⟩)⟩) (fun a => ⟨fun _ => ?_, fun t => absurd rfl t⟩)
  · rw [if_pos ⟨a, b⟩, if_pos c] at hP
    obtain ⟨i1, i2⟩ := inR_n (by decide) a
    obtain ⟨j1, j2, j3⟩ := inR_R hs b
    obtain ⟨k1, k2⟩ := inR_n (by decide) c.1
    obtain ⟨m1, m2⟩ := inR_n (by decide) c.2
    generalize hc1 : cl x1 = c1 at *
    generalize hc2 : cl x2 = c2 at *
    generalize hc3 : cl x3 = c3 at *
    generalize hc4 : cl x4 = c4 at *
    rw [i1, j1, k1, m1]
    refine s_X9_isState (by rw [h.1]; exact hs.1.1) i2 (by decide) (fun d => ⟨fun _ => ?_, fun t => absurd t (by decide)⟩) (fun d => ⟨fun t => absurd rfl t, fun _ => ?_⟩)
    · rw [h.1] at d
      rw [if_pos d] at hP
      unfold wp_X9_way_47
      intro σ1 h1
      rw [thr_at h1]
      refine ⟨fun _ => ?_, fun t => absurd (by decide) t⟩
      have hR1 := h.thr h1
      have hob := (hs.1.2 c2 j2).1.1
      have hrow : RowOK (σ1 245) := by rw [hR1.1]; exact hs.1.1
      refine s_X9_laysList hrow (by rw [hR1.1]; exact hob) (by rw [hR1.1]; exact j2) (fun τ hL hl => ?_)
      rw [hR1.1] at hl
      have t245 : τ 245 = sF s := by rw [hL.m]; exact hR1.1
      have hown : own1 (gow (sF s) c2) c1 := (hs.1.2 c2 j2).2 c1 i2 (by omega)
      refine s_X9_goes (ups := bits (gst (sF s)) 1) (by rw [t245]; exact hs.1.1) (by rw [t245]) hob hl i2 k2 m2 hown (fun τ2 hW hY => ?_)
      have hq := hP.ok h h1 (hL.sc.tr hW.sc)
      have hlen := wyL_len (far (gow (sF s) c2) c3 c4) (nx1 (gow (sF s) c2) (bits (gst (sF s)) 1) c3 c4) 10 c1
      unfold qWay wayL wayS at hq
      unfold wayL wayS at hY
      generalize wyL (far (gow (sF s) c2) c3 c4) (nx1 (gow (sF s) c2) (bits (gst (sF s)) 1) c3 c4) 10 c1 = L at *
      obtain ⟨y1, y2, y3⟩ := hY
      rw [y1, n_sub hlen.1]
      refine ⟨fun q => s_isR (n := L.length) (by omega) (by omega) (fun u => ⟨fun t => absurd t (by decide), fun _ => ?_⟩) (fun u => ⟨fun _ => ?_, fun t => absurd rfl t⟩), fun q => ?_⟩
      · obtain ⟨n1, n2⟩ := inR_n (by omega) u
        rw [if_neg q, if_pos u] at hq
        rw [show (Int32.toNatClampNeg x5) = cl x5 from rfl, y3 (cl x5) n2]
        refine ⟨?_, hq⟩
        rw [n1]
        exact n_in (by omega) (by decide)
      · rw [if_neg q, if_neg u] at hq; exact hq
      · rw [if_pos q] at hq
        rw [y2]
        cases eb : wyS (far (gow (sF s) c2) c3 c4) (nx1 (gow (sF s) c2) (bits (gst (sF s)) 1) c3 c4) 10 c1 with
        | true => rw [eb] at hq; exact ⟨fun t => absurd t (by decide), fun _ => hq⟩
        | false => rw [eb] at hq; exact ⟨fun _ => hq, fun t => absurd rfl t⟩
    · rw [h.1] at d
      rw [if_neg d] at hP
      unfold wp_X9_way_47
      intro σ1 h1
      rw [thr_at h1]
      exact ⟨fun t => absurd t (by decide), fun _ => s_thr h (by decide) hP σ1 h1⟩
  · rw [if_pos ⟨a, b⟩, if_neg c] at hP
    unfold wp_X9_way_47
    intro σ1 h1
    rw [thr_at h1]
    exact ⟨fun t => absurd t (by decide), fun _ => s_thr h (by decide) hP σ1 h1⟩
  · rw [if_neg (fun q => b q.2)] at hP
    unfold wp_X9_way_47
    intro σ1 h1
    rw [thr_at h1]
    exact ⟨fun t => absurd t (by decide), fun _ => s_thr h (by decide) hP σ1 h1⟩
  · rw [if_neg (fun q => a q.1)] at hP
    unfold wp_X9_way_47
    intro σ1 h1
    rw [thr_at h1]
    exact ⟨fun t => absurd t (by decide), fun _ => s_thr h (by decide) hP σ1 h1⟩
