/-! seek: what it answers -/
def apt (f : Nat → Int32) (a b : Nat) : Nat := ap (gpx f a) (gpx f b) + ap (gpy f a) (gpy f b)
def dly (f : Nat → Int32) (L : List Nat) (n : Nat) : Nat := sumN (fun k => apt f (L.getD k 0) (L.getD (k + 1) 0)) n
theorem apt_le {f : Nat → Int32} (hf : RowOK f) {a b : Nat} (ha : a < 10) (hb : b < 10) (h1 : gst f a ≠ 0) (h2 : gst f b ≠ 0) : apt f a b ≤ 198 := by
  have p1 := hf.2.1 a ha h1
  have p2 := hf.2.1 b hb h2
  have q1 := ap_le (n := 99) (show gpx f a ≤ 99 by omega) (show gpx f b ≤ 99 by omega)
  have q2 := ap_le (n := 99) (show gpy f a ≤ 99 by omega) (show gpy f b ≤ 99 by omega)
  unfold apt
  omega
/-- nodes that are up -/
def upL (f : Nat → Int32) (L : List Nat) : Prop := ∀ i, i < L.length → L.getD i 0 < 10 ∧ gst f (L.getD i 0) = 1
theorem dly_le {f : Nat → Int32} (hf : RowOK f) {L : List Nat} (hL : upL f L) : ∀ n, n + 1 ≤ L.length → dly f L n ≤ 198 * n
  | 0, _ => Nat.zero_le _
  | n + 1, h => by
    have ih := dly_le hf hL n (by omega)
    obtain ⟨a1, a2⟩ := hL n (by omega)
    obtain ⟨b1, b2⟩ := hL (n + 1) (by omega)
    have := apt_le hf a1 b1 (by omega) (by omega)
    show dly f L n + apt f (L.getD n 0) (L.getD (n + 1) 0) ≤ _
    omega
theorem s_X1_apart {σ : St} {A a b : Nat} {f : Nat → Int32} {Q : Int32 → Prop} (h : NetRep σ A f) (hf : RowOK f) (ha : a < 10) (hb : b < 10) (h1 : gst f a ≠ 0) (h2 : gst f b ≠ 0) (hQ : Q (nI (apt f a b))) : wp_X1_apart σ A (nI a) (nI b) Q := by
  have p1 := hf.2.1 a ha h1
  have p2 := hf.2.1 b hb h2
  unfold wp_X1_apart
  rw [n_lt0 (by omega), n_lt0 (by omega), n_le (by decide) (by omega), n_lt (by omega) (by decide), n_cl (by omega), n_cl (by omega), h.px a ha h1, h.px b hb h2, h.py a ha h1, h.py b hb h2, n_abs (by omega) (by omega), n_abs (by omega) (by omega), n_add]
  exact ⟨fun t => t.elim, fun _ => ⟨fun t => absurd t (by omega), fun _ => ⟨fun t => t.elim, fun _ => ⟨fun _ => ⟨n_in ha (by decide), n_in hb (by decide), n_in ha (by decide), n_in hb (by decide), hQ⟩, fun t => absurd hb t⟩⟩⟩⟩
theorem s_X9_placesApart {σ : St} {a b : Nat} {f : Nat → Int32} {Q : Int32 → Prop} (hσ : σ 245 = f) (hf : RowOK f) (ha : a < 10) (hb : b < 10) (h1 : gst f a ≠ 0) (h2 : gst f b ≠ 0) (hQ : Q (nI (apt f a b))) : wp_X9_placesApart σ (nI a) (nI b) Q := by
  have p1 := hf.2.1 a ha h1
  have p2 := hf.2.1 b hb h2
  unfold wp_X9_placesApart
  rw [n_add, n_add, n_add, n_add, n_cl (by omega), n_cl (by omega), n_cl (by omega), n_cl (by omega), hσ, p1.1.1, p1.2.1, p2.1.1, p2.2.1]
  refine ⟨n_in (by omega) (by decide), n_in (by omega) (by decide), s_X9_apart (by omega) (by omega) ⟨n_in (by omega) (by decide), n_in (by omega) (by decide), s_X9_apart (by omega) (by omega) ?_⟩⟩
  rw [n_add]
  exact hQ
theorem s_X8_delayOfWay {σ : St} {s : AS} {L : List Nat} {b : Bool} {Q : Int32 → Prop} (h : CR σ s) (hs : Sok s) (hW : WayOK σ L b) (h1 : 1 ≤ L.length) (h2 : L.length ≤ 11) (hL : upL (sF s) L) (hQ : Q (nI (dly (sF s) L (L.length - 1)))) : wp_X8_delayOfWay σ Q := by
  obtain ⟨A, e, l, hN, -⟩ := h.net
  refine LP2_nat (L.length - 1) (fun i x y => y = nI (i + 1) ∧ x = nI (dly (sF s) L i)) ?_ 0 _ _ (Nat.zero_le _) ⟨rfl, rfl⟩
  rintro ih i _ _ hi ⟨rfl, rfl⟩ hih
  unfold wp_X8_delayOfWay_4
  rw [hW.1, n_lt (by omega) (by omega), e]
  refine ⟨fun q => by rw [show i = L.length - 1 by omega]; exact hQ, fun q => ⟨l, ?_⟩⟩
  have hil : i + 1 < L.length := by omega
  rw [n_sub (by omega), Nat.add_sub_cancel]
  obtain ⟨a1, a2⟩ := hL i (by omega)
  obtain ⟨b1, b2⟩ := hL (i + 1) hil
  refine hW.nth h1 h2 ?_
  rw [if_pos (show ¬ nI i < 0 ∧ nI i < nI L.length from ⟨by rw [n_lt0 (by omega)]; exact not_false, (n_lt (by omega) (by omega)).mpr (by omega)⟩), show cl (nI i) = i from n_cl (by omega)]
  refine hW.nth h1 h2 ?_
  rw [if_pos (show ¬ nI (i + 1) < 0 ∧ nI (i + 1) < nI L.length from ⟨by rw [n_lt0 (by omega)]; exact not_false, (n_lt (by omega) (by omega)).mpr hil⟩), show cl (nI (i + 1)) = i + 1 from n_cl (by omega)]
  refine s_X1_apart hN hs.1.1 a1 b1 (by omega) (by omega) ?_
  rw [n_add]
  intro x hx y hy
  rw [hx, hy, n_add]
  exact hih _ _ (by omega) ⟨rfl, rfl⟩
theorem s_X9_delay {σ : St} {s : AS} {L : List Nat} {b : Bool} {Q : Int32 → Prop} (h : σ 245 = sF s) (hs : Sok s) (hW : WayR σ L b) (h1 : 1 ≤ L.length) (h2 : L.length ≤ 11) (hL : upL (sF s) L) (hQ : Q (nI (dly (sF s) L (L.length - 1)))) : wp_X9_delay σ Q := by
  refine LP2_nat (L.length - 1) (fun i x y => y = nI (i + 1) ∧ x = nI (dly (sF s) L i)) ?_ 0 _ _ (Nat.zero_le _) ⟨rfl, rfl⟩
  rintro ih i _ _ hi ⟨rfl, rfl⟩ hih
  unfold wp_X9_delay_4
  rw [hW.1, n_le (by omega) (by omega), n_sub (by omega), Nat.add_sub_cancel, n_cl (by omega), n_cl (by omega)]
  refine ⟨fun q => by rw [show i = L.length - 1 by omega]; exact hQ, fun q => ⟨n_in (by omega) (by decide), n_in (by omega) (by decide), ?_⟩⟩
  have hil : i + 1 < L.length := by omega
  obtain ⟨a1, a2⟩ := hL i (by omega)
  obtain ⟨b1, b2⟩ := hL (i + 1) hil
  rw [hW.2.2 i (by omega), hW.2.2 (i + 1) hil]
  refine s_X9_placesApart h hs.1.1 a1 b1 (by omega) (by omega) ?_
  rw [n_add]
  intro x hx y hy
  rw [hx, hy, n_add]
  exact hih _ _ (by omega) ⟨rfl, rfl⟩
/-! lowest terms -/
def dne : Nat → Nat → Nat → Bool
  | 0, _, b => b == 0
  | k + 1, a, b => b == 0 || dne k b (a % b)
theorem dne_all : (List.range 199).all (fun a => (List.range 199).all (fun b => dne 20 a b)) = true := by decide +kernel
theorem dne_ok {a b : Nat} (ha : a < 199) (hb : b < 199) : dne 20 a b = true := allR (allR dne_all ha) hb
theorem dne_s {k a b : Nat} (h : dne (k + 1) a b = true) (hb : b ≠ 0) : dne k b (a % b) = true := by
  unfold dne at h
  rw [Bool.or_eq_true] at h
  rcases h with h | h
  · exact absurd (by simpa using h) hb
  · exact h
theorem dne_0 {a b : Nat} (h : dne 0 a b = true) : b = 0 := by
  unfold dne at h
  simpa using h
theorem dne_21 {a b : Nat} (hb : b < 199) : dne 21 a b = true := by
  unfold dne
  rw [Bool.or_eq_true]
  by_cases c : b = 0
  · exact Or.inl (by simp [c])
  · exact Or.inr (dne_ok hb (by have := Nat.mod_lt a (show 0 < b by omega); omega))
def strch (D S : Nat) (up : Bool) : Nat := if Nat.gcd D S = 0 then 1 else (if up then D else S) / Nat.gcd D S
theorem gcd_s (a b : Nat) : Nat.gcd b (a % b) = Nat.gcd a b := by
  rw [Nat.gcd_comm a b, Nat.gcd_rec b a, Nat.gcd_comm]
theorem s_X8_stretch {σ : St} {D S : Nat} {up : Bool} {t : Int32} {Q : Int32 → Prop} (hD : D < 10000) (hS : S < 199) (ht : t = bI up) (hQ : Q (nI (strch D S up))) : wp_X8_stretch σ (nI D) (nI S) t Q := by
  have fin : ∀ g, g = Nat.gcd D S → g < 20000 → wp_X8_stretch_39 σ (nI D) (nI S) t (nI g) Q := fun g hg hgl => by
    unfold wp_X8_stretch_39
    unfold strch at hQ
    rw [← hg] at hQ
    rw [n_eq0 (by omega), ht]
    refine ⟨fun c => ?_, fun c => by rw [if_pos c] at hQ; exact hQ⟩
    rw [if_neg c] at hQ
    rw [n_div (by omega) (by omega) (by omega), n_div (by omega) (by omega) (by omega)]
    cases up with
    | true => exact ⟨fun q => absurd q (by decide), fun _ => ⟨fun q => c q, hQ⟩⟩
    | false => exact ⟨fun _ => ⟨fun q => c q, hQ⟩, fun q => absurd rfl q⟩
  refine LP3_nat 21 (fun i x y z => z = nI i ∧ ∃ a b, x = nI a ∧ y = nI b ∧ a < 20000 ∧ b < 20000 ∧ Nat.gcd a b = Nat.gcd D S ∧ dne (21 - i) a b = true) ?_ 0 _ _ _ (Nat.zero_le _) ⟨rfl, D, S, rfl, rfl, by omega, by omega, rfl, dne_21 hS⟩
  rintro ih i _ _ _ hi ⟨rfl, a, b, rfl, rfl, ha, hb, hg, hd⟩ hih
  unfold wp_X8_stretch_8
  rw [n_le (by decide) (by omega), n_eq0 (by omega)]
  refine ⟨fun q => absurd q (by omega), fun _ => ⟨fun c => fin a ?_ ha, fun c => ⟨c, ?_⟩⟩⟩
  · rw [← hg, c, Nat.gcd_zero_right]
  · have hil : i < 21 := by
      rcases Nat.lt_or_ge i 21 with t | t
      · exact t
      · rw [show 21 - i = 0 by omega] at hd
        exact absurd (dne_0 hd) c
    rw [n_rem (by omega) (by omega) (by omega), n_add]
    have hm := Nat.mod_lt a (show 0 < b by omega)
    intro x hx y hy
    rw [hx, hy]
    refine hih _ _ _ hil ⟨rfl, b, a % b, rfl, rfl, hb, by omega, by rw [gcd_s]; exact hg, ?_⟩
    refine dne_s ?_ c
    rw [show 21 - (i + 1) + 1 = 21 - i by omega]
    exact hd
theorem s_X9_common {σ : St} {D S : Nat} {Q : Int32 → Prop} (hD : D < 10000) (hS : S < 199) (hQ : Q (nI (Nat.gcd D S))) : wp_X9_common σ (nI D) (nI S) Q := by
  refine LP2_nat 21 (fun i x y => ∃ a b, x = nI a ∧ y = nI b ∧ a < 20000 ∧ b < 20000 ∧ Nat.gcd a b = Nat.gcd D S ∧ dne (21 - i) a b = true) ?_ 0 _ _ (Nat.zero_le _) ⟨D, S, rfl, rfl, by omega, by omega, rfl, dne_21 hS⟩
  rintro ih i _ _ hi ⟨a, b, rfl, rfl, ha, hb, hg, hd⟩ hih
  unfold wp_X9_common_4
  rw [n_le0 (by omega), n_eq0 (by omega)]
  refine ⟨fun c => ?_, fun c => ⟨c, ?_⟩⟩
  · rw [c, Nat.gcd_zero_right] at hg
    rw [hg]; exact hQ
  · have hil : i < 21 := by
      rcases Nat.lt_or_ge i 21 with t | t
      · exact t
      · rw [show 21 - i = 0 by omega] at hd
        exact absurd (dne_0 hd) c
    rw [n_rem (by omega) (by omega) (by omega)]
    have hm := Nat.mod_lt a (show 0 < b by omega)
    intro x hx
    rw [hx]
    refine hih _ _ hil ⟨b, a % b, rfl, rfl, hb, by omega, by rw [gcd_s]; exact hg, ?_⟩
    refine dne_s ?_ c
    rw [show 21 - (i + 1) + 1 = 21 - i by omega]
    exact hd
theorem s_X9_stretch {σ : St} {s : AS} {L : List Nat} {b up : Bool} {Q : Int32 → Prop} (h : σ 245 = sF s) (hs : Sok s) (hW : WayR σ L b) (h1 : 1 ≤ L.length) (h2 : L.length ≤ 11) (hL : upL (sF s) L) (hQ : Q (nI (strch (dly (sF s) L (L.length - 1)) (apt (sF s) (L.getD 0 0) (L.getD (L.length - 1) 0)) up))) : wp_X9_stretch σ (bI up) Q := by
  unfold wp_X9_stretch
  refine s_X9_delay h hs hW h1 h2 hL ?_
  have hdl := dly_le hs.1.1 hL (L.length - 1) (by omega)
  obtain ⟨a1, a2⟩ := hL 0 (by omega)
  obtain ⟨b1, b2⟩ := hL (L.length - 1) (by omega)
  have hal := apt_le hs.1.1 a1 b1 (by omega) (by omega)
  rw [hW.1, n_sub h1, n_cl (by omega)]
  refine ⟨n_in (by omega) (by decide), ?_⟩
  rw [hW.2.2 0 (by omega), hW.2.2 (L.length - 1) (by omega)]
  refine s_X9_placesApart h hs.1.1 a1 b1 (by omega) (by omega) ?_
  generalize dly (sF s) L (L.length - 1) = D at *
  generalize apt (sF s) (L.getD 0 0) (L.getD (L.length - 1) 0) = S at *
  have h37 : Nat.gcd D S ≠ 0 → wp_X9_stretch_37 σ (bI up) (nI D) (nI S) Q := fun hg => by
    unfold wp_X9_stretch_37
    refine s_X9_common (by omega) (by omega) ?_
    unfold strch at hQ
    rw [if_neg hg] at hQ
    have hgl : Nat.gcd D S ≤ D + S := by
      rcases Nat.eq_zero_or_pos D with c | c
      · rw [c, Nat.gcd_zero_left]; omega
      · have := Nat.gcd_le_left S c; omega
    rw [n_eq0 (by omega), n_div (by omega) (by omega) (by omega), n_div (by omega) (by omega) (by omega)]
    cases up with
    | true => exact ⟨fun q => absurd q (by decide), fun _ => ⟨fun q => hg q, hQ⟩⟩
    | false => exact ⟨fun _ => ⟨fun q => hg q, hQ⟩, fun q => absurd rfl q⟩
  rw [n_eq0 (by omega), n_eq0 (by omega)]
  refine ⟨fun c => h37 (fun q => c (Nat.eq_zero_of_gcd_eq_zero_left q)), fun c => ⟨fun c2 => h37 (fun q => c2 (Nat.eq_zero_of_gcd_eq_zero_right q)), fun c2 => ?_⟩⟩
  unfold strch at hQ
  rw [if_pos (by rw [c, c2]; rfl)] at hQ
  exact hQ
