/-! ACTS BY CALLS: what they answer, on both sides -/
abbrev inR (x : Int32) (n : Nat) : Prop := ¬ x < 0 ∧ x < nI n
abbrev cl (x : Int32) : Nat := x.toNatClampNeg
theorem inR_n {x : Int32} {n : Nat} (hn : n < 2 ^ 31) (h : inR x n) : x = nI (cl x) ∧ cl x < n := by
  obtain ⟨k, e, hk⟩ := n_ofL hn h.1 h.2
  have h2 : cl x = k := by rw [e]; exact n_cl (by omega)
  rw [h2]
  exact ⟨e, hk⟩
/-- what is thrown (0 nothing), the answer, the state then -/
abbrev RS : Type := Nat × Int32 × AS
def PC (σ : St) (r : RS) (ex : Nat → String) (QX : String → St → Prop) (Q : Int32 → St → Prop) : Prop := (r.1 = 0 → ∀ τ, Cf σ τ → CR τ r.2.2 → Q r.2.1 τ) ∧ (r.1 ≠ 0 → ∀ τ, Cf σ τ → CR τ r.2.2 → QX (ex r.1) τ)
def PR (σ : St) (r : RS) (Q : Int32 → St → Prop) : Prop := ∀ τ v, Rf σ τ → RR τ r.2.2 → τ 244 0 = nI r.1 → (r.1 = 0 → v = r.2.1) → Q v τ
def ex3 (a b c : String) (n : Nat) : String := if n = 1 then a else if n = 2 then b else c
def actR (s : AS) (e k a b c d : Nat) : RS := if acode (sF s) k a b c d = 0 then (0, nI (aans (sF s) k a b c d), actS s k a b c d) else (e, 0, actS s k a b c d)
def rJoin (s : AS) (x1 x2 x3 x4 : Int32) : RS := if (inR x1 100 ∧ inR x2 100) ∧ (inR x3 32 ∧ inR x4 32) then actR s 2 2 (cl x1) (cl x2) (cl x3) (cl x4) else (1, 0, s)
def rNear (s : AS) (x1 x2 : Int32) : RS := if inR x1 100 ∧ inR x2 100 then actR s 2 3 (cl x1) (cl x2) 0 0 else (1, 0, s)
def rGo (s : AS) (x1 x2 : Int32) : RS := if inR x1 10 then (if inR x2 3 then actR s 3 (4 + cl x2) (cl x1) 0 0 0 else (2, 0, s)) else (1, 0, s)
def rTidy (s : AS) : RS := actR s 1 7 0 0 0 0
def rPut (s : AS) (x1 x2 : Int32) : RS := if inR x1 100 then (if inR x2 1000 then actR s 3 8 (cl x1) (cl x2) 0 0 else (2, 0, s)) else (1, 0, s)
def rCut (s : AS) (x1 : Int32) : RS := if inR x1 100 then actR s 2 9 (cl x1) 0 0 0 else (1, 0, s)
def rMend (s : AS) : RS := actR s 1 10 0 0 0 0
abbrev sIAE : String := "java/lang/IllegalArgumentException"
abbrev sISE : String := "java/lang/IllegalStateException"
abbrev sIOB : String := "java/lang/IndexOutOfBoundsException"
abbrev sNSE : String := "java/util/NoSuchElementException"
theorem s_X8_isPlace {σ : St} {x y : Int32} {Q : Int32 → Prop} (h1 : inR x 100 ∧ inR y 100 → Q (nI 1)) (h0 : ¬ (inR x 100 ∧ inR y 100) → Q (nI 0)) : wp_X8_isPlace σ x y Q := by
  unfold wp_X8_isPlace
  refine ⟨fun a => h0 (fun q => q.1.1 a), fun a => ⟨fun b => h0 (fun q => absurd q.1.2 (Int32.not_lt.mpr b)), fun b => ⟨fun c => h0 (fun q => q.2.1 c), fun c => ⟨fun d => h0 (fun q => absurd q.2.2 (Int32.not_lt.mpr d)), fun d => h1 ⟨⟨a, Int32.not_le.mp b⟩, c, Int32.not_le.mp d⟩⟩⟩⟩⟩
theorem s_X8_isCell {σ : St} {x y : Int32} {Q : Int32 → Prop} (h1 : inR x 32 ∧ inR y 32 → Q (nI 1)) (h0 : ¬ (inR x 32 ∧ inR y 32) → Q (nI 0)) : wp_X8_isCell σ x y Q := by
  unfold wp_X8_isCell
  refine ⟨fun a => h0 (fun q => q.1.1 a), fun a => ⟨fun b => h0 (fun q => absurd q.1.2 (Int32.not_lt.mpr b)), fun b => ⟨fun c => h0 (fun q => q.2.1 c), fun c => ⟨fun d => h0 (fun q => absurd q.2.2 (Int32.not_lt.mpr d)), fun d => h1 ⟨⟨a, Int32.not_le.mp b⟩, c, Int32.not_le.mp d⟩⟩⟩⟩⟩
theorem le_pred {x : Int32} {n : Nat} (h0 : 0 < n) (hn : n < 2 ^ 31) : x ≤ nI (n - 1) ↔ x < nI n := by
  rw [Int32.le_iff_toInt_le, Int32.lt_iff_toInt_lt, nI_toInt (by omega), nI_toInt (by omega)]
  omega
theorem ge0_iff {x : Int32} : nI 0 ≤ x ↔ ¬ x < 0 := by rw [nI_0]; exact Int32.not_lt.symm
theorem s_isR {σ : St} {x : Int32} {n : Nat} {Q : Int32 → Prop} (h0 : 0 < n) (hn : n < 2 ^ 31) (hy : inR x n → Q (nI 1)) (hno : ¬ inR x n → Q (nI 0)) : wp_X9_isIn σ x (nI 0) (nI (n - 1)) Q := by
  refine s_X9_isIn (fun a b => hy ⟨ge0_iff.mp a, (le_pred h0 hn).mp b⟩) (fun q => hno (fun t => q ⟨ge0_iff.mpr t.1, (le_pred h0 hn).mpr t.2⟩))
theorem s_X9_isPlace {σ : St} {x y : Int32} {Q : Int32 → Prop} (h1 : inR x 100 ∧ inR y 100 → Q (nI 1)) (h0 : ¬ (inR x 100 ∧ inR y 100) → Q (nI 0)) : wp_X9_isPlace σ x y Q := by
  unfold wp_X9_isPlace
  refine s_isR (n := 100) (by decide) (by decide) (fun a => ⟨fun t => absurd t (by decide), fun _ => ?_⟩) (fun a => ⟨fun _ => h0 (fun q => a q.1), fun t => absurd rfl t⟩)
  exact s_isR (n := 100) (by decide) (by decide) (fun b => ⟨fun t => absurd t (by decide), fun _ => h1 ⟨a, b⟩⟩) (fun b => ⟨fun _ => h0 (fun q => b q.2), fun t => absurd rfl t⟩)
theorem s_X9_isCell {σ : St} {x y : Int32} {Q : Int32 → Prop} (h1 : inR x 32 ∧ inR y 32 → Q (nI 1)) (h0 : ¬ (inR x 32 ∧ inR y 32) → Q (nI 0)) : wp_X9_isCell σ x y Q := by
  unfold wp_X9_isCell
  refine s_isR (n := 32) (by decide) (by decide) (fun a => ⟨fun t => absurd t (by decide), fun _ => ?_⟩) (fun a => ⟨fun _ => h0 (fun q => a q.1), fun t => absurd rfl t⟩)
  exact s_isR (n := 32) (by decide) (by decide) (fun b => ⟨fun t => absurd t (by decide), fun _ => h1 ⟨a, b⟩⟩) (fun b => ⟨fun _ => h0 (fun q => b q.2), fun t => absurd rfl t⟩)
theorem s_X9_isKey {σ : St} {x : Int32} {Q : Int32 → Prop} (h1 : inR x 100 → Q (nI 1)) (h0 : ¬ inR x 100 → Q (nI 0)) : wp_X9_isKey σ x Q := by
  unfold wp_X9_isKey
  exact s_isR (n := 100) (by decide) (by decide) (fun a => ⟨Or.inr (by decide), h1 a⟩) (fun a => ⟨Or.inl (by decide), h0 a⟩)
theorem s_X9_isNode {σ : St} {x : Int32} {Q : Int32 → Prop} (h1 : inR x 10 → Q (nI 1)) (h0 : ¬ inR x 10 → Q (nI 0)) : wp_X9_isNode σ x Q := by
  unfold wp_X9_isNode
  exact s_isR (n := 10) (by decide) (by decide) (fun a => ⟨Or.inr (by decide), h1 a⟩) (fun a => ⟨Or.inl (by decide), h0 a⟩)
theorem s_X8_checkNode {σ : St} {x : Int32} {QX : String → St → Prop} {Q : Prop} (h1 : inR x 10 → Q) (h0 : ¬ inR x 10 → QX sIOB σ) : wp_X8_checkNode σ x QX Q :=
  ⟨fun a => h0 (fun q => q.1 a), fun a => ⟨fun b => h1 ⟨a, b⟩, fun b => h0 (fun q => b q.2)⟩⟩
theorem s_X8_checkKey {σ : St} {x : Int32} {QX : String → St → Prop} {Q : Prop} (h1 : inR x 100 → Q) (h0 : ¬ inR x 100 → QX sIOB σ) : wp_X8_checkKey σ x QX Q :=
  ⟨fun a => h0 (fun q => q.1 a), fun a => ⟨fun b => h1 ⟨a, b⟩, fun b => h0 (fun q => b q.2)⟩⟩
theorem s_X8_checkWhat {σ : St} {x : Int32} {n : Nat} {QX : String → St → Prop} {Q : Prop} (h1 : inR x n → Q) (h0 : ¬ inR x n → QX sNSE σ) : wp_X8_checkWhat σ x (nI n) QX Q :=
  ⟨fun a => h0 (fun q => q.1 a), fun a => ⟨fun b => h1 ⟨a, b⟩, fun b => h0 (fun q => b q.2)⟩⟩
/-! the class -/
theorem PC.no {σ : St} {s : AS} {e : Nat} {x : Int32} {ex : Nat → String} {QX : String → St → Prop} {Q : Int32 → St → Prop} (h : PC σ (e, x, s) ex QX Q) (he : e ≠ 0) (hC : CR σ s) {n : String} (hn : ex e = n) : QX n σ := by
  rw [← hn]
  exact h.2 he σ (Cf.rf σ) hC
theorem s_actR {σ : St} {s : AS} {e k a b c d : Nat} {x1 x2 x3 x4 : Int32} {ex : Nat → String} {QX : String → St → Prop} {Q : Int32 → St → Prop} (h : CR σ s) (hs : Sok s) (hk : k ≤ 10) (ha : aarg k a b c d) (he : e ≠ 0) (hx : ex e = sISE) (hP : PC σ (actR s e k a b c d) ex QX Q)
    (e1 : x1 = nI a) (e2 : x2 = nI b) (e3 : x3 = nI c) (e4 : x4 = nI d) :
    wp_X0_tell σ (nI k) x1 x2 x3 x4 (fun σ_7 => (wp_X8_settle σ_7 QX (fun σ_8 => (lay (σ_8 0 8).toNatClampNeg = (1, 0) ∧ (wp_X1_perform σ_8 ((σ_8 0 8).toNatClampNeg) (fun r_10 σ_11 => (Q r_10 σ_11))))))) := by
  rw [e1, e2, e3, e4]
  unfold actR at hP
  refine s_act h hs hk ha (fun c τ hC hR => ?_) (fun c τ hC hR => ?_)
  · rw [if_neg c] at hP
    have := hP.2 he τ hC hR
    rw [hx] at this
    exact this
  · rw [if_pos c] at hP
    exact hP.1 rfl τ hC hR
theorem s_X8_join {σ : St} {s : AS} {x1 x2 x3 x4 : Int32} {QX : String → St → Prop} {Q : Int32 → St → Prop} (h : CR σ s) (hs : Sok s) (hP : PC σ (rJoin s x1 x2 x3 x4) (ex3 sIAE sISE sISE) QX Q) : wp_X8_join σ x1 x2 x3 x4 QX Q := by
  unfold wp_X8_join
  unfold rJoin at hP
  refine s_X8_isPlace (fun a => ⟨fun t => absurd t (by decide), fun _ => s_X8_isCell (fun b => ⟨fun _ => ?_, fun t => absurd t (by decide)⟩) (fun b => ⟨fun t => absurd rfl t, fun _ => ?_⟩)⟩) (fun a => ⟨fun _ => ?_, fun t => absurd rfl t⟩)
  · rw [if_pos ⟨a, b⟩] at hP
    obtain ⟨i1, i2⟩ := inR_n (by decide) a.1
    obtain ⟨j1, j2⟩ := inR_n (by decide) a.2
    obtain ⟨k1, k2⟩ := inR_n (by decide) b.1
    obtain ⟨l1, l2⟩ := inR_n (by decide) b.2
    exact s_actR h hs (by decide) ⟨i2, j2, k2, l2⟩ (by decide) rfl hP i1 j1 k1 l1
  · rw [if_neg (fun q => b q.2)] at hP
    exact hP.no (by decide) h rfl
  · rw [if_neg (fun q => a q.1)] at hP
    exact hP.no (by decide) h rfl
theorem s_X8_near {σ : St} {s : AS} {x1 x2 : Int32} {QX : String → St → Prop} {Q : Int32 → St → Prop} (h : CR σ s) (hs : Sok s) (hP : PC σ (rNear s x1 x2) (ex3 sIAE sISE sISE) QX Q) : wp_X8_near σ x1 x2 QX Q := by
  unfold wp_X8_near
  unfold rNear at hP
  refine s_X8_isPlace (fun a => ⟨fun _ => ?_, fun t => absurd t (by decide)⟩) (fun a => ⟨fun t => absurd rfl t, fun _ => ?_⟩)
  · rw [if_pos a] at hP
    obtain ⟨i1, i2⟩ := inR_n (by decide) a.1
    obtain ⟨j1, j2⟩ := inR_n (by decide) a.2
    exact s_actR h hs (by decide) ⟨i2, j2⟩ (by decide) rfl hP i1 j1 rfl rfl
  · rw [if_neg a] at hP
    exact hP.no (by decide) h rfl
theorem s_X8_go {σ : St} {s : AS} {x1 x2 : Int32} {QX : String → St → Prop} {Q : Int32 → St → Prop} (h : CR σ s) (hs : Sok s) (hP : PC σ (rGo s x1 x2) (ex3 sIOB sNSE sISE) QX Q) : wp_X8_go σ x1 x2 QX Q := by
  unfold wp_X8_go
  unfold rGo at hP
  refine s_X8_checkNode (fun a => s_X8_checkWhat (fun b => ?_) (fun b => ?_)) (fun a => ?_)
  · rw [if_pos a, if_pos b] at hP
    obtain ⟨i1, i2⟩ := inR_n (by decide) a
    obtain ⟨j1, j2⟩ := inR_n (by decide) b
    rw [show nI 4 + x2 = nI (4 + cl x2) by rw [← n_add, ← j1]]
    have ha : aarg (4 + cl x2) (cl x1) 0 0 0 := by
      have : cl x2 = 0 ∨ cl x2 = 1 ∨ cl x2 = 2 := by omega
      rcases this with e | e | e <;> rw [e] <;> exact i2
    exact s_actR h hs (by omega) ha (by decide) rfl hP i1 rfl rfl rfl
  · rw [if_pos a, if_neg b] at hP
    exact hP.no (by decide) h rfl
  · rw [if_neg a] at hP
    exact hP.no (by decide) h rfl
theorem s_X8_tidy {σ : St} {s : AS} {QX : String → St → Prop} {Q : Int32 → St → Prop} (h : CR σ s) (hs : Sok s) (hP : PC σ (rTidy s) (ex3 sISE sISE sISE) QX Q) : wp_X8_tidy σ QX Q :=
  s_actR h hs (by decide) trivial (by decide) rfl hP rfl rfl rfl rfl
theorem s_X8_mend {σ : St} {s : AS} {QX : String → St → Prop} {Q : Int32 → St → Prop} (h : CR σ s) (hs : Sok s) (hP : PC σ (rMend s) (ex3 sISE sISE sISE) QX Q) : wp_X8_mend σ QX Q :=
  s_actR h hs (by decide) trivial (by decide) rfl hP rfl rfl rfl rfl
theorem s_X8_put {σ : St} {s : AS} {x1 x2 : Int32} {QX : String → St → Prop} {Q : Int32 → St → Prop} (h : CR σ s) (hs : Sok s) (hP : PC σ (rPut s x1 x2) (ex3 sIOB sIAE sISE) QX Q) : wp_X8_put σ x1 x2 QX Q := by
  unfold wp_X8_put
  unfold rPut at hP
  refine s_X8_checkKey (fun a => ?_) (fun a => ?_)
  · rw [if_pos a] at hP
    have hno : ¬ inR x2 1000 → QX sIAE σ := fun b => by
      rw [if_neg b] at hP
      exact hP.no (by decide) h rfl
    refine ⟨fun b => hno (fun q => q.1 b), fun b => ⟨fun c => ?_, fun c => hno (fun q => c q.2)⟩⟩
    rw [if_pos ⟨b, c⟩] at hP
    obtain ⟨i1, i2⟩ := inR_n (by decide) a
    obtain ⟨j1, j2⟩ := inR_n (x := x2) (n := 1000) (by decide) ⟨b, c⟩
    exact s_actR h hs (by decide) ⟨i2, j2⟩ (by decide) rfl hP i1 j1 rfl rfl
  · rw [if_neg a] at hP
    exact hP.no (by decide) h rfl
theorem s_X8_cut {σ : St} {s : AS} {x1 : Int32} {QX : String → St → Prop} {Q : Int32 → St → Prop} (h : CR σ s) (hs : Sok s) (hP : PC σ (rCut s x1) (ex3 sIOB sISE sISE) QX Q) : wp_X8_cut σ x1 QX Q := by
  unfold wp_X8_cut
  unfold rCut at hP
  refine s_X8_checkKey (fun a => ?_) (fun a => ?_)
  · rw [if_pos a] at hP
    obtain ⟨i1, i2⟩ := inR_n (by decide) a
    exact s_actR h hs (by decide) i2 (by decide) rfl hP i1 rfl rfl rfl
  · rw [if_neg a] at hP
    exact hP.no (by decide) h rfl
