/-! THE STORE: all cells of the system and of the reference, at base + k, k < 259; their contents as numbers -/
abbrev St : Type := Nat → Nat → Int32
def sr (σ : St) (a : Nat) (f : Nat → Int32) : St := fun b => if b = a then f else σ b
theorem sr_same (σ : St) (a : Nat) (f : Nat → Int32) : sr σ a f a = f := by simp [sr]
theorem sr_ne {σ : St} {a b : Nat} {f : Nat → Int32} (h : b ≠ a) : sr σ a f b = σ b := by simp [sr, h]
abbrev su (σ : St) (a i : Nat) (v : Int32) : St := sr σ a (upd (σ a) i v)
/-- what a cell is: 0 to 9 an object of that class, 10 int[], 11 byte[], 12 Net[], 13 Space[], 14 long[]; its length -/
def layN : List (Nat × Nat) := [(1, 0), (13, 3), (10, 10), (10, 10), (10, 10), (10, 3), (10, 3), (10, 100), (10, 100), (4, 0), (10, 2048), (10, 10), (10, 10), (4, 0), (10, 2048), (10, 10), (10, 10), (4, 0), (10, 2048), (10, 10), (10, 10)]
def layL : List (Nat × Nat) := [(8, 0), (6, 0), (11, 400), (3, 0), (0, 0), (10, 4), (2, 0), (12, 8)] ++ (layN ++ (layN ++ (layN ++ (layN ++ (layN ++ (layN ++ (layN ++ (layN ++ ([(7, 0), (10, 30), (10, 30), (10, 11), (5, 0)] ++ (layN ++ (layN ++ (layN ++
  [(9, 0), (10, 6682), (10, 6682), (10, 6682), (10, 53456), (10, 400), (10, 2048), (10, 2048), (10, 2048), (10, 2048), (10, 2048), (10, 2048), (10, 2048), (10, 40), (14, 1)]))))))))))))
def lay (k : Nat) : Nat × Nat := layL.getD k (99, 0)
theorem layL_len : layL.length = 259 := by decide +kernel
theorem lay_lt {k t n : Nat} (h : lay k = (t, n)) (ht : t < 99) : k < 259 := by
  rcases Nat.lt_or_ge k 259 with q | q
  · exact q
  · unfold lay at h
    rw [List.getD_eq_getElem?_getD, List.getElem?_eq_none (by rw [layL_len]; exact q)] at h
    simp only [Option.getD_none, Prod.mk.injEq] at h
    omega
theorem lay_all {P : Nat → Nat × Nat → Bool} (h : (List.range 259).all (fun k => P k (lay k)) = true) {k t n : Nat} (hk : lay k = (t, n)) (ht : t < 99) : P k (t, n) = true := by
  have h1 := List.all_eq_true.mp h k (List.mem_range.mpr (lay_lt hk ht))
  rw [hk] at h1
  exact h1
theorem lay_space {k : Nat} (h : lay k = (4, 0)) : lay (k + 1) = (10, 2048) ∧ lay (k + 2) = (10, 10) ∧ lay (k + 3) = (10, 10) := by
  have h1 := lay_all (P := fun k q => !(q == (4, 0)) || (lay (k + 1) == (10, 2048) && lay (k + 2) == (10, 10) && lay (k + 3) == (10, 10))) (by decide +kernel) h (by decide)
  simpa [and_assoc] using h1
theorem lay_net {k : Nat} (h : lay k = (1, 0)) : lay (k + 1) = (13, 3) ∧ lay (k + 2) = (10, 10) ∧ lay (k + 3) = (10, 10) ∧ lay (k + 4) = (10, 10) ∧ lay (k + 5) = (10, 3) ∧ lay (k + 6) = (10, 3) ∧ lay (k + 7) = (10, 100) ∧ lay (k + 8) = (10, 100) ∧ ∀ r, r < 3 → lay (k + 9 + 4 * r) = (4, 0) := by
  have h1 := lay_all (P := fun k q => !(q == (1, 0)) || (lay (k + 1) == (13, 3) && lay (k + 2) == (10, 10) && lay (k + 3) == (10, 10) && lay (k + 4) == (10, 10) && lay (k + 5) == (10, 3) && lay (k + 6) == (10, 3) && lay (k + 7) == (10, 100) && lay (k + 8) == (10, 100) && (List.range 3).all (fun r => lay (k + 9 + 4 * r) == (4, 0)))) (by decide +kernel) h (by decide)
  simp only [Bool.or_eq_true, Bool.and_eq_true, Bool.not_eq_true', beq_iff_eq, beq_eq_false_iff_ne, List.all_eq_true, List.mem_range, ne_eq, not_true_eq_false, false_or] at h1
  obtain ⟨⟨⟨⟨⟨⟨⟨⟨q1, q2⟩, q3⟩, q4⟩, q5⟩, q6⟩, q7⟩, q8⟩, q9⟩ := h1
  exact ⟨q1, q2, q3, q4, q5, q6, q7, q8, q9⟩
theorem ly_0 : lay 0 = (8, 0) := by decide +kernel
theorem ly_1 : lay 1 = (6, 0) := by decide +kernel
theorem ly_2 : lay 2 = (11, 400) := by decide +kernel
theorem ly_3 : lay 3 = (3, 0) := by decide +kernel
theorem ly_4 : lay 4 = (0, 0) := by decide +kernel
theorem ly_5 : lay 5 = (10, 4) := by decide +kernel
theorem ly_6 : lay 6 = (2, 0) := by decide +kernel
theorem ly_7 : lay 7 = (12, 8) := by decide +kernel
theorem ly_176 : lay 176 = (7, 0) := by decide +kernel
theorem ly_177 : lay 177 = (10, 30) := by decide +kernel
theorem ly_178 : lay 178 = (10, 30) := by decide +kernel
theorem ly_179 : lay 179 = (10, 11) := by decide +kernel
theorem ly_180 : lay 180 = (5, 0) := by decide +kernel
theorem ly_181 : lay 181 = (1, 0) := by decide +kernel
theorem ly_202 : lay 202 = (1, 0) := by decide +kernel
theorem ly_223 : lay 223 = (1, 0) := by decide +kernel
theorem ly_244 : lay 244 = (9, 0) := by decide +kernel
theorem ly_245 : lay 245 = (10, 6682) := by decide +kernel
theorem ly_246 : lay 246 = (10, 6682) := by decide +kernel
theorem ly_247 : lay 247 = (10, 6682) := by decide +kernel
theorem ly_248 : lay 248 = (10, 53456) := by decide +kernel
theorem ly_249 : lay 249 = (10, 400) := by decide +kernel
theorem ly_250 : lay 250 = (10, 2048) := by decide +kernel
theorem ly_251 : lay 251 = (10, 2048) := by decide +kernel
theorem ly_252 : lay 252 = (10, 2048) := by decide +kernel
theorem ly_253 : lay 253 = (10, 2048) := by decide +kernel
theorem ly_254 : lay 254 = (10, 2048) := by decide +kernel
theorem ly_255 : lay 255 = (10, 2048) := by decide +kernel
theorem ly_256 : lay 256 = (10, 2048) := by decide +kernel
theorem ly_257 : lay 257 = (10, 40) := by decide +kernel
theorem ly_258 : lay 258 = (14, 1) := by decide +kernel
theorem lay_sp {k : Nat} {i : Int32} (h : lay k = (1, 0)) (hi : vp_in i 3) : lay (k + 1 + 8 + 4 * i.toNatClampNeg) = (4, 0) := (lay_net h).2.2.2.2.2.2.2.2 _ (Nat.not_le.mp fun q => hi (Or.inr q))
theorem lay_pn {i : Int32} (hi : vp_in i 8) : lay (8 + 21 * i.toNatClampNeg) = (1, 0) := by
  have h : ∀ j, j < 8 → lay (8 + 21 * j) = (1, 0) := by decide +kernel
  exact h _ (Nat.not_le.mp fun q => hi (Or.inr q))
/-- the fields of a class: 0 a number, 1 a cell from here, 2 a cell, 3 a cell that changes -/
def fsp (ci : Nat) : List (Nat × Nat) := match ci with
  | 0 => [(2, 5), (0, 0)]
  | 1 => [(1, 1), (1, 2), (1, 3), (1, 4), (1, 5), (1, 6), (1, 7), (1, 8), (0, 0), (0, 0)]
  | 2 => [(2, 7), (0, 0), (0, 0)]
  | 3 => [(2, 1), (0, 0), (0, 0), (0, 0), (0, 0)]
  | 4 => [(1, 1), (1, 2), (1, 3)]
  | 5 => [(2, 176), (0, 0), (0, 0), (0, 0), (0, 0)]
  | 6 => [(2, 2), (0, 0)]
  | 7 => [(2, 177), (2, 178), (2, 179), (0, 0), (0, 0)]
  | 8 => [(2, 1), (2, 3), (2, 4), (2, 6), (2, 176), (2, 180), (2, 181), (0, 0), (3, 0), (3, 0), (0, 0), (0, 0)]
  | _ => [(0, 0), (2, 245), (2, 246), (2, 247), (2, 248), (0, 0), (0, 0), (0, 0), (2, 249), (0, 0), (0, 0), (0, 0), (0, 0), (0, 0), (0, 0), (0, 0), (0, 0), (2, 250), (2, 251), (2, 252), (2, 253), (2, 254), (2, 255), (0, 0), (2, 256), (2, 257), (0, 0), (0, 0), (0, 0), (0, 0), (0, 0), (0, 0), (0, 0)]
def fval (b k : Nat) (f : Nat → Int32) (j : Nat) (q : Nat × Nat) : Value := match q.1 with
  | 0 => .int (f j)
  | 1 => .ref (b + (k + q.2))
  | 2 => .ref (b + q.2)
  | _ => .ref (b + (f j).toNatClampNeg)
def flds (b k ci : Nat) (f : Nat → Int32) : List Value := (fsp ci).mapIdx (fun j q => fval b k f j q)
/-- what the walks share: base; the classes' numbers; int[], byte[], Net[], Space[], long[]; SPREAD's cell; the texts' cells, and their bytes' -/
abbrev Gp : Type := Nat × va_G × (ClassId × ClassId × ClassId × ClassId × ClassId) × Nat × (Nat → Nat) × (Nat → Nat)
abbrev gb (G : Gp) : Nat := G.1
abbrev gD (G : Gp) : va_G := G.2.1
abbrev gs (G : Gp) : Nat := G.2.2.2.1
abbrev gx (G : Gp) : Nat → Nat := G.2.2.2.2.1
abbrev gy (G : Gp) : Nat → Nat := G.2.2.2.2.2
abbrev gT (G : Gp) : List (ClassId × FieldType) := [(G.2.2.1.1, .int), (G.2.2.1.2.1, .byte), (G.2.2.1.2.2.1, .object RX1), (G.2.2.1.2.2.2.1, .object RX4), (G.2.2.1.2.2.2.2, .long)]
def ent (G : Gp) (k : Nat) (f : Nat → Int32) : va_E :=
  if (lay k).1 = 10 then .inl (G.2.2.1.1, (lay k).2, .inl f)
  else if (lay k).1 = 11 then .inl (G.2.2.1.2.1, (lay k).2, .inl f)
  else if (lay k).1 = 12 then .inl (G.2.2.1.2.2.1, (lay k).2, .inr (.inr (.inr (.inr (fun j => some (gb G + (8 + 21 * j)))))))
  else if (lay k).1 = 13 then .inl (G.2.2.1.2.2.2.1, (lay k).2, .inr (.inr (.inr (.inr (fun j => some (gb G + (k + 8 + 4 * j)))))))
  else if (lay k).1 = 14 then .inl (G.2.2.1.2.2.2.2, (lay k).2, .inr (.inl (fun j => (f j).toInt64)))
  else .inr ((lay k).1, flds (gb G) k (lay k).1 f)
theorem ent_i {G : Gp} {k n : Nat} {f : Nat → Int32} (h : lay k = (10, n)) : ent G k f = .inl (G.2.2.1.1, n, .inl f) := by simp [ent, h]
theorem ent_b {G : Gp} {k n : Nat} {f : Nat → Int32} (h : lay k = (11, n)) : ent G k f = .inl (G.2.2.1.2.1, n, .inl f) := by simp [ent, h]
theorem ent_N {G : Gp} {k n : Nat} {f : Nat → Int32} (h : lay k = (12, n)) : ent G k f = .inl (G.2.2.1.2.2.1, n, .inr (.inr (.inr (.inr (fun j => some (gb G + (8 + 21 * j))))))) := by simp [ent, h]
theorem ent_S {G : Gp} {k n : Nat} {f : Nat → Int32} (h : lay k = (13, n)) : ent G k f = .inl (G.2.2.1.2.2.2.1, n, .inr (.inr (.inr (.inr (fun j => some (gb G + (k + 8 + 4 * j))))))) := by simp [ent, h]
theorem ent_l {G : Gp} {k n : Nat} {f : Nat → Int32} (h : lay k = (14, n)) : ent G k f = .inl (G.2.2.1.2.2.2.2, n, .inr (.inl (fun j => (f j).toInt64))) := by simp [ent, h]
theorem ent_o {G : Gp} {k ci : Nat} {f : Nat → Int32} (h : lay k = (ci, 0)) (hc : ci < 10) : ent G k f = .inr (ci, flds (gb G) k ci f) := by
  have h1 : ¬ ci = 10 := by omega
  have h2 : ¬ ci = 11 := by omega
  have h3 : ¬ ci = 12 := by omega
  have h4 : ¬ ci = 13 := by omega
  have h5 : ¬ ci = 14 := by omega
  simp [ent, h, h1, h2, h3, h4, h5]
def wsOf (G : Gp) (σ : St) : va_W := (List.range 259).map (fun k => (gb G + k, ent G k (σ k)))
theorem ws_get (G : Gp) (σ : St) {k : Nat} (hk : k < 259) : (wsOf G σ)[k]? = some (gb G + k, ent G k (σ k)) := by
  simp [wsOf, List.getElem?_range hk]
theorem ws_some {G : Gp} {σ : St} {k : Nat} {q : Nat × va_E} (h : (wsOf G σ)[k]? = some q) : k < 259 ∧ q = (gb G + k, ent G k (σ k)) := by
  have hl := (List.getElem?_eq_some_iff.mp h).1
  have hk : k < 259 := by simpa [wsOf] using hl
  rw [ws_get G σ hk] at h
  exact ⟨hk, (Option.some.inj h).symm⟩
theorem ws_set (G : Gp) (σ : St) {k : Nat} (hk : k < 259) (f : Nat → Int32) : (wsOf G σ).set k (gb G + k, ent G k f) = wsOf G (sr σ k f) := by
  apply List.ext_getElem?
  intro j
  by_cases hj : j < 259
  · rw [ws_get G _ hj]
    by_cases hjk : j = k
    · subst hjk
      rw [List.getElem?_set_self (by simpa [wsOf] using hj), sr_same]
    · rw [List.getElem?_set_ne (Ne.symm hjk), ws_get G _ hj, sr_ne hjk]
  · rw [List.getElem?_eq_none (by simpa [wsOf] using hj), List.getElem?_eq_none (by simpa [wsOf] using hj)]
abbrev fr (G : Gp) : Nat → Prop := fun q => gb G ≤ q
theorem ws_D (G : Gp) (σ : St) : va_D (fr G) (wsOf G σ) := by
  refine ⟨fun i j p q hi hj e => ?_, fun k q hk => ?_⟩
  · rw [(ws_some hi).2, (ws_some hj).2] at e
    dsimp only at e
    omega
  · rw [(ws_some hk).2]
    exact Nat.le_add_right _ _
theorem flds_get {b k ci : Nat} {f : Nat → Int32} {j : Nat} {q : Nat × Nat} (h : (fsp ci)[j]? = some q) : (flds b k ci f)[j]? = some (fval b k f j q) := by
  simp [flds, List.getElem?_mapIdx, h]
theorem flds_len (b k ci : Nat) (f : Nat → Int32) : (flds b k ci f).length = (fsp ci).length := by simp [flds]
theorem flds_set {b k ci : Nat} {f : Nat → Int32} {j : Nat} {v : Int32} {q : Nat × Nat} {w : Value} (h : (fsp ci)[j]? = some q) (hw : fval b k (upd f j v) j q = w) : (flds b k ci f).set j w = flds b k ci (upd f j v) := by
  apply List.ext_getElem?
  intro i
  by_cases hi : i < (fsp ci).length
  · obtain ⟨q', hq'⟩ : ∃ q', (fsp ci)[i]? = some q' := ⟨_, List.getElem?_eq_getElem hi⟩
    rw [flds_get hq']
    by_cases hij : i = j
    · subst hij
      cases h.symm.trans hq'
      rw [List.getElem?_set_self (by rw [flds_len]; exact hi), hw]
    · rw [List.getElem?_set_ne (Ne.symm hij), flds_get hq']
      congr 1
      unfold fval
      split <;> simp [upd, hij]
  · rw [List.getElem?_eq_none (by simp [flds_len]; omega), List.getElem?_eq_none (by simp [flds_len]; omega)]
/-- the words that every method has -/
def TBL : List Cond := lw_tbl.filter goodWord
theorem tb_good : ∀ w ∈ TBL, goodWord w = true := fun _ h => (List.mem_filter.mp h).2
theorem tb_in {w : Cond} (i : Nat) (h : TBL[i]? = some w) : w ∈ TBL := List.mem_of_getElem? h
theorem tb_GoodIn {w : Cond} (h : w ∈ TBL) : GoodIn TBL (w :: TBL) := fun q hq => by
  rcases List.mem_cons.mp hq with e | e
  · subst e; exact ⟨h, good_of_word (tb_good _ h)⟩
  · exact ⟨e, good_of_word (tb_good _ e)⟩
/-- SPREAD -/
def spr (j : Nat) : Int32 := nI ([0, 1, 4, 5, 16, 17, 20, 21, 64, 65, 68, 69, 80, 81, 84, 85, 256, 257, 260, 261, 272, 273, 276, 277, 320, 321, 324, 325, 336, 337, 340, 341].getD j 0)
