/-! how a question ends: its code, its state -/
theorem rNode_le (s : AS) (x1 x2 : Int32) : (rNode s x1 x2).1 ≤ 2 := by
  unfold rNode
  repeat' split
  all_goals exact Nat.le_of_ble_eq_true rfl
theorem Sok.oNode {s : AS} (h : Sok s) (x1 x2 : Int32) : Sok (rNode s x1 x2).2.2 := by
  unfold rNode
  repeat' split
  all_goals exact h
theorem rZone_le (s : AS) (x1 x2 x3 : Int32) : (rZone s x1 x2 x3).1 ≤ 1 := by
  unfold rZone
  repeat' split
  all_goals exact Nat.le_of_ble_eq_true rfl
theorem Sok.oZone {s : AS} (h : Sok s) (x1 x2 x3 : Int32) : Sok (rZone s x1 x2 x3).2.2 := by
  unfold rZone
  repeat' split
  all_goals exact h
theorem rHeir_le (s : AS) (x1 x2 x3 : Int32) : (rHeir s x1 x2 x3).1 ≤ 1 := by
  unfold rHeir
  repeat' split
  all_goals exact Nat.le_of_ble_eq_true rfl
theorem Sok.oHeir {s : AS} (h : Sok s) (x1 x2 x3 : Int32) : Sok (rHeir s x1 x2 x3).2.2 := by
  unfold rHeir
  repeat' split
  all_goals exact h
theorem rBox_le (s : AS) (x1 x2 : Int32) : (rBox s x1 x2).1 ≤ 2 := by
  unfold rBox
  repeat' split
  all_goals exact Nat.le_of_ble_eq_true rfl
theorem Sok.oBox {s : AS} (h : Sok s) (x1 x2 : Int32) : Sok (rBox s x1 x2).2.2 := by
  unfold rBox
  repeat' split
  all_goals exact h
theorem rCell_le (s : AS) (x1 x2 x3 x4 : Int32) : (rCell s x1 x2 x3 x4).1 ≤ 3 := by
  unfold rCell
  repeat' split
  all_goals exact Nat.le_of_ble_eq_true rfl
theorem Sok.oCell {s : AS} (h : Sok s) (x1 x2 x3 x4 : Int32) : Sok (rCell s x1 x2 x3 x4).2.2 := by
  unfold rCell
  repeat' split
  all_goals exact h
theorem rKey_le (s : AS) (x1 x2 : Int32) : (rKey s x1 x2).1 ≤ 2 := by
  unfold rKey
  repeat' split
  all_goals exact Nat.le_of_ble_eq_true rfl
theorem Sok.oKey {s : AS} (h : Sok s) (x1 x2 : Int32) : Sok (rKey s x1 x2).2.2 := by
  unfold rKey
  repeat' split
  all_goals exact h
theorem rPoint_le (s : AS) (x1 x2 x3 : Int32) : (rPoint s x1 x2 x3).1 ≤ 2 := by
  unfold rPoint
  repeat' split
  all_goals exact Nat.le_of_ble_eq_true rfl
theorem Sok.oPoint {s : AS} (h : Sok s) (x1 x2 x3 : Int32) : Sok (rPoint s x1 x2 x3).2.2 := by
  unfold rPoint
  repeat' split
  all_goals exact h
theorem rOrder_le (s : AS) (x1 x2 : Int32) : (rOrder s x1 x2).1 ≤ 1 := by
  unfold rOrder
  repeat' split
  all_goals exact Nat.le_of_ble_eq_true rfl
theorem Sok.oOrder {s : AS} (h : Sok s) (x1 x2 : Int32) : Sok (rOrder s x1 x2).2.2 := by
  unfold rOrder
  repeat' split
  all_goals exact h
theorem rRisk_le (s : AS) (x1 : Int32) : (rRisk s x1).1 ≤ 1 := by
  unfold rRisk
  repeat' split
  all_goals exact Nat.le_of_ble_eq_true rfl
theorem Sok.oRisk {s : AS} (h : Sok s) (x1 : Int32) : Sok (rRisk s x1).2.2 := by
  unfold rRisk
  repeat' split
  all_goals exact h
theorem rWay_le (s : AS) (x1 x2 x3 x4 x5 : Int32) : (rWay s x1 x2 x3 x4 x5).1 ≤ 3 := by
  unfold rWay
  repeat' split
  all_goals exact Nat.le_of_ble_eq_true rfl
theorem Sok.oWay {s : AS} (h : Sok s) (x1 x2 x3 x4 x5 : Int32) : Sok (rWay s x1 x2 x3 x4 x5).2.2 := by
  unfold rWay
  repeat' split
  all_goals exact h
theorem rSeek_le (s : AS) (x1 x2 x3 : Int32) : (rSeek s x1 x2 x3).1 ≤ 3 := by
  unfold rSeek
  repeat' split
  all_goals exact Nat.le_of_ble_eq_true rfl
theorem Sok.oSeek {s : AS} (h : Sok s) (x1 x2 x3 : Int32) : Sok (rSeek s x1 x2 x3).2.2 := by
  unfold rSeek
  repeat' split
  all_goals exact h
theorem rFriends_le (s : AS) (x1 : Int32) : (rFriends s x1).1 ≤ 1 := by
  unfold rFriends
  repeat' split
  all_goals exact Nat.le_of_ble_eq_true rfl
theorem Sok.oFriends {s : AS} (h : Sok s) (x1 : Int32) : Sok (rFriends s x1).2.2 := by
  unfold rFriends
  repeat' split
  all_goals exact h
theorem rHeld_le (s : AS) (x1 x2 x3 : Int32) : (rHeld s x1 x2 x3).1 ≤ 2 := by
  unfold rHeld
  repeat' split
  all_goals exact Nat.le_of_ble_eq_true rfl
theorem Sok.oHeld {s : AS} (h : Sok s) (x1 x2 x3 : Int32) : Sok (rHeld s x1 x2 x3).2.2 := by
  unfold rHeld
  repeat' split
  all_goals exact h
theorem rReal_le (s : AS) (x1 x2 : Int32) : (rReal s x1 x2).1 ≤ 2 := by
  unfold rReal
  repeat' split
  all_goals exact Nat.le_of_ble_eq_true rfl
theorem Sok.oReal {s : AS} (h : Sok s) (x1 x2 : Int32) : Sok (rReal s x1 x2).2.2 := by
  unfold rReal
  repeat' split
  all_goals exact h
theorem rWays_le (s : AS) (x1 x2 : Int32) : (rWays s x1 x2).1 ≤ 2 := by
  unfold rWays
  repeat' split
  all_goals exact Nat.le_of_ble_eq_true rfl
theorem Sok.oWays {s : AS} (h : Sok s) (x1 x2 : Int32) : Sok (rWays s x1 x2).2.2 := by
  unfold rWays
  repeat' split
  all_goals exact h
theorem Sok.oAct {s : AS} (h : Sok s) {e k a b c d : Nat} (hk : k ≤ 10) (ha : aarg k a b c d) : Sok (actR s e k a b c d).2.2 := by
  have := h.act hk ha
  unfold actR
  split
  · exact this
  · exact this
theorem rJoin_le (s : AS) (x1 x2 x3 x4 : Int32) : (rJoin s x1 x2 x3 x4).1 ≤ 2 := by
  unfold rJoin
  split
  · exact actR_le (Nat.le_refl _)
  · exact Nat.le_of_ble_eq_true rfl
theorem Sok.oJoin {s : AS} (h : Sok s) (x1 x2 x3 x4 : Int32) : Sok (rJoin s x1 x2 x3 x4).2.2 := by
  unfold rJoin
  split
  · rename_i q
    exact h.oAct (by decide) ⟨(inR_n (by decide) q.1.1).2, (inR_n (by decide) q.1.2).2, (inR_n (by decide) q.2.1).2, (inR_n (by decide) q.2.2).2⟩
  · exact h
theorem rNear_le (s : AS) (x1 x2 : Int32) : (rNear s x1 x2).1 ≤ 2 := by
  unfold rNear
  split
  · exact actR_le (Nat.le_refl _)
  · exact Nat.le_of_ble_eq_true rfl
theorem Sok.oNear {s : AS} (h : Sok s) (x1 x2 : Int32) : Sok (rNear s x1 x2).2.2 := by
  unfold rNear
  split
  · rename_i q
    exact h.oAct (by decide) ⟨(inR_n (by decide) q.1).2, (inR_n (by decide) q.2).2⟩
  · exact h
theorem rTidy_le (s : AS) : (rTidy s).1 ≤ 1 := actR_le (Nat.le_refl _)
theorem Sok.oTidy {s : AS} (h : Sok s) : Sok (rTidy s).2.2 := h.oAct (by decide) trivial
theorem Sok.oMend {s : AS} (h : Sok s) : Sok (rMend s).2.2 := h.oAct (by decide) trivial
theorem rCut_le (s : AS) (x1 : Int32) : (rCut s x1).1 ≤ 2 := by
  unfold rCut
  split
  · exact actR_le (Nat.le_refl _)
  · exact Nat.le_of_ble_eq_true rfl
theorem Sok.oCut {s : AS} (h : Sok s) (x1 : Int32) : Sok (rCut s x1).2.2 := by
  unfold rCut
  split
  · rename_i q
    exact h.oAct (by decide) (show cl x1 < 100 from (inR_n (by decide) q).2)
  · exact h
theorem rPut_le (s : AS) (x1 x2 : Int32) : (rPut s x1 x2).1 ≤ 3 := by
  unfold rPut
  split
  · split
    · exact actR_le (Nat.le_refl _)
    · exact Nat.le_of_ble_eq_true rfl
  · exact Nat.le_of_ble_eq_true rfl
theorem Sok.oPut {s : AS} (h : Sok s) (x1 x2 : Int32) : Sok (rPut s x1 x2).2.2 := by
  unfold rPut
  split
  · rename_i q
    split
    · rename_i q2
      exact h.oAct (by decide) ⟨(inR_n (by decide) q).2, (inR_n (by decide) q2).2⟩
    · exact h
  · exact h
theorem rGo_le (s : AS) (x1 x2 : Int32) : (rGo s x1 x2).1 ≤ 3 := by
  unfold rGo
  split
  · split
    · exact actR_le (Nat.le_refl _)
    · exact Nat.le_of_ble_eq_true rfl
  · exact Nat.le_of_ble_eq_true rfl
theorem Sok.oGo {s : AS} (h : Sok s) (x1 x2 : Int32) : Sok (rGo s x1 x2).2.2 := by
  unfold rGo
  split
  · rename_i q
    split
    · rename_i q2
      have h1 := (inR_n (by decide) q).2
      have h2 := (inR_n (by decide) q2).2
      have h3 : cl x2 = 0 ∨ cl x2 = 1 ∨ cl x2 = 2 := by omega
      rcases h3 with e | e | e <;> rw [e] <;> exact h.oAct (by decide) (show cl x1 < 10 from h1)
    · exact h
  · exact h
theorem rUndo_le (s : AS) : (rUndo s).1 ≤ 1 := by
  unfold rUndo
  split
  · exact Nat.le_refl _
  · exact Nat.zero_le _
