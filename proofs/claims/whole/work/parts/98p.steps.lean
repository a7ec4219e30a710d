/-! the class's helpers and the reference, call by call: what they leave (written by gen98p) -/
theorem K_acts (l : Launch) (hl : l.stackTraces = false) (G : Gp) {σ : St} {s : AS} (hC : CR σ s) (hR : RR σ s) (hs : Sok s) : CnW l yL_acts cL_acts 3 (some .int) [(0, 8, 11, 13)] 10 229 2 12 G [.ref (gb G + 0), .ref (gb G + 258)] σ (qI (LQ (rActs s) s)) :=
  H_acts l hl G (s_X8_acts hC hs (lc1 hR hs.acts (rActs_le s)))
theorem M_acts {τ : St} {s : AS} {k : Int32} (h : LQ (rActs s) s k τ) (hs : Sok s) : wp_X9_acts τ (fun v ρ => LR2 (rActs s) k v ρ) :=
  s_X9_acts h.2.2.2 hs (lr h hs.acts (Nat.le_trans (rActs_le s) (by decide)))
theorem K_join (l : Launch) (hl : l.stackTraces = false) (G : Gp) (x1 : Int32) (x2 : Int32) (x3 : Int32) (x4 : Int32) {σ : St} {s : AS} (hC : CR σ s) (hR : RR σ s) (hs : Sok s) : CnW l yL_join cL_join 7 (some .int) [(0, 14, 17, 13), (0, 14, 21, 19)] 8 188 2 12 G [.ref (gb G + 0), .int x1, .int x2, .int x3, .int x4, .ref (gb G + 258)] σ (qI (LQ (rJoin s x1 x2 x3 x4) s)) :=
  H_join l hl G x1 x2 x3 x4 (s_X8_join hC hs (lc2 hR (hs.oJoin x1 x2 x3 x4) (rJoin_le s x1 x2 x3 x4)))
theorem M_join (x1 : Int32) (x2 : Int32) (x3 : Int32) (x4 : Int32) {τ : St} {s : AS} {k : Int32} (h : LQ (rJoin s x1 x2 x3 x4) s k τ) (hs : Sok s) : wp_X9_join τ x1 x2 x3 x4 (fun v ρ => LR2 (rJoin s x1 x2 x3 x4) k v ρ) :=
  s_X9_join h.2.2.2 hs (lr h (hs.oJoin x1 x2 x3 x4) (Nat.le_trans (rJoin_le s x1 x2 x3 x4) (by decide)))
theorem K_near (l : Launch) (hl : l.stackTraces = false) (G : Gp) (x1 : Int32) (x2 : Int32) {σ : St} {s : AS} (hC : CR σ s) (hR : RR σ s) (hs : Sok s) : CnW l yL_near cL_near 5 (some .int) [(0, 10, 13, 13), (0, 10, 17, 19)] 8 186 2 12 G [.ref (gb G + 0), .int x1, .int x2, .ref (gb G + 258)] σ (qI (LQ (rNear s x1 x2) s)) :=
  H_near l hl G x1 x2 (s_X8_near hC hs (lc2 hR (hs.oNear x1 x2) (rNear_le s x1 x2)))
theorem M_near (x1 : Int32) (x2 : Int32) {τ : St} {s : AS} {k : Int32} (h : LQ (rNear s x1 x2) s k τ) (hs : Sok s) : wp_X9_near τ x1 x2 (fun v ρ => LR2 (rNear s x1 x2) k v ρ) :=
  s_X9_near h.2.2.2 hs (lr h (hs.oNear x1 x2) (Nat.le_trans (rNear_le s x1 x2) (by decide)))
theorem K_go (l : Launch) (hl : l.stackTraces = false) (G : Gp) (x1 : Int32) (x2 : Int32) {σ : St} {s : AS} (hC : CR σ s) (hR : RR σ s) (hs : Sok s) : CnW l yL_go cL_go 5 (some .int) [(0, 10, 13, 28), (0, 10, 17, 30), (0, 10, 21, 19)] 8 186 3 18 G [.ref (gb G + 0), .int x1, .int x2, .ref (gb G + 258)] σ (qI (LQ (rGo s x1 x2) s)) :=
  H_go l hl G x1 x2 (s_X8_go hC hs (lc3 hR (hs.oGo x1 x2) (rGo_le s x1 x2)))
theorem M_go (x1 : Int32) (x2 : Int32) {τ : St} {s : AS} {k : Int32} (h : LQ (rGo s x1 x2) s k τ) (hs : Sok s) : wp_X9_go τ x1 x2 (fun v ρ => LR2 (rGo s x1 x2) k v ρ) :=
  s_X9_go h.2.2.2 hs (lr h (hs.oGo x1 x2) (Nat.le_trans (rGo_le s x1 x2) (by decide)))
theorem K_tidy (l : Launch) (hl : l.stackTraces = false) (G : Gp) {σ : St} {s : AS} (hC : CR σ s) (hR : RR σ s) (hs : Sok s) : CnW l yL_tidy cL_tidy 3 (some .int) [(0, 8, 11, 19)] 8 184 1 6 G [.ref (gb G + 0), .ref (gb G + 258)] σ (qI (LQ (rTidy s) s)) :=
  H_tidy l hl G (s_X8_tidy hC hs (lc1 hR (hs.oTidy) (rTidy_le s)))
theorem M_tidy {τ : St} {s : AS} {k : Int32} (h : LQ (rTidy s) s k τ) (hs : Sok s) : wp_X9_tidy τ (fun v ρ => LR2 (rTidy s) k v ρ) :=
  s_X9_tidy h.2.2.2 hs (lr h (hs.oTidy) (Nat.le_trans (rTidy_le s) (by decide)))
theorem K_put (l : Launch) (hl : l.stackTraces = false) (G : Gp) (x1 : Int32) (x2 : Int32) {σ : St} {s : AS} (hC : CR σ s) (hR : RR σ s) (hs : Sok s) : CnW l yL_put cL_put 5 (some .int) [(0, 10, 13, 28), (0, 10, 17, 13), (0, 10, 21, 19)] 8 186 3 18 G [.ref (gb G + 0), .int x1, .int x2, .ref (gb G + 258)] σ (qI (LQ (rPut s x1 x2) s)) :=
  H_put l hl G x1 x2 (s_X8_put hC hs (lc3 hR (hs.oPut x1 x2) (rPut_le s x1 x2)))
theorem M_put (x1 : Int32) (x2 : Int32) {τ : St} {s : AS} {k : Int32} (h : LQ (rPut s x1 x2) s k τ) (hs : Sok s) : wp_X9_put τ x1 x2 (fun v ρ => LR2 (rPut s x1 x2) k v ρ) :=
  s_X9_put h.2.2.2 hs (lr h (hs.oPut x1 x2) (Nat.le_trans (rPut_le s x1 x2) (by decide)))
theorem K_cut (l : Launch) (hl : l.stackTraces = false) (G : Gp) (x1 : Int32) {σ : St} {s : AS} (hC : CR σ s) (hR : RR σ s) (hs : Sok s) : CnW l yL_cut cL_cut 4 (some .int) [(0, 9, 12, 28), (0, 9, 15, 19)] 8 185 2 12 G [.ref (gb G + 0), .int x1, .ref (gb G + 258)] σ (qI (LQ (rCut s x1) s)) :=
  H_cut l hl G x1 (s_X8_cut hC hs (lc2 hR (hs.oCut x1) (rCut_le s x1)))
theorem M_cut (x1 : Int32) {τ : St} {s : AS} {k : Int32} (h : LQ (rCut s x1) s k τ) (hs : Sok s) : wp_X9_cut τ x1 (fun v ρ => LR2 (rCut s x1) k v ρ) :=
  s_X9_cut h.2.2.2 hs (lr h (hs.oCut x1) (Nat.le_trans (rCut_le s x1) (by decide)))
theorem K_undo (l : Launch) (hl : l.stackTraces = false) (G : Gp) {σ : St} {s : AS} (hC : CR σ s) (hR : RR σ s) (hs : Sok s) : CnW l yL_undo cL_undo 3 (some .int) [(0, 8, 11, 19)] 7 148 1 6 G [.ref (gb G + 0), .ref (gb G + 258)] σ (qI (LQ (rUndo s) s)) :=
  H_undo l hl G (s_X8_undo hC hs (lc1 hR hs.undo (rUndo_le s)))
theorem M_undo {τ : St} {s : AS} {k : Int32} (h : LQ (rUndo s) s k τ) (hs : Sok s) : wp_X9_undo τ (fun v ρ => LR2 (rUndo s) k v ρ) :=
  s_X9_undo h.2.2.2 hs (lr h hs.undo (Nat.le_trans (rUndo_le s) (by decide)))
theorem K_node (l : Launch) (hl : l.stackTraces = false) (G : Gp) (x1 : Int32) (x2 : Int32) {σ : St} {s : AS} (hC : CR σ s) (hR : RR σ s) (hs : Sok s) : CnW l yL_node cL_node 5 (some .int) [(0, 10, 13, 28), (0, 10, 17, 30)] 8 143 2 12 G [.ref (gb G + 0), .int x1, .int x2, .ref (gb G + 258)] σ (qI (LQ (rNode s x1 x2) s)) :=
  H_node l hl G x1 x2 (s_X8_node hC hs (lc2 hR (hs.oNode x1 x2) (rNode_le s x1 x2)))
theorem M_node (x1 : Int32) (x2 : Int32) {τ : St} {s : AS} {k : Int32} (h : LQ (rNode s x1 x2) s k τ) (hs : Sok s) : wp_X9_node τ x1 x2 (fun v ρ => LR2 (rNode s x1 x2) k v ρ) :=
  s_X9_node h.2.2.2 hs (lr h (hs.oNode x1 x2) (Nat.le_trans (rNode_le s x1 x2) (by decide)))
theorem K_held (l : Launch) (hl : l.stackTraces = false) (G : Gp) (x1 : Int32) (x2 : Int32) (x3 : Int32) {σ : St} {s : AS} (hC : CR σ s) (hR : RR σ s) (hs : Sok s) : CnW l yL_held cL_held 6 (some .int) [(0, 12, 15, 28), (0, 12, 19, 30)] 8 145 3 18 G [.ref (gb G + 0), .int x1, .int x2, .int x3, .ref (gb G + 258)] σ (qI (LQ (rHeld s x1 x2 x3) s)) :=
  H_held l hl G x1 x2 x3 (s_X8_held hC hs (lc2 hR (hs.oHeld x1 x2 x3) (rHeld_le s x1 x2 x3)))
theorem M_held (x1 : Int32) (x2 : Int32) (x3 : Int32) {τ : St} {s : AS} {k : Int32} (h : LQ (rHeld s x1 x2 x3) s k τ) (hs : Sok s) : wp_X9_held τ x1 x2 x3 (fun v ρ => LR2 (rHeld s x1 x2 x3) k v ρ) :=
  s_X9_held h.2.2.2 hs (lr h (hs.oHeld x1 x2 x3) (Nat.le_trans (rHeld_le s x1 x2 x3) (by decide)))
theorem K_zone (l : Launch) (hl : l.stackTraces = false) (G : Gp) (x1 : Int32) (x2 : Int32) (x3 : Int32) {σ : St} {s : AS} (hC : CR σ s) (hR : RR σ s) (hs : Sok s) : CnW l yL_zone cL_zone 6 (some .int) [(0, 12, 15, 28)] 8 144 2 12 G [.ref (gb G + 0), .int x1, .int x2, .int x3, .ref (gb G + 258)] σ (qI (LQ (rZone s x1 x2 x3) s)) :=
  H_zone l hl G x1 x2 x3 (s_X8_zone hC hs (lc1 hR (hs.oZone x1 x2 x3) (rZone_le s x1 x2 x3)))
theorem M_zone (x1 : Int32) (x2 : Int32) (x3 : Int32) {τ : St} {s : AS} {k : Int32} (h : LQ (rZone s x1 x2 x3) s k τ) (hs : Sok s) : wp_X9_zone τ x1 x2 x3 (fun v ρ => LR2 (rZone s x1 x2 x3) k v ρ) :=
  s_X9_zone h.2.2.2 hs (lr h (hs.oZone x1 x2 x3) (Nat.le_trans (rZone_le s x1 x2 x3) (by decide)))
theorem K_box (l : Launch) (hl : l.stackTraces = false) (G : Gp) (x1 : Int32) (x2 : Int32) {σ : St} {s : AS} (hC : CR σ s) (hR : RR σ s) (hs : Sok s) : CnW l yL_box cL_box 5 (some .int) [(0, 10, 13, 13), (0, 10, 17, 30)] 8 144 2 12 G [.ref (gb G + 0), .int x1, .int x2, .ref (gb G + 258)] σ (qI (LQ (rBox s x1 x2) s)) :=
  H_box l hl G x1 x2 (s_X8_box hC (lc2 hR (hs.oBox x1 x2) (rBox_le s x1 x2)))
theorem M_box (x1 : Int32) (x2 : Int32) {τ : St} {s : AS} {k : Int32} (h : LQ (rBox s x1 x2) s k τ) (hs : Sok s) : wp_X9_box τ x1 x2 (fun v ρ => LR2 (rBox s x1 x2) k v ρ) :=
  s_X9_box h.2.2.2 (lr h (hs.oBox x1 x2) (Nat.le_trans (rBox_le s x1 x2) (by decide)))
theorem K_cell (l : Launch) (hl : l.stackTraces = false) (G : Gp) (x1 : Int32) (x2 : Int32) (x3 : Int32) (x4 : Int32) {σ : St} {s : AS} (hC : CR σ s) (hR : RR σ s) (hs : Sok s) : CnW l yL_cell cL_cell 7 (some .int) [(0, 14, 17, 28), (0, 14, 21, 13), (0, 14, 25, 30)] 8 147 3 18 G [.ref (gb G + 0), .int x1, .int x2, .int x3, .int x4, .ref (gb G + 258)] σ (qI (LQ (rCell s x1 x2 x3 x4) s)) :=
  H_cell l hl G x1 x2 x3 x4 (s_X8_cell hC hs (lc3 hR (hs.oCell x1 x2 x3 x4) (rCell_le s x1 x2 x3 x4)))
theorem M_cell (x1 : Int32) (x2 : Int32) (x3 : Int32) (x4 : Int32) {τ : St} {s : AS} {k : Int32} (h : LQ (rCell s x1 x2 x3 x4) s k τ) (hs : Sok s) : wp_X9_cell τ x1 x2 x3 x4 (fun v ρ => LR2 (rCell s x1 x2 x3 x4) k v ρ) :=
  s_X9_cell h.2.2.2 hs (lr h (hs.oCell x1 x2 x3 x4) (Nat.le_trans (rCell_le s x1 x2 x3 x4) (by decide)))
theorem K_heir (l : Launch) (hl : l.stackTraces = false) (G : Gp) (x1 : Int32) (x2 : Int32) (x3 : Int32) {σ : St} {s : AS} (hC : CR σ s) (hR : RR σ s) (hs : Sok s) : CnW l yL_heir cL_heir 6 (some .int) [(0, 12, 15, 28)] 8 146 2 12 G [.ref (gb G + 0), .int x1, .int x2, .int x3, .ref (gb G + 258)] σ (qI (LQ (rHeir s x1 x2 x3) s)) :=
  H_heir l hl G x1 x2 x3 (s_X8_heir (Q := fun v τ => LQ (rHeir s x1 x2 x3) s (nI 0) (su τ 258 0 v)) hC hs (lc1 hR (hs.oHeir x1 x2 x3) (rHeir_le s x1 x2 x3)))
theorem M_heir (x1 : Int32) (x2 : Int32) (x3 : Int32) {τ : St} {s : AS} {k : Int32} (h : LQ (rHeir s x1 x2 x3) s k τ) (hs : Sok s) : wp_X9_heir τ x1 x2 x3 (fun v ρ => LR2 (rHeir s x1 x2 x3) k v ρ) :=
  s_X9_heir h.2.2.2 hs (lr h (hs.oHeir x1 x2 x3) (Nat.le_trans (rHeir_le s x1 x2 x3) (by decide)))
theorem K_key (l : Launch) (hl : l.stackTraces = false) (G : Gp) (x1 : Int32) (x2 : Int32) {σ : St} {s : AS} (hC : CR σ s) (hR : RR σ s) (hs : Sok s) : CnW l yL_key cL_key 5 (some .int) [(0, 10, 13, 28), (0, 10, 17, 30)] 8 143 2 12 G [.ref (gb G + 0), .int x1, .int x2, .ref (gb G + 258)] σ (qI (LQ (rKey s x1 x2) s)) :=
  H_key l hl G x1 x2 (s_X8_key hC (lc2 hR (hs.oKey x1 x2) (rKey_le s x1 x2)))
theorem M_key (x1 : Int32) (x2 : Int32) {τ : St} {s : AS} {k : Int32} (h : LQ (rKey s x1 x2) s k τ) (hs : Sok s) : wp_X9_key τ x1 x2 (fun v ρ => LR2 (rKey s x1 x2) k v ρ) :=
  s_X9_key h.2.2.2 hs (lr h (hs.oKey x1 x2) (Nat.le_trans (rKey_le s x1 x2) (by decide)))
theorem K_point (l : Launch) (hl : l.stackTraces = false) (G : Gp) (x1 : Int32) (x2 : Int32) (x3 : Int32) {σ : St} {s : AS} (hC : CR σ s) (hR : RR σ s) (hs : Sok s) : CnW l yL_point cL_point 6 (some .int) [(0, 12, 15, 28), (0, 12, 19, 30)] 8 146 3 18 G [.ref (gb G + 0), .int x1, .int x2, .int x3, .ref (gb G + 258)] σ (qI (LQ (rPoint s x1 x2 x3) s)) :=
  H_point l hl G x1 x2 x3 (s_X8_point hC hs (lc2 hR (hs.oPoint x1 x2 x3) (rPoint_le s x1 x2 x3)))
theorem M_point (x1 : Int32) (x2 : Int32) (x3 : Int32) {τ : St} {s : AS} {k : Int32} (h : LQ (rPoint s x1 x2 x3) s k τ) (hs : Sok s) : wp_X9_point τ x1 x2 x3 (fun v ρ => LR2 (rPoint s x1 x2 x3) k v ρ) :=
  s_X9_point h.2.2.2 hs (lr h (hs.oPoint x1 x2 x3) (Nat.le_trans (rPoint_le s x1 x2 x3) (by decide)))
theorem K_way (l : Launch) (hl : l.stackTraces = false) (G : Gp) (x1 : Int32) (x2 : Int32) (x3 : Int32) (x4 : Int32) (x5 : Int32) {σ : St} {s : AS} (hC : CR σ s) (hR : RR σ s) (hs : Sok s) : CnW l yL_way cL_way 8 (some .int) [(0, 16, 19, 28), (0, 16, 23, 13), (0, 16, 27, 19)] 8 147 4 24 G [.ref (gb G + 0), .int x1, .int x2, .int x3, .int x4, .int x5, .ref (gb G + 258)] σ (qI (LQ (rWay s x1 x2 x3 x4 x5) s)) :=
  H_way l hl G x1 x2 x3 x4 x5 (s_X8_way hC hs (lc3 hR (hs.oWay x1 x2 x3 x4 x5) (rWay_le s x1 x2 x3 x4 x5)))
theorem M_way (x1 : Int32) (x2 : Int32) (x3 : Int32) (x4 : Int32) (x5 : Int32) {τ : St} {s : AS} {k : Int32} (h : LQ (rWay s x1 x2 x3 x4 x5) s k τ) (hs : Sok s) : wp_X9_way τ x1 x2 x3 x4 x5 (fun v ρ => LR2 (rWay s x1 x2 x3 x4 x5) k v ρ) :=
  s_X9_way h.2.2.2 hs (lr h (hs.oWay x1 x2 x3 x4 x5) (Nat.le_trans (rWay_le s x1 x2 x3 x4 x5) (by decide)))
theorem K_seek (l : Launch) (hl : l.stackTraces = false) (G : Gp) (x1 : Int32) (x2 : Int32) (x3 : Int32) {σ : St} {s : AS} (hC : CR σ s) (hR : RR σ s) (hs : Sok s) : CnW l yL_seek cL_seek 6 (some .int) [(0, 12, 15, 28), (0, 12, 19, 30), (0, 12, 23, 19)] 8 145 4 24 G [.ref (gb G + 0), .int x1, .int x2, .int x3, .ref (gb G + 258)] σ (qI (LQ (rSeek s x1 x2 x3) s)) :=
  H_seek l hl G x1 x2 x3 (s_X8_seek hC hs (lc3 hR (hs.oSeek x1 x2 x3) (rSeek_le s x1 x2 x3)))
theorem M_seek (x1 : Int32) (x2 : Int32) (x3 : Int32) {τ : St} {s : AS} {k : Int32} (h : LQ (rSeek s x1 x2 x3) s k τ) (hs : Sok s) : wp_X9_seek τ x1 x2 x3 (fun v ρ => LR2 (rSeek s x1 x2 x3) k v ρ) :=
  s_X9_seek h.2.2.2 hs (lr h (hs.oSeek x1 x2 x3) (Nat.le_trans (rSeek_le s x1 x2 x3) (by decide)))
theorem K_risk (l : Launch) (hl : l.stackTraces = false) (G : Gp) (x1 : Int32) {σ : St} {s : AS} (hC : CR σ s) (hR : RR σ s) (hs : Sok s) : CnW l yL_risk cL_risk 4 (some .int) [(0, 9, 12, 28)] 8 143 1 6 G [.ref (gb G + 0), .int x1, .ref (gb G + 258)] σ (qI (LQ (rRisk s x1) s)) :=
  H_risk l hl G x1 (s_X8_risk hC hs (lc1 hR (hs.oRisk x1) (rRisk_le s x1)))
theorem M_risk (x1 : Int32) {τ : St} {s : AS} {k : Int32} (h : LQ (rRisk s x1) s k τ) (hs : Sok s) : wp_X9_risk τ x1 (fun v ρ => LR2 (rRisk s x1) k v ρ) :=
  s_X9_risk h.2.2.2 hs (lr h (hs.oRisk x1) (Nat.le_trans (rRisk_le s x1) (by decide)))
theorem K_order (l : Launch) (hl : l.stackTraces = false) (G : Gp) (x1 : Int32) (x2 : Int32) {σ : St} {s : AS} (hC : CR σ s) (hR : RR σ s) (hs : Sok s) : CnW l yL_order cL_order 5 (some .int) [(0, 10, 13, 13)] 7 122 1 6 G [.ref (gb G + 0), .int x1, .int x2, .ref (gb G + 258)] σ (qI (LQ (rOrder s x1 x2) s)) :=
  H_order l hl G x1 x2 (s_X8_order hC hs (lc1 hR (hs.oOrder x1 x2) (rOrder_le s x1 x2)))
theorem M_order (x1 : Int32) (x2 : Int32) {τ : St} {s : AS} {k : Int32} (h : LQ (rOrder s x1 x2) s k τ) (hs : Sok s) : wp_X9_order τ x1 x2 (fun v ρ => LR2 (rOrder s x1 x2) k v ρ) :=
  s_X9_order h.2.2.2 hs (lr h (hs.oOrder x1 x2) (Nat.le_trans (rOrder_le s x1 x2) (by decide)))
theorem K_reality (l : Launch) (hl : l.stackTraces = false) (G : Gp) (x1 : Int32) (x2 : Int32) {σ : St} {s : AS} (hC : CR σ s) (hR : RR σ s) (hs : Sok s) : CnW l yL_reality cL_reality 5 (some .int) [(0, 10, 13, 28), (0, 10, 17, 30)] 8 155 2 12 G [.ref (gb G + 0), .int x1, .int x2, .ref (gb G + 258)] σ (qI (LQ (rReal s x1 x2) s)) :=
  H_reality l hl G x1 x2 (s_X8_reality hC hs (lc2 hR (hs.oReal x1 x2) (rReal_le s x1 x2)))
theorem M_reality (x1 : Int32) (x2 : Int32) {τ : St} {s : AS} {k : Int32} (h : LQ (rReal s x1 x2) s k τ) (hs : Sok s) : wp_X9_reality τ x1 x2 (fun v ρ => LR2 (rReal s x1 x2) k v ρ) :=
  s_X9_reality h.2.2.2 hs (lr h (hs.oReal x1 x2) (Nat.le_trans (rReal_le s x1 x2) (by decide)))
theorem K_ways (l : Launch) (hl : l.stackTraces = false) (G : Gp) (x1 : Int32) (x2 : Int32) {σ : St} {s : AS} (hC : CR σ s) (hR : RR σ s) (hs : Sok s) : CnW l yL_ways cL_ways 5 (some .int) [(0, 10, 13, 28), (0, 10, 17, 30)] 8 157 2 12 G [.ref (gb G + 0), .int x1, .int x2, .ref (gb G + 258)] σ (qI (LQ (rWays s x1 x2) s)) :=
  H_ways l hl G x1 x2 (s_X8_ways hC hs (lc2 hR (hs.oWays x1 x2) (rWays_le s x1 x2)))
theorem M_ways (x1 : Int32) (x2 : Int32) {τ : St} {s : AS} {k : Int32} (h : LQ (rWays s x1 x2) s k τ) (hs : Sok s) : wp_X9_ways τ x1 x2 (fun v ρ => LR2 (rWays s x1 x2) k v ρ) :=
  s_X9_ways h.2.2.2 hs (lr h (hs.oWays x1 x2) (Nat.le_trans (rWays_le s x1 x2) (by decide)))
theorem K_friends (l : Launch) (hl : l.stackTraces = false) (G : Gp) (x1 : Int32) {σ : St} {s : AS} (hC : CR σ s) (hR : RR σ s) (hs : Sok s) : CnW l yL_friends cL_friends 4 (some .int) [(0, 9, 12, 28)] 8 143 1 6 G [.ref (gb G + 0), .int x1, .ref (gb G + 258)] σ (qI (LQ (rFriends s x1) s)) :=
  H_friends l hl G x1 (s_X8_friends hC hs (lc1 hR (hs.oFriends x1) (rFriends_le s x1)))
theorem M_friends (x1 : Int32) {τ : St} {s : AS} {k : Int32} (h : LQ (rFriends s x1) s k τ) (hs : Sok s) : wp_X9_friends τ x1 (fun v ρ => LR2 (rFriends s x1) k v ρ) :=
  s_X9_friends h.2.2.2 hs (lr h (hs.oFriends x1) (Nat.le_trans (rFriends_le s x1) (by decide)))
