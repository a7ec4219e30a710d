/-! printed by wip/whole/gen: for each method what is asked so that it ends with Q -/
def wp_X0_tell (σ : St) (x1 : Int32) (x2 : Int32) (x3 : Int32) (x4 : Int32) (x5 : Int32) (Q : St → Prop) : Prop :=
  ∀ σ_1 : St, σ_1 = su σ 4 1 x1 → (∀ σ_2 : St, σ_2 = su σ_1 5 0 x2 → (∀ σ_3 : St, σ_3 = su σ_2 5 1 x3 → (∀ σ_4 : St, σ_4 = su σ_3 5 2 x4 → (∀ σ_5 : St, σ_5 = su σ_4 5 3 x5 → (Q σ_5)))))
def wp_X4_copyFrom (σ : St) (a0 : Nat) (a1 : Nat) (Q : St → Prop) : Prop :=
  ∀ σ_1 : St, σ_1 = sr σ (a0 + 1) (va_cpy (σ (a1 + 1)) (σ (a0 + 1)) 0 0 2048) → (∀ σ_2 : St, σ_2 = sr σ_1 (a0 + 2) (va_cpy (σ_1 (a1 + 2)) (σ_1 (a0 + 2)) 0 0 10) → (∀ σ_3 : St, σ_3 = sr σ_2 (a0 + 3) (va_cpy (σ_2 (a1 + 3)) (σ_2 (a0 + 3)) 0 0 10) → (Q σ_3)))
def wp_X1_copyFrom_47 (σ : St) (a0 : Nat) (a1 : Nat) (Q : St → Prop) : Prop :=
  ∀ σ_1 : St, σ_1 = sr σ (a0 + 2) (va_cpy (σ (a1 + 2)) (σ (a0 + 2)) 0 0 10) → (∀ σ_2 : St, σ_2 = sr σ_1 (a0 + 3) (va_cpy (σ_1 (a1 + 3)) (σ_1 (a0 + 3)) 0 0 10) → (∀ σ_3 : St, σ_3 = sr σ_2 (a0 + 4) (va_cpy (σ_2 (a1 + 4)) (σ_2 (a0 + 4)) 0 0 10) → (∀ σ_4 : St, σ_4 = sr σ_3 (a0 + 5) (va_cpy (σ_3 (a1 + 5)) (σ_3 (a0 + 5)) 0 0 3) → (∀ σ_5 : St, σ_5 = sr σ_4 (a0 + 6) (va_cpy (σ_4 (a1 + 6)) (σ_4 (a0 + 6)) 0 0 3) → (∀ σ_6 : St, σ_6 = sr σ_5 (a0 + 7) (va_cpy (σ_5 (a1 + 7)) (σ_5 (a0 + 7)) 0 0 100) → (∀ σ_7 : St, σ_7 = sr σ_6 (a0 + 8) (va_cpy (σ_6 (a1 + 8)) (σ_6 (a0 + 8)) 0 0 100) → (Q σ_7)))))))
def wp_X1_copyFrom_18 (a0 : Nat) (a1 : Nat) (Q : St → Prop) (ih18 : St → Int32 → Prop) (σ : St) (x2 : Int32) : Prop :=
  ((σ a0 9) ≤ x2 → (wp_X1_copyFrom_47 σ a0 a1 Q)) ∧ (¬ (σ a0 9) ≤ x2 → (vp_in x2 3 ∧ (vp_in x2 3 ∧ (wp_X4_copyFrom σ (a0 + 1 + 8 + 4 * Int32.toNatClampNeg x2) (a1 + 1 + 8 + 4 * Int32.toNatClampNeg x2) (fun σ_11 => (∀ x2_12 : Int32, x2_12 = x2 + (nI 1) → (ih18 σ_11 x2_12)))))))
def wp_X1_copyFrom (σ : St) (a0 : Nat) (a1 : Nat) (Q : St → Prop) : Prop :=
  ∀ σ_13 : St, σ_13 = su σ a0 9 (σ a1 9) → (∀ σ_14 : St, σ_14 = su σ_13 a0 8 (σ_13 a1 8) → (∃ n9 : Nat, LP2 (wp_X1_copyFrom_18 a0 a1 Q) n9 σ_14 (nI 0)))
def wp_X1_leastNodeAway_2 (σ : St) (a0 : Nat) (Q : Int32 → Prop) (ih2 : Int32 → Prop) (x1 : Int32) : Prop :=
  ((nI 10) ≤ x1 → (Q (-1))) ∧ (¬ (nI 10) ≤ x1 → (vp_in x1 10 ∧ ((¬ (σ (a0 + 2) (Int32.toNatClampNeg x1)) = 0 → (∀ x1_4 : Int32, x1_4 = x1 + (nI 1) → (ih2 x1_4))) ∧ ((σ (a0 + 2) (Int32.toNatClampNeg x1)) = 0 → (Q x1)))))
def wp_X1_leastNodeAway (σ : St) (a0 : Nat) (Q : Int32 → Prop) : Prop :=
  ∃ n9 : Nat, LP1 (wp_X1_leastNodeAway_2 σ a0 Q) n9 (nI 0)
def wp_X4_zoneAt_28 (σ : St) (a0 : Nat) (x3 : Int32) (Q : Int32 → Prop) (ih28 : Int32 → Prop) (x4 : Int32) : Prop :=
  (x4 < 0 → (Q (nI 0))) ∧ (¬ x4 < 0 → (vp_in (x3 >>> (x4 &&& 31)) 2048 ∧ (((σ (a0 + 1) (Int32.toNatClampNeg (x3 >>> (x4 &&& 31)))) = 0 → (∀ x4_4 : Int32, x4_4 = x4 + (-1) → (ih28 x4_4))) ∧ (¬ (σ (a0 + 1) (Int32.toNatClampNeg (x3 >>> (x4 &&& 31)))) = 0 → (Q (x3 >>> (x4 &&& 31)))))))
def wp_X4_zoneAt (σ : St) (a0 : Nat) (x1 : Int32) (x2 : Int32) (Q : Int32 → Prop) : Prop :=
  vp_in (x1 &&& (nI 31)) 32 ∧ (vp_in (x2 &&& (nI 31)) 32 ∧ (∀ x3_7 : Int32, x3_7 = ((nI 1024) ||| ((spr (Int32.toNatClampNeg (x1 &&& (nI 31)))) <<< ((nI 1) &&& 31))) ||| (spr (Int32.toNatClampNeg (x2 &&& (nI 31)))) → (∃ n9 : Nat, LP1 (wp_X4_zoneAt_28 σ a0 x3_7 Q) n9 (nI 10))))
def wp_X4_nodeAt (σ : St) (a0 : Nat) (x1 : Int32) (x2 : Int32) (Q : Int32 → Prop) : Prop :=
  wp_X4_zoneAt σ a0 x1 x2 (fun r_1 => (vp_in r_1 2048 ∧ (Q ((σ (a0 + 1) (Int32.toNatClampNeg r_1)) - (nI 1)))))
def wp_X1_refusalOfJoin_57 (σ : St) (a0 : Nat) (x1 : Int32) (x2 : Int32) (Q : Int32 → Prop) (ih57 : Int32 → Prop) (x3 : Int32) : Prop :=
  ((σ a0 9) ≤ x3 → (Q (nI 0))) ∧ (¬ (σ a0 9) ≤ x3 → (vp_in x3 3 ∧ (wp_X4_nodeAt σ (a0 + 1 + 8 + 4 * Int32.toNatClampNeg x3) (x1 + ((nI 11) * x3)) (x2 + ((nI 7) * x3)) (fun r_3 => ((r_3 = (-1) → (∀ x3_6 : Int32, x3_6 = x3 + (nI 1) → (ih57 x3_6))) ∧ (¬ r_3 = (-1) → (vp_in r_3 10 ∧ ((¬ (σ (a0 + 2) (Int32.toNatClampNeg r_3)) = (nI 2) → (∀ x3_9 : Int32, x3_9 = x3 + (nI 1) → (ih57 x3_9))) ∧ ((σ (a0 + 2) (Int32.toNatClampNeg r_3)) = (nI 2) → (Q (nI 3)))))))))))
def wp_X1_refusalOfJoin_12 (σ : St) (a0 : Nat) (x1 : Int32) (x2 : Int32) (Q : Int32 → Prop) (ih12 : Int32 → Prop) (x3 : Int32) : Prop :=
  ((σ a0 9) ≤ x3 → (∃ n9 : Nat, LP1 (wp_X1_refusalOfJoin_57 σ a0 x1 x2 Q) n9 (nI 0))) ∧ (¬ (σ a0 9) ≤ x3 → (vp_in x3 3 ∧ (wp_X4_zoneAt σ (a0 + 1 + 8 + 4 * Int32.toNatClampNeg x3) (x1 + ((nI 11) * x3)) (x2 + ((nI 7) * x3)) (fun r_12 => ((r_12 < (nI 1024) → (∀ x3_15 : Int32, x3_15 = x3 + (nI 1) → (ih12 x3_15))) ∧ (¬ r_12 < (nI 1024) → (Q (nI 2))))))))
def wp_X1_refusalOfJoin (σ : St) (a0 : Nat) (x1 : Int32) (x2 : Int32) (Q : Int32 → Prop) : Prop :=
  wp_X1_leastNodeAway σ a0 (fun r_16 => ((¬ r_16 = (-1) → (∃ n9 : Nat, LP1 (wp_X1_refusalOfJoin_12 σ a0 x1 x2 Q) n9 (nI 0))) ∧ (r_16 = (-1) → (Q (nI 1)))))
def wp_X1_awayFrom (σ : St) (a0 : Nat) (x1 : Int32) (x2 : Int32) (x3 : Int32) (Q : Int32 → Prop) : Prop :=
  vp_in x1 3 ∧ (vp_in x1 3 ∧ (Q ((iabs ((σ (a0 + 5) (Int32.toNatClampNeg x1)) - x2)) + (iabs ((σ (a0 + 6) (Int32.toNatClampNeg x1)) - x3)))))
def wp_X1_landmarkInOrder_72 (σ : St) (a0 : Nat) (x1 : Int32) (x2 : Int32) (x3 : Int32) (x4 : Int32) (x5 : Int32) (ih3 : Int32 → Prop) (Q : Int32 → Prop) : Prop :=
  (¬ x5 = x1 → (∀ x4_2 : Int32, x4_2 = x4 + (nI 1) → (ih3 x4_2))) ∧ (x5 = x1 → (Q x4))
def wp_X1_landmarkInOrder_18 (σ : St) (a0 : Nat) (x1 : Int32) (x2 : Int32) (x3 : Int32) (x4 : Int32) (ih3 : Int32 → Prop) (Q : Int32 → Prop) (ih18 : Int32 → Int32 → Prop) (x5 : Int32) (x6 : Int32) : Prop :=
  ((σ a0 8) ≤ x6 → (wp_X1_landmarkInOrder_72 σ a0 x1 x2 x3 x4 x5 ih3 Q)) ∧ (¬ (σ a0 8) ≤ x6 → (wp_X1_awayFrom σ a0 x6 x2 x3 (fun r_4 => (wp_X1_awayFrom σ a0 x4 x2 x3 (fun r_6 => (∀ x7_8 : Int32, x7_8 = r_4 - r_6 → ((x7_8 < 0 → (∀ x5_10 : Int32, x5_10 = x5 + (nI 1) → (∀ x6_11 : Int32, x6_11 = x6 + (nI 1) → (ih18 x5_10 x6_11)))) ∧ (¬ x7_8 < 0 → ((¬ x7_8 = 0 → (∀ x6_13 : Int32, x6_13 = x6 + (nI 1) → (ih18 x5 x6_13))) ∧ (x7_8 = 0 → ((x4 ≤ x6 → (∀ x6_15 : Int32, x6_15 = x6 + (nI 1) → (ih18 x5 x6_15))) ∧ (¬ x4 ≤ x6 → (∀ x5_16 : Int32, x5_16 = x5 + (nI 1) → (∀ x6_17 : Int32, x6_17 = x6 + (nI 1) → (ih18 x5_16 x6_17)))))))))))))))
def wp_X1_landmarkInOrder_3 (σ : St) (a0 : Nat) (x1 : Int32) (x2 : Int32) (x3 : Int32) (Q : Int32 → Prop) (ih3 : Int32 → Prop) (x4 : Int32) : Prop :=
  ((σ a0 8) ≤ x4 → (Q (nI 0))) ∧ (¬ (σ a0 8) ≤ x4 → (∃ n9 : Nat, LP2 (wp_X1_landmarkInOrder_18 σ a0 x1 x2 x3 x4 ih3 Q) n9 (nI 0) (nI 0)))
def wp_X1_landmarkInOrder (σ : St) (a0 : Nat) (x1 : Int32) (x2 : Int32) (x3 : Int32) (Q : Int32 → Prop) : Prop :=
  ∃ n9 : Nat, LP1 (wp_X1_landmarkInOrder_3 σ a0 x1 x2 x3 Q) n9 (nI 0)
def wp_X1_orderOf (σ : St) (a0 : Nat) (x1 : Int32) (x2 : Int32) (Q : Int32 → Prop) : Prop :=
  ((nI 2) ≤ (σ a0 8) → (wp_X1_landmarkInOrder σ a0 (nI 0) x1 x2 (fun r_2 => ((¬ (σ a0 8) = (nI 2) → (wp_X1_landmarkInOrder σ a0 (nI 1) x1 x2 (fun r_5 => (wp_X1_landmarkInOrder σ a0 (nI 2) x1 x2 (fun r_7 => ((r_5 ≤ r_7 → (Q (((nI 2) * r_2) + (nI 0)))) ∧ (¬ r_5 ≤ r_7 → (Q (((nI 2) * r_2) + (nI 1)))))))))) ∧ ((σ a0 8) = (nI 2) → (Q r_2)))))) ∧ (¬ (nI 2) ≤ (σ a0 8) → (Q (nI 0)))
def wp_X1_nearX_26 (σ : St) (a0 : Nat) (x1 : Int32) (x2 : Int32) (t0 : Int32) (Q : Int32 → Prop) : Prop :=
  ¬ t0 = 0 ∧ (wp_X1_orderOf σ a0 x1 x2 (fun r_2 => (Q (((nI 32) / t0) * r_2))))
def wp_X1_nearX (σ : St) (a0 : Nat) (x1 : Int32) (x2 : Int32) (Q : Int32 → Prop) : Prop :=
  (¬ (σ a0 8) = (nI 3) → ((¬ (σ a0 8) = (nI 2) → (wp_X1_nearX_26 σ a0 x1 x2 (nI 1) Q)) ∧ ((σ a0 8) = (nI 2) → (wp_X1_nearX_26 σ a0 x1 x2 (nI 2) Q)))) ∧ ((σ a0 8) = (nI 3) → (wp_X1_nearX_26 σ a0 x1 x2 (nI 6) Q))
def wp_X1_nearY (σ : St) (a0 : Nat) (x1 : Int32) (x2 : Int32) (Q : Int32 → Prop) : Prop :=
  Q ((x1 + x2) &&& (nI 31))
def wp_X1_nodesThatAre_4 (σ : St) (a0 : Nat) (x1 : Int32) (Q : Int32 → Prop) (ih4 : Int32 → Int32 → Prop) (x2 : Int32) (x3 : Int32) : Prop :=
  ((nI 10) ≤ x3 → (Q x2)) ∧ (¬ (nI 10) ≤ x3 → (vp_in x3 10 ∧ ((¬ (σ (a0 + 2) (Int32.toNatClampNeg x3)) = x1 → (∀ x3_4 : Int32, x3_4 = x3 + (nI 1) → (ih4 x2 x3_4))) ∧ ((σ (a0 + 2) (Int32.toNatClampNeg x3)) = x1 → (∀ x2_5 : Int32, x2_5 = x2 ||| ((nI 1) <<< (x3 &&& 31)) → (∀ x3_6 : Int32, x3_6 = x3 + (nI 1) → (ih4 x2_5 x3_6)))))))
def wp_X1_nodesThatAre (σ : St) (a0 : Nat) (x1 : Int32) (Q : Int32 → Prop) : Prop :=
  ∃ n9 : Nat, LP2 (wp_X1_nodesThatAre_4 σ a0 x1 Q) n9 (nI 0) (nI 0)
def wp_X1_refusalOfHanding (σ : St) (a0 : Nat) (x1 : Int32) (Q : Int32 → Prop) : Prop :=
  wp_X1_nodesThatAre σ a0 (nI 1) (fun r_1 => (wp_X1_nodesThatAre σ a0 (nI 2) (fun r_3 => (∀ x2_5 : Int32, x2_5 = (r_1 ||| r_3) &&& (((nI 1) <<< (x1 &&& 31)) ^^^ (-1)) → ((x2_5 = 0 → (Q (nI 0))) ∧ (¬ x2_5 = 0 → (wp_X1_nodesThatAre σ a0 (nI 1) (fun r_7 => ((¬ (x2_5 &&& r_7) = 0 → (Q (nI 0))) ∧ ((x2_5 &&& r_7) = 0 → (Q (nI 6))))))))))))
def wp_X1_pointOf (σ : St) (x0 : Int32) (x1 : Int32) (Q : Int32 → Prop) : Prop :=
  Q (((x0 + (nI 1)) * ((nI 397) + ((nI 214) * x1))) &&& (nI 1023))
def wp_X1_pointX (σ : St) (x0 : Int32) (x1 : Int32) (Q : Int32 → Prop) : Prop :=
  wp_X1_pointOf σ x0 x1 (fun r_1 => (Q (r_1 &&& (nI 31))))
def wp_X1_pointY (σ : St) (x0 : Int32) (x1 : Int32) (Q : Int32 → Prop) : Prop :=
  wp_X1_pointOf σ x0 x1 (fun r_1 => (Q (r_1 / (nI 32))))
def wp_X1_realitiesWithin_4 (σ : St) (a0 : Nat) (x1 : Int32) (Q : Int32 → Prop) (ih4 : Int32 → Int32 → Prop) (x2 : Int32) (x3 : Int32) : Prop :=
  ((σ a0 9) ≤ x3 → (Q x2)) ∧ (¬ (σ a0 9) ≤ x3 → (vp_in x3 3 ∧ (wp_X1_pointX σ x1 x3 (fun r_3 => (wp_X1_pointY σ x1 x3 (fun r_5 => (wp_X4_nodeAt σ (a0 + 1 + 8 + 4 * Int32.toNatClampNeg x3) r_3 r_5 (fun r_7 => ((r_7 = (-1) → (∀ x3_10 : Int32, x3_10 = x3 + (nI 1) → (ih4 x2 x3_10))) ∧ (¬ r_7 = (-1) → (vp_in r_7 10 ∧ ((¬ (σ (a0 + 2) (Int32.toNatClampNeg r_7)) = (nI 1) → (∀ x3_13 : Int32, x3_13 = x3 + (nI 1) → (ih4 x2 x3_13))) ∧ ((σ (a0 + 2) (Int32.toNatClampNeg r_7)) = (nI 1) → (∀ x2_14 : Int32, x2_14 = x2 ||| ((nI 1) <<< (x3 &&& 31)) → (∀ x3_15 : Int32, x3_15 = x3 + (nI 1) → (ih4 x2_14 x3_15))))))))))))))))
def wp_X1_realitiesWithin (σ : St) (a0 : Nat) (x1 : Int32) (Q : Int32 → Prop) : Prop :=
  ∃ n9 : Nat, LP2 (wp_X1_realitiesWithin_4 σ a0 x1 Q) n9 (nI 0) (nI 0)
def wp_X1_refusalOf (σ : St) (a0 : Nat) (Q : Int32 → Prop) : Prop :=
  ∀ q_2 : Int32, q_2 = σ 4 1 → ((q_2 = nI 1 → (((nI 3) ≤ (σ a0 8) → (Q (nI 10))) ∧ (¬ (nI 3) ≤ (σ a0 8) → (Q (nI 0))))) ∧ (¬ q_2 = nI 1 → ((q_2 = nI 2 → (wp_X1_refusalOfJoin σ a0 (σ 5 2) (σ 5 3) (fun r_6 => (Q r_6)))) ∧ (¬ q_2 = nI 2 → ((q_2 = nI 3 → (wp_X1_nearX σ a0 (σ 5 0) (σ 5 1) (fun r_9 => (wp_X1_nearY σ a0 (σ 5 0) (σ 5 1) (fun r_11 => (wp_X1_refusalOfJoin σ a0 r_9 r_11 (fun r_13 => (Q r_13)))))))) ∧ (¬ q_2 = nI 3 → ((q_2 = nI 4 → (vp_in (σ 5 0) 10 ∧ (((σ (a0 + 2) (Int32.toNatClampNeg (σ 5 0))) = (nI 1) → (wp_X1_refusalOfHanding σ a0 (σ 5 0) (fun r_18 => (Q r_18)))) ∧ (¬ (σ (a0 + 2) (Int32.toNatClampNeg (σ 5 0))) = (nI 1) → (Q (nI 4)))))) ∧ (¬ q_2 = nI 4 → ((q_2 = nI 5 → (vp_in (σ 5 0) 10 ∧ (((σ (a0 + 2) (Int32.toNatClampNeg (σ 5 0))) = (nI 1) → (Q (nI 0))) ∧ (¬ (σ (a0 + 2) (Int32.toNatClampNeg (σ 5 0))) = (nI 1) → (Q (nI 4)))))) ∧ (¬ q_2 = nI 5 → ((q_2 = nI 6 → (vp_in (σ 5 0) 10 ∧ (((σ (a0 + 2) (Int32.toNatClampNeg (σ 5 0))) = (nI 2) → (wp_X1_refusalOfHanding σ a0 (σ 5 0) (fun r_26 => (Q r_26)))) ∧ (¬ (σ (a0 + 2) (Int32.toNatClampNeg (σ 5 0))) = (nI 2) → (Q (nI 5)))))) ∧ (¬ q_2 = nI 6 → ((q_2 = nI 7 → (wp_X1_nodesThatAre σ a0 (nI 2) (fun r_29 => ((r_29 = 0 → (Q (nI 0))) ∧ (¬ r_29 = 0 → (Q (nI 7))))))) ∧ (¬ q_2 = nI 7 → ((q_2 = nI 8 → (wp_X1_realitiesWithin σ a0 (σ 5 0) (fun r_33 => ((¬ r_33 = 0 → (Q (nI 0))) ∧ (r_33 = 0 → (Q (nI 8))))))) ∧ (¬ q_2 = nI 8 → ((q_2 = nI 9 → (vp_in (σ 5 0) 100 ∧ ((¬ (σ (a0 + 7) (Int32.toNatClampNeg (σ 5 0))) = (-1) → (Q (nI 0))) ∧ ((σ (a0 + 7) (Int32.toNatClampNeg (σ 5 0))) = (-1) → (Q (nI 9)))))) ∧ (¬ q_2 = nI 9 → (Q (nI 0))))))))))))))))))))
def wp_J7_fill_53178_5 (a0 : Nat) (n0 : Nat) (x1 : Int32) (x3 : Int32) (Q : St → Prop) (ih5 : St → Int32 → Prop) (σ : St) (x2 : Int32) : Prop :=
  (x3 ≤ x2 → (Q σ)) ∧ (¬ x3 ≤ x2 → (vp_in x2 n0 ∧ (∀ σ_3 : St, σ_3 = su σ a0 (Int32.toNatClampNeg x2) x1 → (∀ x2_4 : Int32, x2_4 = x2 + (nI 1) → (ih5 σ_3 x2_4)))))
def wp_J7_fill_53178 (σ : St) (a0 : Nat) (n0 : Nat) (x1 : Int32) (Q : St → Prop) : Prop :=
  ∀ x3_5 : Int32, x3_5 = nI n0 → (∃ n9 : Nat, LP2 (wp_J7_fill_53178_5 a0 n0 x1 x3_5 Q) n9 σ (nI 0))
def wp_X4_clear (σ : St) (a0 : Nat) (Q : St → Prop) : Prop :=
  wp_J7_fill_53178 σ (a0 + 1) 2048 (nI 0) (fun σ_1 => (wp_J7_fill_53178 σ_1 (a0 + 2) 10 (nI 0) (fun σ_2 => (wp_J7_fill_53178 σ_2 (a0 + 3) 10 (nI 0) (fun σ_3 => (Q σ_3))))))
def wp_X1_startAnew_32 (σ : St) (a0 : Nat) (Q : Int32 → St → Prop) : Prop :=
  wp_J7_fill_53178 σ (a0 + 2) 10 (nI 0) (fun σ_1 => (wp_J7_fill_53178 σ_1 (a0 + 7) 100 (-1) (fun σ_2 => (wp_J7_fill_53178 σ_2 (a0 + 8) 100 (nI 0) (fun σ_3 => (Q (σ_3 a0 9) σ_3))))))
def wp_X1_startAnew_12 (a0 : Nat) (Q : Int32 → St → Prop) (ih12 : St → Int32 → Prop) (σ : St) (x2 : Int32) : Prop :=
  ((nI 3) ≤ x2 → (wp_X1_startAnew_32 σ a0 Q)) ∧ (¬ (nI 3) ≤ x2 → (vp_in x2 3 ∧ (wp_X4_clear σ (a0 + 1 + 8 + 4 * Int32.toNatClampNeg x2) (fun σ_6 => (∀ x2_7 : Int32, x2_7 = x2 + (nI 1) → (ih12 σ_6 x2_7))))))
def wp_X1_startAnew (σ : St) (a0 : Nat) (x1 : Int32) (Q : Int32 → St → Prop) : Prop :=
  ∀ σ_8 : St, σ_8 = su σ a0 9 x1 → (∀ σ_9 : St, σ_9 = su σ_8 a0 8 (nI 0) → (∃ n9 : Nat, LP2 (wp_X1_startAnew_12 a0 Q) n9 σ_9 (nI 0)))
def wp_X1_addLandmark (σ : St) (a0 : Nat) (x1 : Int32) (x2 : Int32) (Q : Int32 → St → Prop) : Prop :=
  ((nI 3) ≤ (σ a0 8) → (Q (σ a0 8) σ)) ∧ (¬ (nI 3) ≤ (σ a0 8) → (vp_in (σ a0 8) 3 ∧ (∀ σ_3 : St, σ_3 = su σ (a0 + 5) (Int32.toNatClampNeg (σ a0 8)) x1 → (vp_in (σ_3 a0 8) 3 ∧ (∀ σ_5 : St, σ_5 = su σ_3 (a0 + 6) (Int32.toNatClampNeg (σ_3 a0 8)) x2 → (∀ σ_6 : St, σ_6 = su σ_5 a0 8 ((σ_5 a0 8) + (nI 1)) → (Q (σ_6 a0 8) σ_6)))))))
def wp_X4_depthOf_2 (σ : St) (x0 : Int32) (Q : Int32 → Prop) (ih2 : Int32 → Prop) (x1 : Int32) : Prop :=
  ((nI 10) ≤ x1 → (Q (nI 10))) ∧ (¬ (nI 10) ≤ x1 → (((nI 1) < (x0 >>> (x1 &&& 31)) → (∀ x1_3 : Int32, x1_3 = x1 + (nI 1) → (ih2 x1_3))) ∧ (¬ (nI 1) < (x0 >>> (x1 &&& 31)) → (Q x1))))
def wp_X4_depthOf (σ : St) (x0 : Int32) (Q : Int32 → Prop) : Prop :=
  ∃ n9 : Nat, LP1 (wp_X4_depthOf_2 σ x0 Q) n9 (nI 0)
def wp_X4_give_81 (a0 : Nat) (x2 : Int32) (Q : St → Prop) (ih81 : St → Int32 → Int32 → Prop) (σ : St) (x5 : Int32) (x6 : Int32) : Prop :=
  ((nI 10) ≤ x6 → (Q σ)) ∧ (¬ (nI 10) ≤ x6 → ((x5 ≤ (nI 1) → (Q σ)) ∧ (¬ x5 ≤ (nI 1) → (vp_in (x5 ^^^ (nI 1)) 2048 ∧ ((¬ (σ (a0 + 1) (Int32.toNatClampNeg (x5 ^^^ (nI 1)))) = (x2 + (nI 1)) → (Q σ)) ∧ ((σ (a0 + 1) (Int32.toNatClampNeg (x5 ^^^ (nI 1)))) = (x2 + (nI 1)) → (vp_in x5 2048 ∧ (∀ σ_6 : St, σ_6 = su σ (a0 + 1) (Int32.toNatClampNeg x5) (nI 0) → (vp_in (x5 ^^^ (nI 1)) 2048 ∧ (∀ σ_8 : St, σ_8 = su σ_6 (a0 + 1) (Int32.toNatClampNeg (x5 ^^^ (nI 1))) (nI 0) → (∀ x5_9 : Int32, x5_9 = x5 >>> ((nI 1) &&& 31) → (vp_in x5_9 2048 ∧ (∀ σ_11 : St, σ_11 = su σ_8 (a0 + 1) (Int32.toNatClampNeg x5_9) (x2 + (nI 1)) → (vp_in x2 10 ∧ (vp_in x2 10 ∧ (∀ σ_14 : St, σ_14 = su σ_11 (a0 + 3) (Int32.toNatClampNeg x2) ((σ_11 (a0 + 3) (Int32.toNatClampNeg x2)) - (nI 1)) → (∀ x6_15 : Int32, x6_15 = x6 + (nI 1) → (ih81 σ_14 x5_9 x6_15))))))))))))))))))
def wp_X4_give_46 (σ : St) (a0 : Nat) (x1 : Int32) (x2 : Int32) (x3 : Int32) (Q : St → Prop) : Prop :=
  vp_in x2 10 ∧ (vp_in x2 10 ∧ (∀ σ_18 : St, σ_18 = su σ (a0 + 2) (Int32.toNatClampNeg x2) ((σ (a0 + 2) (Int32.toNatClampNeg x2)) + x3) → (vp_in x2 10 ∧ (vp_in x2 10 ∧ (∀ σ_21 : St, σ_21 = su σ_18 (a0 + 3) (Int32.toNatClampNeg x2) ((σ_18 (a0 + 3) (Int32.toNatClampNeg x2)) + (nI 1)) → (vp_in x1 2048 ∧ (∀ σ_23 : St, σ_23 = su σ_21 (a0 + 1) (Int32.toNatClampNeg x1) (x2 + (nI 1)) → (∃ n9 : Nat, LP3 (wp_X4_give_81 a0 x2 Q) n9 σ_23 x1 (nI 0)))))))))
def wp_X4_give (σ : St) (a0 : Nat) (x1 : Int32) (x2 : Int32) (Q : St → Prop) : Prop :=
  wp_X4_depthOf σ x1 (fun r_24 => (∀ x3_26 : Int32, x3_26 = (nI 1024) >>> (r_24 &&& 31) → (vp_in x1 2048 ∧ (∀ x4_28 : Int32, x4_28 = (σ (a0 + 1) (Int32.toNatClampNeg x1)) - (nI 1) → ((x4_28 < 0 → (wp_X4_give_46 σ a0 x1 x2 x3_26 Q)) ∧ (¬ x4_28 < 0 → (vp_in x4_28 10 ∧ (vp_in x4_28 10 ∧ (∀ σ_32 : St, σ_32 = su σ (a0 + 2) (Int32.toNatClampNeg x4_28) ((σ (a0 + 2) (Int32.toNatClampNeg x4_28)) - x3_26) → (vp_in x4_28 10 ∧ (vp_in x4_28 10 ∧ (∀ σ_35 : St, σ_35 = su σ_32 (a0 + 3) (Int32.toNatClampNeg x4_28) ((σ_32 (a0 + 3) (Int32.toNatClampNeg x4_28)) - (nI 1)) → (wp_X4_give_46 σ_35 a0 x1 x2 x3_26 Q)))))))))))))
def wp_X4_split (σ : St) (a0 : Nat) (x1 : Int32) (x2 : Int32) (x3 : Int32) (Q : St → Prop) : Prop :=
  wp_X4_zoneAt σ a0 x1 x2 (fun r_1 => ((¬ r_1 = 0 → (((nI 1024) ≤ r_1 → (Q σ)) ∧ (¬ (nI 1024) ≤ r_1 → (vp_in r_1 2048 ∧ (vp_in ((σ (a0 + 1) (Int32.toNatClampNeg r_1)) - (nI 1)) 10 ∧ (vp_in ((σ (a0 + 1) (Int32.toNatClampNeg r_1)) - (nI 1)) 10 ∧ (∀ σ_8 : St, σ_8 = su σ (a0 + 3) (Int32.toNatClampNeg ((σ (a0 + 1) (Int32.toNatClampNeg r_1)) - (nI 1))) ((σ (a0 + 3) (Int32.toNatClampNeg ((σ (a0 + 1) (Int32.toNatClampNeg r_1)) - (nI 1)))) + (nI 1)) → (vp_in r_1 2048 ∧ (vp_in ((nI 2) * r_1) 2048 ∧ (∀ σ_11 : St, σ_11 = su σ_8 (a0 + 1) (Int32.toNatClampNeg ((nI 2) * r_1)) (σ_8 (a0 + 1) (Int32.toNatClampNeg r_1)) → (vp_in r_1 2048 ∧ (vp_in (((nI 2) * r_1) + (nI 1)) 2048 ∧ (∀ σ_14 : St, σ_14 = su σ_11 (a0 + 1) (Int32.toNatClampNeg (((nI 2) * r_1) + (nI 1))) (σ_11 (a0 + 1) (Int32.toNatClampNeg r_1)) → (vp_in r_1 2048 ∧ (∀ σ_16 : St, σ_16 = su σ_14 (a0 + 1) (Int32.toNatClampNeg r_1) (nI 0) → (wp_X4_zoneAt σ_16 a0 x1 x2 (fun r_17 => (wp_X4_give σ_16 a0 r_17 x3 (fun σ_19 => (Q σ_19)))))))))))))))))))) ∧ (r_1 = 0 → (wp_X4_give σ a0 (nI 1) x3 (fun σ_20 => (Q σ_20))))))
def wp_X1_letIn_41 (a0 : Nat) (x3 : Int32) (x4 : Int32) (x5 : Int32) (Q : Int32 → St → Prop) (ih41 : St → Int32 → Prop) (σ : St) (x6 : Int32) : Prop :=
  ((σ a0 9) ≤ x6 → (Q x5 σ)) ∧ (¬ (σ a0 9) ≤ x6 → (vp_in x6 3 ∧ (wp_X4_split σ (a0 + 1 + 8 + 4 * Int32.toNatClampNeg x6) (x3 + ((nI 11) * x6)) (x4 + ((nI 7) * x6)) x5 (fun σ_3 => (∀ x6_4 : Int32, x6_4 = x6 + (nI 1) → (ih41 σ_3 x6_4))))))
def wp_X1_letIn (σ : St) (a0 : Nat) (x1 : Int32) (x2 : Int32) (x3 : Int32) (x4 : Int32) (Q : Int32 → St → Prop) : Prop :=
  wp_X1_leastNodeAway σ a0 (fun r_5 => ((¬ r_5 = (-1) → (vp_in r_5 10 ∧ (∀ σ_9 : St, σ_9 = su σ (a0 + 2) (Int32.toNatClampNeg r_5) (nI 1) → (vp_in r_5 10 ∧ (∀ σ_11 : St, σ_11 = su σ_9 (a0 + 3) (Int32.toNatClampNeg r_5) x1 → (vp_in r_5 10 ∧ (∀ σ_13 : St, σ_13 = su σ_11 (a0 + 4) (Int32.toNatClampNeg r_5) x2 → (∃ n9 : Nat, LP2 (wp_X1_letIn_41 a0 x3 x4 r_5 Q) n9 σ_13 (nI 0))))))))) ∧ (r_5 = (-1) → (Q (-1) σ))))
def wp_X4_wide (σ : St) (x0 : Int32) (Q : Int32 → Prop) : Prop :=
  Q ((nI 32) >>> (((x0 + (nI 1)) / (nI 2)) &&& 31))
def wp_X4_high (σ : St) (x0 : Int32) (Q : Int32 → Prop) : Prop :=
  Q ((nI 32) >>> ((x0 / (nI 2)) &&& 31))
def wp_X4_everyOtherBit (σ : St) (x0 : Int32) (Q : Int32 → Prop) : Prop :=
  ∀ x1_1 : Int32, x1_1 = x0 &&& (nI 341) → (∀ x1_2 : Int32, x1_2 = (x1_1 ||| (x1_1 >>> ((nI 1) &&& 31))) &&& (nI 307) → (∀ x1_3 : Int32, x1_3 = (x1_2 ||| (x1_2 >>> ((nI 2) &&& 31))) &&& (nI 271) → (Q ((x1_3 ||| (x1_3 >>> ((nI 4) &&& 31))) &&& (nI 31)))))
def wp_X4_leastX (σ : St) (x0 : Int32) (x1 : Int32) (Q : Int32 → Prop) : Prop :=
  wp_X4_everyOtherBit σ ((x0 <<< (((nI 10) - x1) &&& 31)) >>> ((nI 1) &&& 31)) (fun r_1 => (Q r_1))
def wp_X4_leastY (σ : St) (x0 : Int32) (x1 : Int32) (Q : Int32 → Prop) : Prop :=
  wp_X4_everyOtherBit σ (x0 <<< (((nI 10) - x1) &&& 31)) (fun r_1 => (Q r_1))
def wp_X4_besideOf_102 (σ : St) (a0 : Nat) (x3 : Int32) (x4 : Int32) (x5 : Int32) (x6 : Int32) (Q : Int32 → Prop) (ih102 : Int32 → Int32 → Prop) (x7 : Int32) (x8 : Int32) : Prop :=
  (x4 ≤ x8 → (Q (x7 >>> ((nI 1) &&& 31)))) ∧ (¬ x4 ≤ x8 → (wp_X4_zoneAt σ a0 (x5 - (nI 1)) (x6 + x8) (fun r_2 => (vp_in r_2 2048 ∧ (∀ x7_5 : Int32, x7_5 = x7 ||| ((nI 1) <<< ((σ (a0 + 1) (Int32.toNatClampNeg r_2)) &&& 31)) → (wp_X4_zoneAt σ a0 (x5 + x3) (x6 + x8) (fun r_6 => (vp_in r_6 2048 ∧ (∀ x7_9 : Int32, x7_9 = x7_5 ||| ((nI 1) <<< ((σ (a0 + 1) (Int32.toNatClampNeg r_6)) &&& 31)) → (∀ x8_10 : Int32, x8_10 = x8 + (nI 1) → (ih102 x7_9 x8_10)))))))))))
def wp_X4_besideOf_36 (σ : St) (a0 : Nat) (x3 : Int32) (x4 : Int32) (x5 : Int32) (x6 : Int32) (Q : Int32 → Prop) (ih36 : Int32 → Int32 → Prop) (x7 : Int32) (x8 : Int32) : Prop :=
  (x3 ≤ x8 → (∃ n9 : Nat, LP2 (wp_X4_besideOf_102 σ a0 x3 x4 x5 x6 Q) n9 x7 (nI 0))) ∧ (¬ x3 ≤ x8 → (wp_X4_zoneAt σ a0 (x5 + x8) (x6 - (nI 1)) (fun r_12 => (vp_in r_12 2048 ∧ (∀ x7_15 : Int32, x7_15 = x7 ||| ((nI 1) <<< ((σ (a0 + 1) (Int32.toNatClampNeg r_12)) &&& 31)) → (wp_X4_zoneAt σ a0 (x5 + x8) (x6 + x4) (fun r_16 => (vp_in r_16 2048 ∧ (∀ x7_19 : Int32, x7_19 = x7_15 ||| ((nI 1) <<< ((σ (a0 + 1) (Int32.toNatClampNeg r_16)) &&& 31)) → (∀ x8_20 : Int32, x8_20 = x8 + (nI 1) → (ih36 x7_19 x8_20)))))))))))
def wp_X4_besideOf (σ : St) (a0 : Nat) (x1 : Int32) (Q : Int32 → Prop) : Prop :=
  wp_X4_depthOf σ x1 (fun r_21 => (wp_X4_wide σ r_21 (fun r_23 => (wp_X4_high σ r_21 (fun r_25 => (wp_X4_leastX σ x1 r_21 (fun r_27 => (wp_X4_leastY σ x1 r_21 (fun r_29 => (∃ n9 : Nat, LP2 (wp_X4_besideOf_36 σ a0 r_23 r_25 r_27 r_29 Q) n9 (nI 0) (nI 0)))))))))))
def wp_X4_leastOf_4 (σ : St) (a0 : Nat) (x1 : Int32) (Q : Int32 → Prop) (ih4 : Int32 → Int32 → Prop) (x2 : Int32) (x3 : Int32) : Prop :=
  ((nI 10) ≤ x3 → (Q x2)) ∧ (¬ (nI 10) ≤ x3 → ((((x1 >>> (x3 &&& 31)) &&& (nI 1)) = 0 → (∀ x3_3 : Int32, x3_3 = x3 + (nI 1) → (ih4 x2 x3_3))) ∧ (¬ ((x1 >>> (x3 &&& 31)) &&& (nI 1)) = 0 → ((x2 = (-1) → (∀ x3_5 : Int32, x3_5 = x3 + (nI 1) → (ih4 x3 x3_5))) ∧ (¬ x2 = (-1) → (vp_in x3 10 ∧ (vp_in x2 10 ∧ (((σ (a0 + 2) (Int32.toNatClampNeg x2)) ≤ (σ (a0 + 2) (Int32.toNatClampNeg x3)) → (∀ x3_9 : Int32, x3_9 = x3 + (nI 1) → (ih4 x2 x3_9))) ∧ (¬ (σ (a0 + 2) (Int32.toNatClampNeg x2)) ≤ (σ (a0 + 2) (Int32.toNatClampNeg x3)) → (∀ x3_10 : Int32, x3_10 = x3 + (nI 1) → (ih4 x3 x3_10)))))))))))
def wp_X4_leastOf (σ : St) (a0 : Nat) (x1 : Int32) (Q : Int32 → Prop) : Prop :=
  ∃ n9 : Nat, LP2 (wp_X4_leastOf_4 σ a0 x1 Q) n9 (-1) (nI 0)
def wp_X4_heirOf_46 (σ : St) (b0 : Nat) (t1 : Int32) (Q : Int32 → Prop) : Prop :=
  wp_X4_leastOf σ b0 t1 (fun r_1 => (Q r_1))
def wp_X4_heirOf_25 (σ : St) (a0 : Nat) (x1 : Int32) (x2 : Int32) (Q : Int32 → Prop) : Prop :=
  wp_X4_besideOf σ a0 x1 (fun r_3 => (∀ x4_5 : Int32, x4_5 = r_3 &&& x2 → ((x4_5 = 0 → (wp_X4_heirOf_46 σ a0 x2 Q)) ∧ (¬ x4_5 = 0 → (wp_X4_heirOf_46 σ a0 x4_5 Q)))))
def wp_X4_heirOf (σ : St) (a0 : Nat) (x1 : Int32) (x2 : Int32) (Q : Int32 → Prop) : Prop :=
  vp_in (x1 ^^^ (nI 1)) 2048 ∧ (∀ x3_8 : Int32, x3_8 = (σ (a0 + 1) (Int32.toNatClampNeg (x1 ^^^ (nI 1)))) - (nI 1) → ((x3_8 < 0 → (wp_X4_heirOf_25 σ a0 x1 x2 Q)) ∧ (¬ x3_8 < 0 → ((((x2 >>> (x3_8 &&& 31)) &&& (nI 1)) = 0 → (wp_X4_heirOf_25 σ a0 x1 x2 Q)) ∧ (¬ ((x2 >>> (x3_8 &&& 31)) &&& (nI 1)) = 0 → (Q x3_8))))))
def wp_X4_handAll_10 (a0 : Nat) (x1 : Int32) (x2 : Int32) (Q : St → Prop) (ih10 : St → Int32 → Int32 → Prop) (σ : St) (x3 : Int32) (x4 : Int32) : Prop :=
  ((nI 2048) ≤ x4 → (Q σ)) ∧ (¬ (nI 2048) ≤ x4 → ((x3 ≤ 0 → (Q σ)) ∧ (¬ x3 ≤ 0 → (vp_in x4 2048 ∧ ((¬ (σ (a0 + 1) (Int32.toNatClampNeg x4)) = (x1 + (nI 1)) → (∀ x4_5 : Int32, x4_5 = x4 + (nI 1) → (ih10 σ x3 x4_5))) ∧ ((σ (a0 + 1) (Int32.toNatClampNeg x4)) = (x1 + (nI 1)) → (∀ x3_6 : Int32, x3_6 = x3 + (-1) → (wp_X4_heirOf σ a0 x4 x2 (fun r_7 => ((r_7 = (-1) → (∀ x4_10 : Int32, x4_10 = x4 + (nI 1) → (ih10 σ x3_6 x4_10))) ∧ (¬ r_7 = (-1) → (wp_X4_give σ a0 x4 r_7 (fun σ_11 => (∀ x4_12 : Int32, x4_12 = x4 + (nI 1) → (ih10 σ_11 x3_6 x4_12)))))))))))))))
def wp_X4_handAll (σ : St) (a0 : Nat) (x1 : Int32) (x2 : Int32) (Q : St → Prop) : Prop :=
  vp_in x1 10 ∧ (∀ x3_14 : Int32, x3_14 = σ (a0 + 3) (Int32.toNatClampNeg x1) → (∃ n9 : Nat, LP3 (wp_X4_handAll_10 a0 x1 x2 Q) n9 σ x3_14 (nI 1)))
def wp_J6_bitCount_0f7a4 (σ : St) (x0 : Int32) (Q : Int32 → Prop) : Prop :=
  ∀ x0_1 : Int32, x0_1 = x0 - (((Int32.toUInt32 x0 >>> (Int32.toUInt32 (nI 1) &&& Int32.toUInt32 31)).toInt32) &&& (nI 1431655765)) → (∀ x0_2 : Int32, x0_2 = (x0_1 &&& (nI 858993459)) + (((Int32.toUInt32 x0_1 >>> (Int32.toUInt32 (nI 2) &&& Int32.toUInt32 31)).toInt32) &&& (nI 858993459)) → (∀ x0_3 : Int32, x0_3 = (x0_2 + ((Int32.toUInt32 x0_2 >>> (Int32.toUInt32 (nI 4) &&& Int32.toUInt32 31)).toInt32)) &&& (nI 252645135) → (∀ x0_4 : Int32, x0_4 = x0_3 + ((Int32.toUInt32 x0_3 >>> (Int32.toUInt32 (nI 8) &&& Int32.toUInt32 31)).toInt32) → (∀ x0_5 : Int32, x0_5 = x0_4 + ((Int32.toUInt32 x0_4 >>> (Int32.toUInt32 (nI 16) &&& Int32.toUInt32 31)).toInt32) → (Q (x0_5 &&& (nI 63)))))))
def wp_X1_letGo_68 (σ : St) (x2 : Int32) (Q : Int32 → St → Prop) : Prop :=
  wp_J6_bitCount_0f7a4 σ x2 (fun r_1 => (Q r_1 σ))
def wp_X1_letGo_56 (σ : St) (a0 : Nat) (x2 : Int32) (Q : Int32 → St → Prop) : Prop :=
  (¬ x2 = 0 → (wp_X1_letGo_68 σ x2 Q)) ∧ (x2 = 0 → (wp_J7_fill_53178 σ (a0 + 8) 100 (nI 0) (fun σ_4 => (wp_X1_letGo_68 σ_4 x2 Q))))
def wp_X1_letGo_15 (a0 : Nat) (x1 : Int32) (x2 : Int32) (Q : Int32 → St → Prop) (ih15 : St → Int32 → Prop) (σ : St) (x3 : Int32) : Prop :=
  ((σ a0 9) ≤ x3 → (wp_X1_letGo_56 σ a0 x2 Q)) ∧ (¬ (σ a0 9) ≤ x3 → ((¬ x2 = 0 → (vp_in x3 3 ∧ (wp_X4_handAll σ (a0 + 1 + 8 + 4 * Int32.toNatClampNeg x3) x1 x2 (fun σ_8 => (∀ x3_9 : Int32, x3_9 = x3 + (nI 1) → (ih15 σ_8 x3_9)))))) ∧ (x2 = 0 → (vp_in x3 3 ∧ (wp_X4_clear σ (a0 + 1 + 8 + 4 * Int32.toNatClampNeg x3) (fun σ_11 => (∀ x3_12 : Int32, x3_12 = x3 + (nI 1) → (ih15 σ_11 x3_12))))))))
def wp_X1_letGo (σ : St) (a0 : Nat) (x1 : Int32) (Q : Int32 → St → Prop) : Prop :=
  vp_in x1 10 ∧ (∀ σ_14 : St, σ_14 = su σ (a0 + 2) (Int32.toNatClampNeg x1) (nI 0) → (wp_X1_nodesThatAre σ_14 a0 (nI 1) (fun r_15 => (∃ n9 : Nat, LP2 (wp_X1_letGo_15 a0 x1 r_15 Q) n9 σ_14 (nI 0)))))
def wp_X1_isHeld (σ : St) (a0 : Nat) (x1 : Int32) (x2 : Int32) (Q : Int32 → Prop) : Prop :=
  vp_in x1 100 ∧ (((((σ (a0 + 8) (Int32.toNatClampNeg x1)) >>> (x2 &&& 31)) &&& (nI 1)) = 0 → (Q (nI 0))) ∧ (¬ (((σ (a0 + 8) (Int32.toNatClampNeg x1)) >>> (x2 &&& 31)) &&& (nI 1)) = 0 → (Q (nI 1))))
def wp_X1_isHeldBy (σ : St) (a0 : Nat) (x1 : Int32) (x2 : Int32) (x3 : Int32) (Q : Int32 → Prop) : Prop :=
  wp_X1_isHeld σ a0 x1 x2 (fun r_1 => ((r_1 = 0 → (Q (nI 0))) ∧ (¬ r_1 = 0 → (vp_in x2 3 ∧ (wp_X1_pointX σ x1 x2 (fun r_5 => (wp_X1_pointY σ x1 x2 (fun r_7 => (wp_X4_nodeAt σ (a0 + 1 + 8 + 4 * Int32.toNatClampNeg x2) r_5 r_7 (fun r_9 => ((¬ r_9 = x3 → (Q (nI 0))) ∧ (r_9 = x3 → (Q (nI 1))))))))))))))
def wp_X1_letDie_61 (σ : St) (a0 : Nat) (Q : Int32 → St → Prop) : Prop :=
  wp_X1_nodesThatAre σ a0 (nI 1) (fun r_1 => (wp_J6_bitCount_0f7a4 σ r_1 (fun r_3 => (Q r_3 σ))))
def wp_X1_letDie_17 (a0 : Nat) (x1 : Int32) (x2 : Int32) (ih9 : St → Int32 → Prop) (Q : Int32 → St → Prop) (ih17 : St → Int32 → Prop) (σ : St) (x3 : Int32) : Prop :=
  ((σ a0 9) ≤ x3 → (∀ x2_6 : Int32, x2_6 = x2 + (nI 1) → (ih9 σ x2_6))) ∧ (¬ (σ a0 9) ≤ x3 → (wp_X1_isHeldBy σ a0 x2 x3 x1 (fun r_7 => ((r_7 = 0 → (∀ x3_10 : Int32, x3_10 = x3 + (nI 1) → (ih17 σ x3_10))) ∧ (¬ r_7 = 0 → (vp_in x2 100 ∧ (vp_in x2 100 ∧ (∀ σ_13 : St, σ_13 = su σ (a0 + 8) (Int32.toNatClampNeg x2) ((σ (a0 + 8) (Int32.toNatClampNeg x2)) &&& (((nI 1) <<< (x3 &&& 31)) ^^^ (-1))) → (∀ x3_14 : Int32, x3_14 = x3 + (nI 1) → (ih17 σ_13 x3_14))))))))))
def wp_X1_letDie_9 (a0 : Nat) (x1 : Int32) (Q : Int32 → St → Prop) (ih9 : St → Int32 → Prop) (σ : St) (x2 : Int32) : Prop :=
  ((nI 100) ≤ x2 → (wp_X1_letDie_61 σ a0 Q)) ∧ (¬ (nI 100) ≤ x2 → (∃ n9 : Nat, LP2 (wp_X1_letDie_17 a0 x1 x2 ih9 Q) n9 σ (nI 0)))
def wp_X1_letDie (σ : St) (a0 : Nat) (x1 : Int32) (Q : Int32 → St → Prop) : Prop :=
  vp_in x1 10 ∧ (∀ σ_17 : St, σ_17 = su σ (a0 + 2) (Int32.toNatClampNeg x1) (nI 2) → (∃ n9 : Nat, LP2 (wp_X1_letDie_9 a0 x1 Q) n9 σ_17 (nI 0)))
def wp_X4_zonesOfAll_4 (σ : St) (a0 : Nat) (Q : Int32 → Prop) (ih4 : Int32 → Int32 → Prop) (x1 : Int32) (x2 : Int32) : Prop :=
  ((nI 10) ≤ x2 → (Q x1)) ∧ (¬ (nI 10) ≤ x2 → (vp_in x2 10 ∧ (∀ x1_3 : Int32, x1_3 = x1 + (σ (a0 + 3) (Int32.toNatClampNeg x2)) → (∀ x2_4 : Int32, x2_4 = x2 + (nI 1) → (ih4 x1_3 x2_4)))))
def wp_X4_zonesOfAll (σ : St) (a0 : Nat) (Q : Int32 → Prop) : Prop :=
  ∃ n9 : Nat, LP2 (wp_X4_zonesOfAll_4 σ a0 Q) n9 (nI 0) (nI 0)
def wp_X4_leastScattered_2 (σ : St) (a0 : Nat) (Q : Int32 → Prop) (ih2 : Int32 → Prop) (x1 : Int32) : Prop :=
  ((nI 10) ≤ x1 → (Q (-1))) ∧ (¬ (nI 10) ≤ x1 → (vp_in x1 10 ∧ (((σ (a0 + 3) (Int32.toNatClampNeg x1)) ≤ (nI 1) → (∀ x1_4 : Int32, x1_4 = x1 + (nI 1) → (ih2 x1_4))) ∧ (¬ (σ (a0 + 3) (Int32.toNatClampNeg x1)) ≤ (nI 1) → (Q x1)))))
def wp_X4_leastScattered (σ : St) (a0 : Nat) (Q : Int32 → Prop) : Prop :=
  ∃ n9 : Nat, LP1 (wp_X4_leastScattered_2 σ a0 Q) n9 (nI 0)
def wp_X4_zoneOf_21 (σ : St) (a0 : Nat) (x1 : Int32) (x2 : Int32) (Q : Int32 → Prop) (ih21 : Int32 → Int32 → Prop) (x3 : Int32) (x4 : Int32) : Prop :=
  ((nI 2048) ≤ x4 → (Q (-1))) ∧ (¬ (nI 2048) ≤ x4 → (vp_in x4 2048 ∧ ((¬ (σ (a0 + 1) (Int32.toNatClampNeg x4)) = (x1 + (nI 1)) → (∀ x4_4 : Int32, x4_4 = x4 + (nI 1) → (ih21 x3 x4_4))) ∧ ((σ (a0 + 1) (Int32.toNatClampNeg x4)) = (x1 + (nI 1)) → ((¬ x3 = x2 → (∀ x3_6 : Int32, x3_6 = x3 + (nI 1) → (∀ x4_7 : Int32, x4_7 = x4 + (nI 1) → (ih21 x3_6 x4_7)))) ∧ (x3 = x2 → (Q x4)))))))
def wp_X4_zoneOf (σ : St) (a0 : Nat) (x1 : Int32) (x2 : Int32) (Q : Int32 → Prop) : Prop :=
  (x2 < 0 → (Q (-1))) ∧ (¬ x2 < 0 → (vp_in x1 10 ∧ ((x2 < (σ (a0 + 3) (Int32.toNatClampNeg x1)) → (∃ n9 : Nat, LP2 (wp_X4_zoneOf_21 σ a0 x1 x2 Q) n9 (nI 0) (nI 1))) ∧ (¬ x2 < (σ (a0 + 3) (Int32.toNatClampNeg x1)) → (Q (-1))))))
def wp_X4_deepestPair_23 (σ : St) (a0 : Nat) (x1 : Int32) (x3 : Int32) (x4 : Int32) (ih10 : Int32 → Prop) (Q : Int32 → Prop) (ih23 : Int32 → Prop) (x5 : Int32) : Prop :=
  ((x4 + ((nI 1) <<< (x3 &&& 31))) ≤ x5 → (∀ x3_2 : Int32, x3_2 = x3 + (-1) → (ih10 x3_2))) ∧ (¬ (x4 + ((nI 1) <<< (x3 &&& 31))) ≤ x5 → (vp_in ((nI 2) * x5) 2048 ∧ (((σ (a0 + 1) (Int32.toNatClampNeg ((nI 2) * x5))) = 0 → (∀ x5_5 : Int32, x5_5 = x5 + (nI 1) → (ih23 x5_5))) ∧ (¬ (σ (a0 + 1) (Int32.toNatClampNeg ((nI 2) * x5))) = 0 → (vp_in (((nI 2) * x5) + (nI 1)) 2048 ∧ (((σ (a0 + 1) (Int32.toNatClampNeg (((nI 2) * x5) + (nI 1)))) = 0 → (∀ x5_8 : Int32, x5_8 = x5 + (nI 1) → (ih23 x5_8))) ∧ (¬ (σ (a0 + 1) (Int32.toNatClampNeg (((nI 2) * x5) + (nI 1)))) = 0 → (Q x5))))))))
def wp_X4_deepestPair_10 (σ : St) (a0 : Nat) (x1 : Int32) (Q : Int32 → Prop) (ih10 : Int32 → Prop) (x3 : Int32) : Prop :=
  (x3 < 0 → (Q (-1))) ∧ (¬ x3 < 0 → (∀ x4_10 : Int32, x4_10 = x1 <<< (x3 &&& 31) → (∃ n9 : Nat, LP1 (wp_X4_deepestPair_23 σ a0 x1 x3 x4_10 ih10 Q) n9 x4_10)))
def wp_X4_deepestPair (σ : St) (a0 : Nat) (x1 : Int32) (Q : Int32 → Prop) : Prop :=
  wp_X4_depthOf σ x1 (fun r_11 => (∀ x3_13 : Int32, x3_13 = (nI 9) - r_11 → (∃ n9 : Nat, LP1 (wp_X4_deepestPair_10 σ a0 x1 Q) n9 x3_13)))
def wp_X4_moveStray (σ : St) (a0 : Nat) (x1 : Int32) (Q : St → Prop) : Prop :=
  ((nI 2) ≤ x1 → (∀ x2_2 : Int32, x2_2 = x1 ^^^ (nI 1) → (vp_in x2_2 2048 ∧ (((σ (a0 + 1) (Int32.toNatClampNeg x2_2)) = 0 → (wp_X4_deepestPair σ a0 x2_2 (fun r_5 => ((¬ r_5 = (-1) → (vp_in ((nI 2) * r_5) 2048 ∧ (∀ x4_9 : Int32, x4_9 = (σ (a0 + 1) (Int32.toNatClampNeg ((nI 2) * r_5))) - (nI 1) → (vp_in (((nI 2) * r_5) + (nI 1)) 2048 ∧ (∀ x5_11 : Int32, x5_11 = (σ (a0 + 1) (Int32.toNatClampNeg (((nI 2) * r_5) + (nI 1)))) - (nI 1) → (wp_X4_give σ a0 (((nI 2) * r_5) + (nI 1)) x4_9 (fun σ_12 => (wp_X4_give σ_12 a0 x1 x5_11 (fun σ_13 => (Q σ_13)))))))))) ∧ (r_5 = (-1) → (Q σ)))))) ∧ (¬ (σ (a0 + 1) (Int32.toNatClampNeg x2_2)) = 0 → (vp_in x2_2 2048 ∧ (wp_X4_give σ a0 x1 ((σ (a0 + 1) (Int32.toNatClampNeg x2_2)) - (nI 1)) (fun σ_15 => (Q σ_15))))))))) ∧ (¬ (nI 2) ≤ x1 → (Q σ))
def wp_X4_tidyUp_2 (a0 : Nat) (Q : St → Prop) (ih2 : St → Int32 → Prop) (σ : St) (x1 : Int32) : Prop :=
  ((nI 1024) ≤ x1 → (Q σ)) ∧ (¬ (nI 1024) ≤ x1 → (wp_X4_leastScattered σ a0 (fun r_2 => ((¬ r_2 = (-1) → (vp_in r_2 10 ∧ (wp_X4_zoneOf σ a0 r_2 ((σ (a0 + 3) (Int32.toNatClampNeg r_2)) - (nI 1)) (fun r_6 => (wp_X4_moveStray σ a0 r_6 (fun σ_8 => (∀ x1_9 : Int32, x1_9 = x1 + (nI 1) → (ih2 σ_8 x1_9)))))))) ∧ (r_2 = (-1) → (Q σ))))))
def wp_X4_tidyUp (σ : St) (a0 : Nat) (Q : St → Prop) : Prop :=
  ∃ n9 : Nat, LP2 (wp_X4_tidyUp_2 a0 Q) n9 σ (nI 0)
def wp_X1_tidyAll_4 (a0 : Nat) (Q : Int32 → St → Prop) (ih4 : St → Int32 → Int32 → Prop) (σ : St) (x1 : Int32) (x2 : Int32) : Prop :=
  ((σ a0 9) ≤ x2 → (Q x1 σ)) ∧ (¬ (σ a0 9) ≤ x2 → (vp_in x2 3 ∧ (wp_X4_zonesOfAll σ (a0 + 1 + 8 + 4 * Int32.toNatClampNeg x2) (fun r_3 => (∀ x1_5 : Int32, x1_5 = x1 + r_3 → (vp_in x2 3 ∧ (wp_X4_tidyUp σ (a0 + 1 + 8 + 4 * Int32.toNatClampNeg x2) (fun σ_7 => (vp_in x2 3 ∧ (wp_X4_zonesOfAll σ_7 (a0 + 1 + 8 + 4 * Int32.toNatClampNeg x2) (fun r_9 => (∀ x1_11 : Int32, x1_11 = x1_5 - r_9 → (∀ x2_12 : Int32, x2_12 = x2 + (nI 1) → (ih4 σ_7 x1_11 x2_12))))))))))))))
def wp_X1_tidyAll (σ : St) (a0 : Nat) (Q : Int32 → St → Prop) : Prop :=
  ∃ n9 : Nat, LP3 (wp_X1_tidyAll_4 a0 Q) n9 σ (nI 0) (nI 0)
def wp_X1_cutOut (σ : St) (a0 : Nat) (x1 : Int32) (Q : Int32 → St → Prop) : Prop :=
  vp_in x1 100 ∧ (∀ x2_2 : Int32, x2_2 = σ (a0 + 7) (Int32.toNatClampNeg x1) → (vp_in x1 100 ∧ (∀ σ_4 : St, σ_4 = su σ (a0 + 7) (Int32.toNatClampNeg x1) (-1) → (vp_in x1 100 ∧ (∀ σ_6 : St, σ_6 = su σ_4 (a0 + 8) (Int32.toNatClampNeg x1) (nI 0) → (Q x2_2 σ_6))))))
def wp_X1_mendAll_4 (a0 : Nat) (Q : Int32 → St → Prop) (ih4 : St → Int32 → Int32 → Prop) (σ : St) (x1 : Int32) (x2 : Int32) : Prop :=
  ((nI 100) ≤ x2 → (Q x1 σ)) ∧ (¬ (nI 100) ≤ x2 → (vp_in x2 100 ∧ (((σ (a0 + 8) (Int32.toNatClampNeg x2)) = 0 → (∀ x2_4 : Int32, x2_4 = x2 + (nI 1) → (ih4 σ x1 x2_4))) ∧ (¬ (σ (a0 + 8) (Int32.toNatClampNeg x2)) = 0 → (wp_X1_realitiesWithin σ a0 x2 (fun r_5 => (vp_in x2 100 ∧ (∀ x3_8 : Int32, x3_8 = r_5 &&& ((σ (a0 + 8) (Int32.toNatClampNeg x2)) ^^^ (-1)) → (vp_in x2 100 ∧ (vp_in x2 100 ∧ (∀ σ_11 : St, σ_11 = su σ (a0 + 8) (Int32.toNatClampNeg x2) ((σ (a0 + 8) (Int32.toNatClampNeg x2)) ||| x3_8) → (wp_J6_bitCount_0f7a4 σ_11 x3_8 (fun r_12 => (∀ x1_14 : Int32, x1_14 = x1 + r_12 → (∀ x2_15 : Int32, x2_15 = x2 + (nI 1) → (ih4 σ_11 x1_14 x2_15))))))))))))))))
def wp_X1_mendAll (σ : St) (a0 : Nat) (Q : Int32 → St → Prop) : Prop :=
  ∃ n9 : Nat, LP3 (wp_X1_mendAll_4 a0 Q) n9 σ (nI 0) (nI 0)
def wp_X1_perform_131 (σ : St) (a0 : Nat) (Q : Int32 → St → Prop) : Prop :=
  wp_X1_letGo σ a0 (σ 5 0) (fun r_1 σ_2 => (Q r_1 σ_2))
def wp_X1_perform (σ : St) (a0 : Nat) (Q : Int32 → St → Prop) : Prop :=
  ∀ q_4 : Int32, q_4 = σ 4 1 → ((q_4 = nI 0 → (wp_X1_startAnew σ a0 (σ 5 0) (fun r_6 σ_7 => (Q r_6 σ_7)))) ∧ (¬ q_4 = nI 0 → ((q_4 = nI 1 → (wp_X1_addLandmark σ a0 (σ 5 0) (σ 5 1) (fun r_9 σ_10 => (Q r_9 σ_10)))) ∧ (¬ q_4 = nI 1 → ((q_4 = nI 2 → (wp_X1_letIn σ a0 (σ 5 0) (σ 5 1) (σ 5 2) (σ 5 3) (fun r_12 σ_13 => (Q r_12 σ_13)))) ∧ (¬ q_4 = nI 2 → ((q_4 = nI 3 → (wp_X1_nearX σ a0 (σ 5 0) (σ 5 1) (fun r_15 => (wp_X1_nearY σ a0 (σ 5 0) (σ 5 1) (fun r_17 => (wp_X1_letIn σ a0 (σ 5 0) (σ 5 1) r_15 r_17 (fun r_19 σ_20 => (Q r_19 σ_20)))))))) ∧ (¬ q_4 = nI 3 → ((q_4 = nI 4 → (wp_X1_perform_131 σ a0 Q)) ∧ (¬ q_4 = nI 4 → ((q_4 = nI 5 → (wp_X1_letDie σ a0 (σ 5 0) (fun r_23 σ_24 => (Q r_23 σ_24)))) ∧ (¬ q_4 = nI 5 → ((q_4 = nI 6 → (wp_X1_perform_131 σ a0 Q)) ∧ (¬ q_4 = nI 6 → ((q_4 = nI 7 → (wp_X1_tidyAll σ a0 (fun r_27 σ_28 => (Q r_27 σ_28)))) ∧ (¬ q_4 = nI 7 → ((q_4 = nI 8 → (vp_in (σ 5 0) 100 ∧ (∀ σ_31 : St, σ_31 = su σ (a0 + 7) (Int32.toNatClampNeg (σ 5 0)) (σ 5 1) → (wp_X1_realitiesWithin σ_31 a0 (σ_31 5 0) (fun r_32 => (vp_in (σ_31 5 0) 100 ∧ (∀ σ_35 : St, σ_35 = su σ_31 (a0 + 8) (Int32.toNatClampNeg (σ_31 5 0)) r_32 → (vp_in (σ_35 5 0) 100 ∧ (Q (σ_35 (a0 + 8) (Int32.toNatClampNeg (σ_35 5 0))) σ_35))))))))) ∧ (¬ q_4 = nI 8 → ((q_4 = nI 9 → (wp_X1_cutOut σ a0 (σ 5 0) (fun r_38 σ_39 => (Q r_38 σ_39)))) ∧ (¬ q_4 = nI 9 → (wp_X1_mendAll σ a0 (fun r_40 σ_41 => (Q r_40 σ_41)))))))))))))))))))))))
def wp_X1_apart (σ : St) (a0 : Nat) (x1 : Int32) (x2 : Int32) (Q : Int32 → Prop) : Prop :=
  (x1 < 0 → (Q (nI 0))) ∧ (¬ x1 < 0 → (((nI 10) ≤ x1 → (Q (nI 0))) ∧ (¬ (nI 10) ≤ x1 → ((x2 < 0 → (Q (nI 0))) ∧ (¬ x2 < 0 → ((x2 < (nI 10) → (vp_in x1 10 ∧ (vp_in x2 10 ∧ (vp_in x1 10 ∧ (vp_in x2 10 ∧ (Q ((iabs ((σ (a0 + 3) (Int32.toNatClampNeg x1)) - (σ (a0 + 3) (Int32.toNatClampNeg x2)))) + (iabs ((σ (a0 + 4) (Int32.toNatClampNeg x1)) - (σ (a0 + 4) (Int32.toNatClampNeg x2))))))))))) ∧ (¬ x2 < (nI 10) → (Q (nI 0)))))))))
def wp_X1_isHeldByNoneBut_37 (σ : St) (a0 : Nat) (x1 : Int32) (Q : Int32 → Prop) : Prop :=
  vp_in x1 100 ∧ (((σ (a0 + 8) (Int32.toNatClampNeg x1)) = 0 → (Q (nI 0))) ∧ (¬ (σ (a0 + 8) (Int32.toNatClampNeg x1)) = 0 → (Q (nI 1))))
def wp_X1_isHeldByNoneBut_2 (σ : St) (a0 : Nat) (x1 : Int32) (x2 : Int32) (Q : Int32 → Prop) (ih2 : Int32 → Prop) (x3 : Int32) : Prop :=
  ((σ a0 9) ≤ x3 → (wp_X1_isHeldByNoneBut_37 σ a0 x1 Q)) ∧ (¬ (σ a0 9) ≤ x3 → (wp_X1_isHeld σ a0 x1 x3 (fun r_4 => ((r_4 = 0 → (∀ x3_7 : Int32, x3_7 = x3 + (nI 1) → (ih2 x3_7))) ∧ (¬ r_4 = 0 → (wp_X1_isHeldBy σ a0 x1 x3 x2 (fun r_8 => ((¬ r_8 = 0 → (∀ x3_11 : Int32, x3_11 = x3 + (nI 1) → (ih2 x3_11))) ∧ (r_8 = 0 → (Q (nI 0)))))))))))
def wp_X1_isHeldByNoneBut (σ : St) (a0 : Nat) (x1 : Int32) (x2 : Int32) (Q : Int32 → Prop) : Prop :=
  ∃ n9 : Nat, LP1 (wp_X1_isHeldByNoneBut_2 σ a0 x1 x2 Q) n9 (nI 0)
def wp_X1_loadOf_5 (σ : St) (a0 : Nat) (x1 : Int32) (x2 : Int32) (Q : Int32 → Prop) (ih5 : Int32 → Int32 → Prop) (x3 : Int32) (x4 : Int32) : Prop :=
  ((nI 100) ≤ x4 → (Q x3)) ∧ (¬ (nI 100) ≤ x4 → (wp_X1_isHeldBy σ a0 x4 x2 x1 (fun r_2 => ((r_2 = 0 → (∀ x4_5 : Int32, x4_5 = x4 + (nI 1) → (ih5 x3 x4_5))) ∧ (¬ r_2 = 0 → (∀ x3_6 : Int32, x3_6 = x3 + (nI 1) → (∀ x4_7 : Int32, x4_7 = x4 + (nI 1) → (ih5 x3_6 x4_7))))))))
def wp_X1_loadOf (σ : St) (a0 : Nat) (x1 : Int32) (x2 : Int32) (Q : Int32 → Prop) : Prop :=
  ∃ n9 : Nat, LP2 (wp_X1_loadOf_5 σ a0 x1 x2 Q) n9 (nI 0) (nI 0)
def wp_X1_copiesHeldIn_4 (σ : St) (a0 : Nat) (x1 : Int32) (Q : Int32 → Prop) (ih4 : Int32 → Int32 → Prop) (x2 : Int32) (x3 : Int32) : Prop :=
  ((nI 100) ≤ x3 → (Q x2)) ∧ (¬ (nI 100) ≤ x3 → (wp_X1_isHeld σ a0 x3 x1 (fun r_2 => ((r_2 = 0 → (∀ x3_5 : Int32, x3_5 = x3 + (nI 1) → (ih4 x2 x3_5))) ∧ (¬ r_2 = 0 → (∀ x2_6 : Int32, x2_6 = x2 + (nI 1) → (∀ x3_7 : Int32, x3_7 = x3 + (nI 1) → (ih4 x2_6 x3_7))))))))
def wp_X1_copiesHeldIn (σ : St) (a0 : Nat) (x1 : Int32) (Q : Int32 → Prop) : Prop :=
  ∃ n9 : Nat, LP2 (wp_X1_copiesHeldIn_4 σ a0 x1 Q) n9 (nI 0) (nI 0)
def wp_X1_keysStored_4 (σ : St) (a0 : Nat) (Q : Int32 → Prop) (ih4 : Int32 → Int32 → Prop) (x1 : Int32) (x2 : Int32) : Prop :=
  ((nI 100) ≤ x2 → (Q x1)) ∧ (¬ (nI 100) ≤ x2 → (vp_in x2 100 ∧ (((σ (a0 + 7) (Int32.toNatClampNeg x2)) = (-1) → (∀ x2_4 : Int32, x2_4 = x2 + (nI 1) → (ih4 x1 x2_4))) ∧ (¬ (σ (a0 + 7) (Int32.toNatClampNeg x2)) = (-1) → (∀ x1_5 : Int32, x1_5 = x1 + (nI 1) → (∀ x2_6 : Int32, x2_6 = x2 + (nI 1) → (ih4 x1_5 x2_6)))))))
def wp_X1_keysStored (σ : St) (a0 : Nat) (Q : Int32 → Prop) : Prop :=
  ∃ n9 : Nat, LP2 (wp_X1_keysStored_4 σ a0 Q) n9 (nI 0) (nI 0)
def wp_X1_keysSafe_13 (σ : St) (a0 : Nat) (x1 : Int32) (Q : Int32 → Prop) (ih13 : Int32 → Int32 → Prop) (x2 : Int32) (x3 : Int32) : Prop :=
  ((nI 100) ≤ x3 → (Q x2)) ∧ (¬ (nI 100) ≤ x3 → (vp_in x3 100 ∧ ((¬ (σ (a0 + 8) (Int32.toNatClampNeg x3)) = x1 → (∀ x3_4 : Int32, x3_4 = x3 + (nI 1) → (ih13 x2 x3_4))) ∧ ((σ (a0 + 8) (Int32.toNatClampNeg x3)) = x1 → (∀ x2_5 : Int32, x2_5 = x2 + (nI 1) → (∀ x3_6 : Int32, x3_6 = x3 + (nI 1) → (ih13 x2_5 x3_6)))))))
def wp_X1_keysSafe (σ : St) (a0 : Nat) (Q : Int32 → Prop) : Prop :=
  ∀ x1_7 : Int32, x1_7 = ((nI 1) <<< ((σ a0 9) &&& 31)) - (nI 1) → (∃ n9 : Nat, LP2 (wp_X1_keysSafe_13 σ a0 x1_7 Q) n9 (nI 0) (nI 0))
def wp_X1_copiesLost_12 (σ : St) (a0 : Nat) (Q : Int32 → Prop) (ih12 : Int32 → Int32 → Prop) (x1 : Int32) (x2 : Int32) : Prop :=
  ((nI 100) ≤ x2 → (Q x1)) ∧ (¬ (nI 100) ≤ x2 → (vp_in x2 100 ∧ (wp_J6_bitCount_0f7a4 σ (σ (a0 + 8) (Int32.toNatClampNeg x2)) (fun r_3 => (∀ x1_5 : Int32, x1_5 = x1 - r_3 → (∀ x2_6 : Int32, x2_6 = x2 + (nI 1) → (ih12 x1_5 x2_6)))))))
def wp_X1_copiesLost (σ : St) (a0 : Nat) (Q : Int32 → Prop) : Prop :=
  wp_X1_keysStored σ a0 (fun r_7 => (∀ x1_9 : Int32, x1_9 = r_7 * (σ a0 9) → (∃ n9 : Nat, LP2 (wp_X1_copiesLost_12 σ a0 Q) n9 x1_9 (nI 0))))
def wp_X2_keep (σ : St) (a1 : Nat) (Q : St → Prop) : Prop :=
  vp_in (((σ 6 1) + (σ 6 2)) - ((σ 6 1) + (σ 6 2)) / (nI 8) * (nI 8)) 8 ∧ (wp_X1_copyFrom σ (8 + 21 * Int32.toNatClampNeg (((σ 6 1) + (σ 6 2)) - ((σ 6 1) + (σ 6 2)) / (nI 8) * (nI 8))) a1 (fun σ_2 => (((nI 8) ≤ (σ_2 6 2) → (∀ σ_4 : St, σ_4 = su σ_2 6 1 (((σ_2 6 1) + (nI 1)) - ((σ_2 6 1) + (nI 1)) / (nI 8) * (nI 8)) → (Q σ_4))) ∧ (¬ (nI 8) ≤ (σ_2 6 2) → (∀ σ_5 : St, σ_5 = su σ_2 6 2 ((σ_2 6 2) + (nI 1)) → (Q σ_5))))))
def wp_X2_takeBack (σ : St) (a1 : Nat) (Q : St → Prop) : Prop :=
  ((σ 6 2) ≤ 0 → (Q σ)) ∧ (¬ (σ 6 2) ≤ 0 → (∀ σ_2 : St, σ_2 = su σ 6 2 ((σ 6 2) - (nI 1)) → (vp_in (((σ_2 6 1) + (σ_2 6 2)) - ((σ_2 6 1) + (σ_2 6 2)) / (nI 8) * (nI 8)) 8 ∧ (wp_X1_copyFrom σ_2 a1 (8 + 21 * Int32.toNatClampNeg (((σ_2 6 1) + (σ_2 6 2)) - ((σ_2 6 1) + (σ_2 6 2)) / (nI 8) * (nI 8))) (fun σ_4 => (Q σ_4))))))
def wp_X2_forget (σ : St) (Q : St → Prop) : Prop :=
  ∀ σ_1 : St, σ_1 = su σ 6 2 (nI 0) → (Q σ_1)
def wp_X3_begin (σ : St) (Q : St → Prop) : Prop :=
  ∀ σ_1 : St, σ_1 = su σ 3 1 (nI 0) → (∀ σ_2 : St, σ_2 = su σ_1 3 2 (nI 0) → (∀ σ_3 : St, σ_3 = su σ_2 3 3 (nI 0) → (∀ σ_4 : St, σ_4 = su σ_3 3 4 (nI 0) → (Q σ_4))))
def wp_X3_isBetween (σ : St) (x1 : Int32) (x2 : Int32) (x3 : Int32) (Q : Int32 → Prop) : Prop :=
  (x1 < 0 → (Q (nI 0))) ∧ (¬ x1 < 0 → (((σ 1 1) ≤ x1 → (Q (nI 0))) ∧ (¬ (σ 1 1) ≤ x1 → (vp_in x1 400 ∧ (((σ 2 (Int32.toNatClampNeg x1)) < x2 → (Q (nI 0))) ∧ (¬ (σ 2 (Int32.toNatClampNeg x1)) < x2 → (vp_in x1 400 ∧ ((x3 < (σ 2 (Int32.toNatClampNeg x1)) → (Q (nI 0))) ∧ (¬ x3 < (σ 2 (Int32.toNatClampNeg x1)) → (Q (nI 1)))))))))))
def wp_X3_skipBlanks_0 (Q : St → Prop) (ih0 : St → Prop) (σ : St) : Prop :=
  ((σ 1 1) ≤ (σ 3 1) → (Q σ)) ∧ (¬ (σ 1 1) ≤ (σ 3 1) → (wp_X3_isBetween σ (σ 3 1) (nI 32) (nI 32) (fun r_2 => ((r_2 = 0 → (Q σ)) ∧ (¬ r_2 = 0 → (∀ σ_5 : St, σ_5 = su σ 3 1 ((σ 3 1) + (nI 1)) → (ih0 σ_5)))))))
def wp_X3_skipBlanks (σ : St) (Q : St → Prop) : Prop :=
  ∃ n9 : Nat, LP1 (wp_X3_skipBlanks_0 Q) n9 σ
def wp_X3_takeSemicolon (σ : St) (Q : Int32 → St → Prop) : Prop :=
  wp_X3_isBetween σ (σ 3 1) (nI 59) (nI 59) (fun r_1 => ((¬ r_1 = 0 → (∀ σ_4 : St, σ_4 = su σ 3 1 ((σ 3 1) + (nI 1)) → (Q (nI 1) σ_4))) ∧ (r_1 = 0 → (Q (nI 0) σ))))
def wp_X3_takeWord_41 (σ : St) (w1 : Nat) (x2 : Int32) (Q : Int32 → St → Prop) (ih41 : Int32 → Prop) (x3 : Int32) : Prop :=
  ((nI (litL.getD w1 0)) ≤ x3 → (∀ σ_2 : St, σ_2 = su σ 3 1 x2 → (Q (nI 1) σ_2))) ∧ (¬ (nI (litL.getD w1 0)) ≤ x3 → (vp_in x3 (litL.getD w1 0) ∧ (vp_in x3 (litL.getD w1 0) ∧ (wp_X3_isBetween σ ((σ 3 1) + x3) ((litB.getD w1 []).getD (Int32.toNatClampNeg x3) 0) ((litB.getD w1 []).getD (Int32.toNatClampNeg x3) 0) (fun r_5 => ((¬ r_5 = 0 → (∀ x3_8 : Int32, x3_8 = x3 + (nI 1) → (ih41 x3_8))) ∧ (r_5 = 0 → (Q (nI 0) σ))))))))
def wp_X3_takeWord (σ : St) (w1 : Nat) (Q : Int32 → St → Prop) : Prop :=
  wp_X3_skipBlanks σ (fun σ_9 => (∀ x2_10 : Int32, x2_10 = (σ_9 3 1) + (nI (litL.getD w1 0)) → (((σ_9 1 1) < x2_10 → (Q (nI 0) σ_9)) ∧ (¬ (σ_9 1 1) < x2_10 → (wp_X3_isBetween σ_9 x2_10 (nI 97) (nI 122) (fun r_12 => ((r_12 = 0 → (∃ n9 : Nat, LP1 (wp_X3_takeWord_41 σ_9 w1 x2_10 Q) n9 (nI 0))) ∧ (¬ r_12 = 0 → (Q (nI 0) σ_9)))))))))
def wp_X3_takeKind_136 (σ : St) (t0 : Int32) (Q : Int32 → St → Prop) : Prop :=
  wp_X0_tell σ t0 (nI 0) (nI 0) (nI 0) (nI 0) (fun σ_1 => ((t0 = (-1) → (Q (nI 0) σ_1)) ∧ (¬ t0 = (-1) → (Q (nI 1) σ_1))))
def wp_X3_takeKind (σ : St) (Q : Int32 → St → Prop) : Prop :=
  wp_X3_takeWord σ 0 (fun r_3 σ_4 => ((r_3 = 0 → (wp_X3_takeWord σ_4 1 (fun r_6 σ_7 => ((r_6 = 0 → (wp_X3_takeWord σ_7 2 (fun r_9 σ_10 => ((r_9 = 0 → (wp_X3_takeWord σ_10 3 (fun r_12 σ_13 => ((r_12 = 0 → (wp_X3_takeWord σ_13 4 (fun r_15 σ_16 => ((r_15 = 0 → (wp_X3_takeWord σ_16 5 (fun r_18 σ_19 => ((r_18 = 0 → (wp_X3_takeWord σ_19 6 (fun r_21 σ_22 => ((r_21 = 0 → (wp_X3_takeWord σ_22 7 (fun r_24 σ_25 => ((r_24 = 0 → (wp_X3_takeWord σ_25 8 (fun r_27 σ_28 => ((r_27 = 0 → (wp_X3_takeWord σ_28 9 (fun r_30 σ_31 => ((r_30 = 0 → (wp_X3_takeKind_136 σ_31 (-1) Q)) ∧ (¬ r_30 = 0 → (wp_X3_takeKind_136 σ_31 (nI 10) Q)))))) ∧ (¬ r_27 = 0 → (wp_X3_takeKind_136 σ_28 (nI 9) Q)))))) ∧ (¬ r_24 = 0 → (wp_X3_takeKind_136 σ_25 (nI 8) Q)))))) ∧ (¬ r_21 = 0 → (wp_X3_takeKind_136 σ_22 (nI 7) Q)))))) ∧ (¬ r_18 = 0 → (wp_X3_takeKind_136 σ_19 (nI 6) Q)))))) ∧ (¬ r_15 = 0 → (wp_X3_takeKind_136 σ_16 (nI 5) Q)))))) ∧ (¬ r_12 = 0 → (wp_X3_takeKind_136 σ_13 (nI 4) Q)))))) ∧ (¬ r_9 = 0 → (wp_X3_takeKind_136 σ_10 (nI 2) Q)))))) ∧ (¬ r_6 = 0 → (wp_X3_takeKind_136 σ_7 (nI 1) Q)))))) ∧ (¬ r_3 = 0 → (wp_X3_takeKind_136 σ_4 (nI 0) Q))))
def wp_X3_takeNumber_76 (σ : St) (x2 : Int32) (x3 : Int32) (x4 : Int32) (x5 : Int32) (x6 : Int32) (Q : Int32 → St → Prop) : Prop :=
  ∀ x7_1 : Int32, x7_1 = x5 - (σ 3 1) → ((x7_1 < (nI 1) → (Q (nI 0) σ)) ∧ (¬ x7_1 < (nI 1) → (((nI 3) < x7_1 → (Q (nI 0) σ)) ∧ (¬ (nI 3) < x7_1 → ((x6 < x3 → (Q (nI 0) σ)) ∧ (¬ x6 < x3 → ((x6 ≤ x4 → ((x2 < 0 → (∀ σ_7 : St, σ_7 = su σ 3 1 x5 → (Q (nI 1) σ_7))) ∧ (¬ x2 < 0 → (((nI 4) ≤ x2 → (∀ σ_9 : St, σ_9 = su σ 3 1 x5 → (Q (nI 1) σ_9))) ∧ (¬ (nI 4) ≤ x2 → (vp_in x2 4 ∧ (∀ σ_11 : St, σ_11 = su σ 5 (Int32.toNatClampNeg x2) x6 → (∀ σ_12 : St, σ_12 = su σ_11 3 1 x5 → (Q (nI 1) σ_12))))))))) ∧ (¬ x6 ≤ x4 → (Q (nI 0) σ)))))))))
def wp_X3_takeNumber_13 (σ : St) (x2 : Int32) (x3 : Int32) (x4 : Int32) (Q : Int32 → St → Prop) (ih13 : Int32 → Int32 → Prop) (x5 : Int32) (x6 : Int32) : Prop :=
  ((σ 1 1) ≤ x5 → (wp_X3_takeNumber_76 σ x2 x3 x4 x5 x6 Q)) ∧ (¬ (σ 1 1) ≤ x5 → (wp_X3_isBetween σ x5 (nI 48) (nI 57) (fun r_14 => ((r_14 = 0 → (wp_X3_takeNumber_76 σ x2 x3 x4 x5 x6 Q)) ∧ (¬ r_14 = 0 → ((((σ 3 1) + (nI 3)) ≤ x5 → (∀ x5_18 : Int32, x5_18 = x5 + (nI 1) → (ih13 x5_18 x6))) ∧ (¬ ((σ 3 1) + (nI 3)) ≤ x5 → (vp_in x5 400 ∧ (∀ x6_20 : Int32, x6_20 = (x6 * (nI 10)) + ((σ 2 (Int32.toNatClampNeg x5)) - (nI 48)) → (∀ x5_21 : Int32, x5_21 = x5 + (nI 1) → (ih13 x5_21 x6_20)))))))))))
def wp_X3_takeNumber (σ : St) (x2 : Int32) (x3 : Int32) (x4 : Int32) (Q : Int32 → St → Prop) : Prop :=
  wp_X3_skipBlanks σ (fun σ_22 => (∀ x5_23 : Int32, x5_23 = σ_22 3 1 → (∃ n9 : Nat, LP2 (wp_X3_takeNumber_13 σ_22 x2 x3 x4 Q) n9 x5_23 (nI 0))))
def wp_X3_takeAim (σ : St) (Q : Int32 → St → Prop) : Prop :=
  wp_X3_takeWord σ 10 (fun r_1 σ_2 => ((r_1 = 0 → (wp_X3_takeWord σ_2 11 (fun r_4 σ_5 => ((r_4 = 0 → (Q (nI 0) σ_5)) ∧ (¬ r_4 = 0 → (wp_X3_takeNumber σ_5 (nI 2) (nI 0) (nI 31) (fun r_7 σ_8 => ((r_7 = 0 → (Q (nI 0) σ_8)) ∧ (¬ r_7 = 0 → (wp_X3_takeNumber σ_8 (nI 3) (nI 0) (nI 31) (fun r_10 σ_11 => ((r_10 = 0 → (Q (nI 0) σ_11)) ∧ (¬ r_10 = 0 → (Q (nI 1) σ_11)))))))))))))) ∧ (¬ r_1 = 0 → (∀ σ_13 : St, σ_13 = su σ_2 4 1 (nI 3) → (Q (nI 1) σ_13)))))
def wp_X3_takeNumbers_137 (σ : St) (Q : Int32 → St → Prop) : Prop :=
  wp_X3_takeNumber σ (nI 0) (nI 0) (nI 9) (fun r_1 σ_2 => ((r_1 = 0 ∨ r_1 = 1) ∧ (Q r_1 σ_2)))
def wp_X3_takeNumbers (σ : St) (Q : Int32 → St → Prop) : Prop :=
  ∀ q_5 : Int32, q_5 = σ 4 1 → ((q_5 = nI 0 → (wp_X3_takeNumber σ (nI 0) (nI 1) (nI 3) (fun r_7 σ_8 => ((r_7 = 0 ∨ r_7 = 1) ∧ (Q r_7 σ_8))))) ∧ (¬ q_5 = nI 0 → ((q_5 = nI 1 → (wp_X3_takeNumber σ (nI 0) (nI 0) (nI 99) (fun r_11 σ_12 => ((r_11 = 0 → (Q (nI 0) σ_12)) ∧ (¬ r_11 = 0 → (wp_X3_takeNumber σ_12 (nI 1) (nI 0) (nI 99) (fun r_14 σ_15 => ((r_14 = 0 → (Q (nI 0) σ_15)) ∧ (¬ r_14 = 0 → (Q (nI 1) σ_15)))))))))) ∧ (¬ q_5 = nI 1 → ((q_5 = nI 2 → (wp_X3_takeNumber σ (nI 0) (nI 0) (nI 99) (fun r_18 σ_19 => ((r_18 = 0 → (Q (nI 0) σ_19)) ∧ (¬ r_18 = 0 → (wp_X3_takeNumber σ_19 (nI 1) (nI 0) (nI 99) (fun r_21 σ_22 => ((r_21 = 0 → (Q (nI 0) σ_22)) ∧ (¬ r_21 = 0 → (wp_X3_takeAim σ_22 (fun r_24 σ_25 => ((r_24 = 0 → (Q (nI 0) σ_25)) ∧ (¬ r_24 = 0 → (Q (nI 1) σ_25)))))))))))))) ∧ (¬ q_5 = nI 2 → ((q_5 = nI 3 → (Q (nI 1) σ)) ∧ (¬ q_5 = nI 3 → ((q_5 = nI 4 → (wp_X3_takeNumbers_137 σ Q)) ∧ (¬ q_5 = nI 4 → ((q_5 = nI 5 → (wp_X3_takeNumbers_137 σ Q)) ∧ (¬ q_5 = nI 5 → ((q_5 = nI 6 → (wp_X3_takeNumbers_137 σ Q)) ∧ (¬ q_5 = nI 6 → ((q_5 = nI 7 → (Q (nI 1) σ)) ∧ (¬ q_5 = nI 7 → ((q_5 = nI 8 → (wp_X3_takeNumber σ (nI 0) (nI 0) (nI 99) (fun r_33 σ_34 => ((r_33 = 0 → (Q (nI 0) σ_34)) ∧ (¬ r_33 = 0 → (wp_X3_takeNumber σ_34 (nI 1) (nI 0) (nI 999) (fun r_36 σ_37 => ((r_36 = 0 → (Q (nI 0) σ_37)) ∧ (¬ r_36 = 0 → (Q (nI 1) σ_37)))))))))) ∧ (¬ q_5 = nI 8 → ((q_5 = nI 9 → (wp_X3_takeNumber σ (nI 0) (nI 0) (nI 99) (fun r_40 σ_41 => ((r_40 = 0 ∨ r_40 = 1) ∧ (Q r_40 σ_41))))) ∧ (¬ q_5 = nI 9 → (Q (nI 1) σ)))))))))))))))))))))
def wp_X3_takeAct_95 (σ : St) (t1 : Int32) (Q : Int32 → St → Prop) : Prop :=
  (t1 = 0 ∨ t1 = 1) ∧ (∀ σ_2 : St, σ_2 = su σ 3 4 t1 → (∀ σ_3 : St, σ_3 = su σ_2 3 3 ((σ_2 3 3) + (nI 1)) → ((¬ (σ_3 3 4) = 0 → (Q (nI 0) σ_3)) ∧ ((σ_3 3 4) = 0 → (Q (nI 1) σ_3)))))
def wp_X3_takeAct_90 (σ : St) (Q : Int32 → St → Prop) : Prop :=
  wp_X3_takeAct_95 σ (nI 1) Q
def wp_X3_takeAct_40 (σ : St) (t1 : Int32) (Q : Int32 → St → Prop) : Prop :=
  (t1 = 0 ∨ t1 = 1) ∧ (∀ σ_6 : St, σ_6 = su σ 3 4 t1 → (((σ_6 3 4) = 0 → (wp_X3_skipBlanks σ_6 (fun σ_8 => (∀ σ_9 : St, σ_9 = su σ_8 3 2 (σ_8 3 1) → (((nI 14) ≤ (σ_9 3 3) → (wp_X3_takeAct_90 σ_9 Q)) ∧ (¬ (nI 14) ≤ (σ_9 3 3) → (wp_X3_takeKind σ_9 (fun r_11 σ_12 => ((r_11 = 0 → (wp_X3_takeAct_90 σ_12 Q)) ∧ (¬ r_11 = 0 → (wp_X3_takeNumbers σ_12 (fun r_14 σ_15 => ((¬ r_14 = 0 → (wp_X3_takeAct_95 σ_15 (nI 0) Q)) ∧ (r_14 = 0 → (wp_X3_takeAct_90 σ_15 Q))))))))))))))) ∧ (¬ (σ_6 3 4) = 0 → (Q (nI 0) σ_6))))
def wp_X3_takeAct_39 (σ : St) (Q : Int32 → St → Prop) : Prop :=
  wp_X3_takeAct_40 σ (nI 0) Q
def wp_X3_takeAct (σ : St) (Q : Int32 → St → Prop) : Prop :=
  wp_X3_skipBlanks σ (fun σ_17 => (((σ_17 3 1) < (σ_17 1 1) → (((σ_17 3 3) ≤ 0 → (wp_X3_takeAct_39 σ_17 Q)) ∧ (¬ (σ_17 3 3) ≤ 0 → (wp_X3_takeSemicolon σ_17 (fun r_20 σ_21 => ((¬ r_20 = 0 → (wp_X3_takeAct_39 σ_21 Q)) ∧ (r_20 = 0 → (wp_X3_takeAct_40 σ_21 (nI 1) Q)))))))) ∧ (¬ (σ_17 3 1) < (σ_17 1 1) → (Q (nI 0) σ_17))))
def wp_X4_zonesOfTheScattered_4 (σ : St) (a0 : Nat) (Q : Int32 → Prop) (ih4 : Int32 → Int32 → Prop) (x1 : Int32) (x2 : Int32) : Prop :=
  ((nI 10) ≤ x2 → (Q x1)) ∧ (¬ (nI 10) ≤ x2 → (vp_in x2 10 ∧ (((σ (a0 + 3) (Int32.toNatClampNeg x2)) ≤ (nI 1) → (∀ x1_4 : Int32, x1_4 = x1 + (nI 0) → (∀ x2_5 : Int32, x2_5 = x2 + (nI 1) → (ih4 x1_4 x2_5)))) ∧ (¬ (σ (a0 + 3) (Int32.toNatClampNeg x2)) ≤ (nI 1) → (vp_in x2 10 ∧ (∀ x1_7 : Int32, x1_7 = x1 + (σ (a0 + 3) (Int32.toNatClampNeg x2)) → (∀ x2_8 : Int32, x2_8 = x2 + (nI 1) → (ih4 x1_7 x2_8))))))))
def wp_X4_zonesOfTheScattered (σ : St) (a0 : Nat) (Q : Int32 → Prop) : Prop :=
  ∃ n9 : Nat, LP2 (wp_X4_zonesOfTheScattered_4 σ a0 Q) n9 (nI 0) (nI 0)
def wp_X4_firstZoneOfAny_2 (σ : St) (a0 : Nat) (x1 : Int32) (Q : Int32 → Prop) (ih2 : Int32 → Prop) (x2 : Int32) : Prop :=
  ((nI 2048) ≤ x2 → (Q (-1))) ∧ (¬ (nI 2048) ≤ x2 → ((x1 = 0 → (Q (-1))) ∧ (¬ x1 = 0 → (vp_in x2 2048 ∧ (((((x1 <<< ((nI 1) &&& 31)) >>> ((σ (a0 + 1) (Int32.toNatClampNeg x2)) &&& 31)) &&& (nI 1)) = 0 → (∀ x2_5 : Int32, x2_5 = x2 + (nI 1) → (ih2 x2_5))) ∧ (¬ (((x1 <<< ((nI 1) &&& 31)) >>> ((σ (a0 + 1) (Int32.toNatClampNeg x2)) &&& 31)) &&& (nI 1)) = 0 → (Q x2)))))))
def wp_X4_firstZoneOfAny (σ : St) (a0 : Nat) (x1 : Int32) (Q : Int32 → Prop) : Prop :=
  ∃ n9 : Nat, LP1 (wp_X4_firstZoneOfAny_2 σ a0 x1 Q) n9 (nI 1)
def wp_X4_evenOf_15 (σ : St) (a0 : Nat) (x1 : Int32) (Q : Int32 → Prop) (ih15 : Int32 → Int32 → Int32 → Prop) (x2 : Int32) (x3 : Int32) (x4 : Int32) : Prop :=
  ((nI 10) ≤ x4 → (Q (x2 - x3))) ∧ (¬ (nI 10) ≤ x4 → ((((x1 >>> (x4 &&& 31)) &&& (nI 1)) = 0 → (∀ x4_3 : Int32, x4_3 = x4 + (nI 1) → (ih15 x2 x3 x4_3))) ∧ (¬ ((x1 >>> (x4 &&& 31)) &&& (nI 1)) = 0 → (vp_in x4 10 ∧ (∀ x2_5 : Int32, x2_5 = imax x2 (σ (a0 + 2) (Int32.toNatClampNeg x4)) → (vp_in x4 10 ∧ (∀ x3_7 : Int32, x3_7 = imin x3 (σ (a0 + 2) (Int32.toNatClampNeg x4)) → (∀ x4_8 : Int32, x4_8 = x4 + (nI 1) → (ih15 x2_5 x3_7 x4_8)))))))))
def wp_X4_evenOf (σ : St) (a0 : Nat) (x1 : Int32) (Q : Int32 → Prop) : Prop :=
  (¬ x1 = 0 → (∃ n9 : Nat, LP3 (wp_X4_evenOf_15 σ a0 x1 Q) n9 (nI 0) (nI 1024) (nI 0))) ∧ (x1 = 0 → (Q (-1)))
def wp_X7_lookBeside_40 (a1 : Nat) (x3 : Int32) (Q : St → Prop) (ih40 : St → Int32 → Int32 → Prop) (σ : St) (x4 : Int32) (x5 : Int32) : Prop :=
  ((nI 2048) ≤ x5 → (Q σ)) ∧ (¬ (nI 2048) ≤ x5 → ((x4 ≤ 0 → (Q σ)) ∧ (¬ x4 ≤ 0 → (vp_in x5 2048 ∧ (∀ x6_4 : Int32, x6_4 = (σ (a1 + 1) (Int32.toNatClampNeg x5)) - (nI 1) → ((x6_4 < 0 → (∀ x5_6 : Int32, x5_6 = x5 + (nI 1) → (ih40 σ x4 x5_6))) ∧ (¬ x6_4 < 0 → (∀ x4_7 : Int32, x4_7 = x4 + (-1) → (vp_in (x3 + x6_4) 30 ∧ (wp_X4_besideOf σ a1 x5 (fun r_9 => (vp_in (x3 + x6_4) 30 ∧ (∀ σ_12 : St, σ_12 = su σ 177 (Int32.toNatClampNeg (x3 + x6_4)) ((σ 177 (Int32.toNatClampNeg (x3 + x6_4))) ||| (r_9 &&& (((nI 1) <<< (x6_4 &&& 31)) ^^^ (-1)))) → (∀ x5_13 : Int32, x5_13 = x5 + (nI 1) → (ih40 σ_12 x4_7 x5_13)))))))))))))))
def wp_X7_lookBeside_31 (σ : St) (a1 : Nat) (x3 : Int32) (Q : St → Prop) : Prop :=
  wp_X4_zonesOfAll σ a1 (fun r_14 => (∃ n9 : Nat, LP3 (wp_X7_lookBeside_40 a1 x3 Q) n9 σ r_14 (nI 1)))
def wp_X7_lookBeside_8 (a1 : Nat) (x3 : Int32) (Q : St → Prop) (ih8 : St → Int32 → Prop) (σ : St) (x4 : Int32) : Prop :=
  ((nI 10) ≤ x4 → (wp_X7_lookBeside_31 σ a1 x3 Q)) ∧ (¬ (nI 10) ≤ x4 → (vp_in (x3 + x4) 30 ∧ (∀ σ_18 : St, σ_18 = su σ 177 (Int32.toNatClampNeg (x3 + x4)) (nI 0) → (∀ x4_19 : Int32, x4_19 = x4 + (nI 1) → (ih8 σ_18 x4_19)))))
def wp_X7_lookBeside (σ : St) (a1 : Nat) (x2 : Int32) (Q : St → Prop) : Prop :=
  ∀ x3_20 : Int32, x3_20 = x2 * (nI 10) → (∃ n9 : Nat, LP2 (wp_X7_lookBeside_8 a1 x3_20 Q) n9 σ (nI 0))
def wp_X7_stepsTo (σ : St) (x0 : Int32) (x1 : Int32) (x2 : Int32) (Q : Int32 → Prop) : Prop :=
  (x2 ≤ ((x0 - x1) &&& (nI 31)) → (Q (imin ((x1 - x0) &&& (nI 31)) ((x0 - ((x1 + x2) - (nI 1))) &&& (nI 31))))) ∧ (¬ x2 ≤ ((x0 - x1) &&& (nI 31)) → (Q (nI 0)))
def wp_X7_lookFar_43 (a1 : Nat) (x3 : Int32) (x4 : Int32) (x5 : Int32) (Q : St → Prop) (ih43 : St → Int32 → Int32 → Prop) (σ : St) (x6 : Int32) (x7 : Int32) : Prop :=
  ((nI 2048) ≤ x7 → (Q σ)) ∧ (¬ (nI 2048) ≤ x7 → ((x6 ≤ 0 → (Q σ)) ∧ (¬ x6 ≤ 0 → (vp_in x7 2048 ∧ (∀ x8_4 : Int32, x8_4 = (σ (a1 + 1) (Int32.toNatClampNeg x7)) - (nI 1) → ((x8_4 < 0 → (∀ x7_6 : Int32, x7_6 = x7 + (nI 1) → (ih43 σ x6 x7_6))) ∧ (¬ x8_4 < 0 → (∀ x6_7 : Int32, x6_7 = x6 + (-1) → (wp_X4_depthOf σ x7 (fun r_8 => (wp_X4_leastX σ x7 r_8 (fun r_10 => (wp_X4_wide σ r_8 (fun r_12 => (wp_X7_stepsTo σ x3 r_10 r_12 (fun r_14 => (wp_X4_leastY σ x7 r_8 (fun r_16 => (wp_X4_high σ r_8 (fun r_18 => (wp_X7_stepsTo σ x4 r_16 r_18 (fun r_20 => (∀ x10_22 : Int32, x10_22 = r_14 + r_20 → (vp_in (x5 + x8_4) 30 ∧ (vp_in (x5 + x8_4) 30 ∧ (∀ σ_25 : St, σ_25 = su σ 178 (Int32.toNatClampNeg (x5 + x8_4)) (imin (σ 178 (Int32.toNatClampNeg (x5 + x8_4))) x10_22) → (∀ x7_26 : Int32, x7_26 = x7 + (nI 1) → (ih43 σ_25 x6_7 x7_26))))))))))))))))))))))))))))
def wp_X7_lookFar_34 (σ : St) (a1 : Nat) (x3 : Int32) (x4 : Int32) (x5 : Int32) (Q : St → Prop) : Prop :=
  wp_X4_zonesOfAll σ a1 (fun r_27 => (∃ n9 : Nat, LP3 (wp_X7_lookFar_43 a1 x3 x4 x5 Q) n9 σ r_27 (nI 1)))
def wp_X7_lookFar_9 (a1 : Nat) (x3 : Int32) (x4 : Int32) (x5 : Int32) (Q : St → Prop) (ih9 : St → Int32 → Prop) (σ : St) (x6 : Int32) : Prop :=
  ((nI 10) ≤ x6 → (wp_X7_lookFar_34 σ a1 x3 x4 x5 Q)) ∧ (¬ (nI 10) ≤ x6 → (vp_in (x5 + x6) 30 ∧ (∀ σ_31 : St, σ_31 = su σ 178 (Int32.toNatClampNeg (x5 + x6)) (nI 64) → (∀ x6_32 : Int32, x6_32 = x6 + (nI 1) → (ih9 σ_31 x6_32)))))
def wp_X7_lookFar (σ : St) (a1 : Nat) (x2 : Int32) (x3 : Int32) (x4 : Int32) (Q : St → Prop) : Prop :=
  ∀ x5_33 : Int32, x5_33 = x2 * (nI 10) → (∃ n9 : Nat, LP2 (wp_X7_lookFar_9 a1 x3 x4 x5_33 Q) n9 σ (nI 0))
def wp_X7_nodeNearerThan_48 (σ : St) (x2 : Int32) (x3 : Int32) (x4 : Int32) (x7 : Int32) (x8 : Int32) (ih9 : Int32 → Int32 → Int32 → Prop) (Q : Int32 → Prop) (ih48 : Int32 → Int32 → Int32 → Prop) (x5 : Int32) (x6 : Int32) (x9 : Int32) : Prop :=
  ((nI 10) ≤ x9 → (∀ x7_2 : Int32, x7_2 = x7 + (nI 1) → (ih9 x5 x6 x7_2))) ∧ (¬ (nI 10) ≤ x9 → ((((x8 >>> (x9 &&& 31)) &&& (nI 1)) = 0 → (∀ x9_4 : Int32, x9_4 = x9 + (nI 1) → (ih48 x5 x6 x9_4))) ∧ (¬ ((x8 >>> (x9 &&& 31)) &&& (nI 1)) = 0 → (vp_in ((x7 * (nI 10)) + x9) 30 ∧ ((x5 ≤ (σ 178 (Int32.toNatClampNeg ((x7 * (nI 10)) + x9))) → (∀ x9_7 : Int32, x9_7 = x9 + (nI 1) → (ih48 x5 x6 x9_7))) ∧ (¬ x5 ≤ (σ 178 (Int32.toNatClampNeg ((x7 * (nI 10)) + x9))) → (vp_in ((x7 * (nI 10)) + x9) 30 ∧ (∀ x5_9 : Int32, x5_9 = σ 178 (Int32.toNatClampNeg ((x7 * (nI 10)) + x9)) → (∀ x9_10 : Int32, x9_10 = x9 + (nI 1) → (ih48 x5_9 x9 x9_10))))))))))
def wp_X7_nodeNearerThan_9 (σ : St) (x2 : Int32) (x3 : Int32) (x4 : Int32) (Q : Int32 → Prop) (ih9 : Int32 → Int32 → Int32 → Prop) (x5 : Int32) (x6 : Int32) (x7 : Int32) : Prop :=
  ((nI 3) ≤ x7 → (Q x6)) ∧ (¬ (nI 3) ≤ x7 → ((((x3 >>> (x7 &&& 31)) &&& (nI 1)) = 0 → (∃ n9 : Nat, LP3 (wp_X7_nodeNearerThan_48 σ x2 x3 x4 x7 (nI 0) ih9 Q) n9 x5 x6 (nI 0))) ∧ (¬ ((x3 >>> (x7 &&& 31)) &&& (nI 1)) = 0 → (vp_in ((x7 * (nI 10)) + x2) 30 ∧ (∀ x8_14 : Int32, x8_14 = (σ 177 (Int32.toNatClampNeg ((x7 * (nI 10)) + x2))) &&& x4 → (∃ n9 : Nat, LP3 (wp_X7_nodeNearerThan_48 σ x2 x3 x4 x7 x8_14 ih9 Q) n9 x5 x6 (nI 0)))))))
def wp_X7_nodeNearerThan (σ : St) (x1 : Int32) (x2 : Int32) (x3 : Int32) (x4 : Int32) (Q : Int32 → Prop) : Prop :=
  ∃ n9 : Nat, LP3 (wp_X7_nodeNearerThan_9 σ x2 x3 x4 Q) n9 x1 (-1) (nI 0)
def wp_X7_follow_86 (σ : St) (x2 : Int32) (x3 : Int32) (x4 : Int32) (x5 : Int32) (x6 : Int32) (ih20 : St → Int32 → Prop) (Q : St → Prop) : Prop :=
  (¬ x6 = 0 → (wp_X7_nodeNearerThan σ x6 x5 x2 x3 (fun r_2 => ((¬ r_2 = (-1) → (∀ σ_5 : St, σ_5 = su σ 176 3 ((σ 176 3) + (nI 1)) → (vp_in (σ_5 176 3) 11 ∧ (∀ σ_7 : St, σ_7 = su σ_5 179 (Int32.toNatClampNeg (σ_5 176 3)) r_2 → (∀ x4_8 : Int32, x4_8 = x4 + (nI 1) → (ih20 σ_7 x4_8)))))) ∧ (r_2 = (-1) → (∀ σ_9 : St, σ_9 = su σ 176 4 (nI 1) → (Q σ_9))))))) ∧ (x6 = 0 → (Q σ))
def wp_X7_follow_45 (σ : St) (x2 : Int32) (x3 : Int32) (x4 : Int32) (x5 : Int32) (ih20 : St → Int32 → Prop) (Q : St → Prop) (ih45 : Int32 → Int32 → Prop) (x6 : Int32) (x7 : Int32) : Prop :=
  ((nI 3) ≤ x7 → (wp_X7_follow_86 σ x2 x3 x4 x5 x6 ih20 Q)) ∧ (¬ (nI 3) ≤ x7 → ((((x2 >>> (x7 &&& 31)) &&& (nI 1)) = 0 → (∀ x7_12 : Int32, x7_12 = x7 + (nI 1) → (ih45 x6 x7_12))) ∧ (¬ ((x2 >>> (x7 &&& 31)) &&& (nI 1)) = 0 → (vp_in ((x7 * (nI 10)) + x5) 30 ∧ (∀ x6_14 : Int32, x6_14 = imin x6 (σ 178 (Int32.toNatClampNeg ((x7 * (nI 10)) + x5))) → (∀ x7_15 : Int32, x7_15 = x7 + (nI 1) → (ih45 x6_14 x7_15)))))))
def wp_X7_follow_20 (x2 : Int32) (x3 : Int32) (Q : St → Prop) (ih20 : St → Int32 → Prop) (σ : St) (x4 : Int32) : Prop :=
  ((nI 10) ≤ x4 → (Q σ)) ∧ (¬ (nI 10) ≤ x4 → (vp_in (σ 176 3) 11 ∧ (∀ x5_18 : Int32, x5_18 = σ 179 (Int32.toNatClampNeg (σ 176 3)) → (∃ n9 : Nat, LP2 (wp_X7_follow_45 σ x2 x3 x4 x5_18 ih20 Q) n9 (nI 64) (nI 0)))))
def wp_X7_follow (σ : St) (x1 : Int32) (x2 : Int32) (x3 : Int32) (Q : St → Prop) : Prop :=
  ∀ σ_19 : St, σ_19 = su σ 176 3 (nI 0) → (∀ σ_20 : St, σ_20 = su σ_19 176 4 (nI 0) → (∀ σ_21 : St, σ_21 = su σ_20 179 0 x1 → (∃ n9 : Nat, LP2 (wp_X7_follow_20 x2 x3 Q) n9 σ_21 (nI 0))))
def wp_X7_nodesBetween_4 (σ : St) (Q : Int32 → Prop) (ih4 : Int32 → Int32 → Prop) (x1 : Int32) (x2 : Int32) : Prop :=
  ((σ 176 3) ≤ x2 → (Q x1)) ∧ (¬ (σ 176 3) ≤ x2 → (vp_in x2 11 ∧ (∀ x1_3 : Int32, x1_3 = x1 ||| ((nI 1) <<< ((σ 179 (Int32.toNatClampNeg x2)) &&& 31)) → (∀ x2_4 : Int32, x2_4 = x2 + (nI 1) → (ih4 x1_3 x2_4)))))
def wp_X7_nodesBetween (σ : St) (Q : Int32 → Prop) : Prop :=
  ∃ n9 : Nat, LP2 (wp_X7_nodesBetween_4 σ Q) n9 (nI 0) (nI 1)
def wp_X5_addHinges_19 (x1 : Int32) (x2 : Int32) (x3 : Int32) (x4 : Int32) (Q : St → Prop) (ih19 : St → Int32 → Prop) (σ : St) (x5 : Int32) : Prop :=
  ((nI 10) ≤ x5 → (Q σ)) ∧ (¬ (nI 10) ≤ x5 → ((((x4 >>> (x5 &&& 31)) &&& (nI 1)) = 0 → (∀ x5_3 : Int32, x5_3 = x5 + (nI 1) → (ih19 σ x5_3))) ∧ (¬ ((x4 >>> (x5 &&& 31)) &&& (nI 1)) = 0 → (wp_X7_follow σ x1 x2 (x3 &&& (((nI 1) <<< (x5 &&& 31)) ^^^ (-1))) (fun σ_4 => (((σ_4 176 4) = 0 → (∀ σ_6 : St, σ_6 = su σ_4 180 4 ((σ_4 180 4) ||| (nI 0)) → (∀ x5_7 : Int32, x5_7 = x5 + (nI 1) → (ih19 σ_6 x5_7)))) ∧ (¬ (σ_4 176 4) = 0 → (∀ σ_8 : St, σ_8 = su σ_4 180 4 ((σ_4 180 4) ||| ((nI 1) <<< (x5 &&& 31))) → (∀ x5_9 : Int32, x5_9 = x5 + (nI 1) → (ih19 σ_8 x5_9))))))))))
def wp_X5_addHinges (σ : St) (x1 : Int32) (x2 : Int32) (x3 : Int32) (Q : St → Prop) : Prop :=
  wp_X7_nodesBetween σ (fun r_10 => (∀ x4_12 : Int32, x4_12 = r_10 &&& ((σ 180 4) ^^^ (-1)) → (∃ n9 : Nat, LP2 (wp_X5_addHinges_19 x1 x2 x3 x4_12 Q) n9 σ (nI 0))))
def wp_X5_walkTo_3 (x1 : Int32) (x2 : Int32) (x3 : Int32) (x4 : Int32) (Q : St → Prop) (ih3 : St → Int32 → Prop) (σ : St) (x5 : Int32) : Prop :=
  ((nI 10) ≤ x5 → (Q σ)) ∧ (¬ (nI 10) ≤ x5 → ((x5 = x1 → (∀ x5_3 : Int32, x5_3 = x5 + (nI 1) → (ih3 σ x5_3))) ∧ (¬ x5 = x1 → ((((x3 >>> (x5 &&& 31)) &&& (nI 1)) = 0 → (∀ x5_5 : Int32, x5_5 = x5 + (nI 1) → (ih3 σ x5_5))) ∧ (¬ ((x3 >>> (x5 &&& 31)) &&& (nI 1)) = 0 → (wp_X7_follow σ x5 x2 x3 (fun σ_6 => ((¬ (σ_6 176 4) = 0 → (∀ x5_8 : Int32, x5_8 = x5 + (nI 1) → (ih3 σ_6 x5_8))) ∧ ((σ_6 176 4) = 0 → (∀ σ_9 : St, σ_9 = su σ_6 180 1 ((σ_6 180 1) + (σ_6 176 3)) → (∀ σ_10 : St, σ_10 = su σ_9 180 2 ((σ_9 180 2) + (nI 1)) → (∀ σ_11 : St, σ_11 = su σ_10 180 3 (imax (σ_10 180 3) (σ_10 176 3)) → ((x4 = 0 → (∀ x5_13 : Int32, x5_13 = x5 + (nI 1) → (ih3 σ_11 x5_13))) ∧ (¬ x4 = 0 → (wp_X5_addHinges σ_11 x5 x2 x3 (fun σ_14 => (∀ x5_15 : Int32, x5_15 = x5 + (nI 1) → (ih3 σ_14 x5_15))))))))))))))))))
def wp_X5_walkTo (σ : St) (x1 : Int32) (x2 : Int32) (x3 : Int32) (x4 : Int32) (Q : St → Prop) : Prop :=
  ∃ n9 : Nat, LP2 (wp_X5_walkTo_3 x1 x2 x3 x4 Q) n9 σ (nI 0)
def wp_X5_walkAll_59 (σ : St) (a1 : Nat) (x2 : Int32) (x3 : Int32) (x4 : Int32) (x5 : Int32) (t0 : Int32) (ih32 : St → Int32 → Prop) (Q : St → Prop) : Prop :=
  (t0 = (-1) → (∀ x5_2 : Int32, x5_2 = x5 + (nI 1) → (ih32 σ x5_2))) ∧ (¬ t0 = (-1) → (wp_X4_depthOf σ t0 (fun r_3 => (wp_X4_leastX σ t0 r_3 (fun r_5 => (wp_X4_leastY σ t0 r_3 (fun r_7 => (wp_X7_lookFar σ a1 x2 r_5 r_7 (fun σ_9 => (wp_X5_walkTo σ_9 x5 ((nI 1) <<< (x2 &&& 31)) x3 x4 (fun σ_10 => (∀ x5_11 : Int32, x5_11 = x5 + (nI 1) → (ih32 σ_10 x5_11)))))))))))))
def wp_X5_walkAll_32 (a1 : Nat) (x2 : Int32) (x3 : Int32) (x4 : Int32) (Q : St → Prop) (ih32 : St → Int32 → Prop) (σ : St) (x5 : Int32) : Prop :=
  ((nI 10) ≤ x5 → (Q σ)) ∧ (¬ (nI 10) ≤ x5 → ((((x3 >>> (x5 &&& 31)) &&& (nI 1)) = 0 → (wp_X5_walkAll_59 σ a1 x2 x3 x4 x5 (-1) ih32 Q)) ∧ (¬ ((x3 >>> (x5 &&& 31)) &&& (nI 1)) = 0 → (wp_X4_zoneOf σ a1 x5 (nI 0) (fun r_14 => (wp_X5_walkAll_59 σ a1 x2 x3 x4 x5 r_14 ih32 Q))))))
def wp_X5_walkAll (σ : St) (a1 : Nat) (x2 : Int32) (x3 : Int32) (x4 : Int32) (Q : St → Prop) : Prop :=
  ∀ σ_16 : St, σ_16 = su σ 180 1 (nI 0) → (∀ σ_17 : St, σ_17 = su σ_16 180 2 (nI 0) → (∀ σ_18 : St, σ_18 = su σ_17 180 3 (-1) → (∀ σ_19 : St, σ_19 = su σ_18 180 4 (nI 0) → (wp_X7_lookBeside σ_19 a1 x2 (fun σ_20 => (∃ n9 : Nat, LP2 (wp_X5_walkAll_32 a1 x2 x3 x4 Q) n9 σ_20 (nI 0)))))))
def wp_X6_append_3 (x1 : Int32) (Q : St → Prop) (ih3 : St → Int32 → Prop) (σ : St) (x2 : Int32) : Prop :=
  (x2 < 0 → (Q σ)) ∧ (¬ x2 < 0 → (((nI 400) ≤ (σ 1 1) → (Q σ)) ∧ (¬ (nI 400) ≤ (σ 1 1) → (vp_in (σ 1 1) 400 ∧ (∀ σ_4 : St, σ_4 = su σ 2 (Int32.toNatClampNeg (σ 1 1)) (vp_nar .byte ((Int32.toInt8 (x1 >>> (x2 &&& 31))).toInt32)) → (∀ σ_5 : St, σ_5 = su σ_4 1 1 ((σ_4 1 1) + (nI 1)) → (∀ x2_6 : Int32, x2_6 = x2 + (-8) → (ih3 σ_5 x2_6))))))))
def wp_X6_append (σ : St) (x1 : Int32) (Q : St → Prop) : Prop :=
  ∃ n9 : Nat, LP2 (wp_X6_append_3 x1 Q) n9 σ (nI 24)
def wp_X7_besideIn (σ : St) (x1 : Int32) (x2 : Int32) (Q : Int32 → Prop) : Prop :=
  vp_in ((x1 * (nI 10)) + x2) 30 ∧ (Q (σ 177 (Int32.toNatClampNeg ((x1 * (nI 10)) + x2))))
def wp_X7_hopsOrNone (σ : St) (Q : Int32 → Prop) : Prop :=
  ((σ 176 4) = 0 → (Q (σ 176 3))) ∧ (¬ (σ 176 4) = 0 → (Q (-1)))
def wp_X7_nodeOfWay (σ : St) (x1 : Int32) (Q : Int32 → Prop) : Prop :=
  (x1 < 0 → (Q (-1))) ∧ (¬ x1 < 0 → (((σ 176 3) < x1 → (Q (-1))) ∧ (¬ (σ 176 3) < x1 → (vp_in x1 11 ∧ (Q (σ 179 (Int32.toNatClampNeg x1)))))))
def wp_X7_lastNode (σ : St) (Q : Int32 → Prop) : Prop :=
  vp_in (σ 176 3) 11 ∧ (Q (σ 179 (Int32.toNatClampNeg (σ 176 3))))
def wp_X8_feed (σ : St) (x1 : Int32) (x2 : Int32) (x3 : Int32) (x4 : Int32) (x5 : Int32) (Q : Int32 → St → Prop) : Prop :=
  (((σ 1 1) + (nI 20)) ≤ (nI 400) → (wp_X6_append σ x1 (fun σ_2 => (wp_X6_append σ_2 x2 (fun σ_3 => (wp_X6_append σ_3 x3 (fun σ_4 => (wp_X6_append σ_4 x4 (fun σ_5 => (wp_X6_append σ_5 x5 (fun σ_6 => (Q (σ_6 1 1) σ_6)))))))))))) ∧ (¬ ((σ 1 1) + (nI 20)) ≤ (nI 400) → (Q (-1) σ))
def wp_X8_end (σ : St) (x1 : Int32) (Q : Int32 → St → Prop) : Prop :=
  (x1 < 0 → (Q (nI 0) σ)) ∧ (¬ x1 < 0 → ((x1 ≤ (σ 1 1) → (∀ σ_3 : St, σ_3 = su σ 1 1 x1 → (Q (nI 1) σ_3))) ∧ (¬ x1 ≤ (σ 1 1) → (Q (nI 0) σ))))
def wp_X8_dropText (σ : St) (x1 : Int32) (Q : St → Prop) : Prop :=
  ∀ σ_1 : St, σ_1 = su σ 0 10 x1 → (lay (σ_1 0 8).toNatClampNeg = (1, 0) ∧ (lay (σ_1 0 9).toNatClampNeg = (1, 0) ∧ (∀ σ_4 : St, σ_4 = su σ_1 0 8 (nI ((σ_1 0 9).toNatClampNeg)) → (∀ σ_5 : St, σ_5 = su σ_4 0 9 (nI ((σ_1 0 8).toNatClampNeg)) → (Q σ_5)))))
def wp_X8_acts_85 (σ : St) (x1 : Int32) (x2 : Int32) (Q : Int32 → St → Prop) (QX : String → St → Prop) : Prop :=
  ∀ σ_1 : St, σ_1 = su σ 1 1 (nI 0) → ((x1 = 0 → (((σ_1 3 4) = 0 → (∀ σ_4 : St, σ_4 = su σ_1 0 10 (-1) → (wp_X2_forget σ_4 (fun σ_5 => ((x2 ≤ 0 → (Q x2 σ_5)) ∧ (¬ x2 ≤ 0 → (∀ σ_7 : St, σ_7 = su σ_5 0 11 (nI 0) → (Q x2 σ_7)))))))) ∧ (¬ (σ_1 3 4) = 0 → (wp_X8_dropText σ_1 (σ_1 3 1) (fun σ_8 => (QX "java/lang/IllegalArgumentException" σ_8)))))) ∧ (¬ x1 = 0 → (∀ σ_9 : St, σ_9 = su σ_1 0 11 x1 → (wp_X8_dropText σ_9 (σ_9 3 2) (fun σ_10 => (QX "java/lang/IllegalArgumentException" σ_10))))))
def wp_X8_acts_24 (Q : Int32 → St → Prop) (QX : String → St → Prop) (ih24 : St → Int32 → Int32 → Int32 → Prop) (σ : St) (x1 : Int32) (x2 : Int32) (x3 : Int32) : Prop :=
  ((nI 14) < x3 → (wp_X8_acts_85 σ x1 x2 Q QX)) ∧ (¬ (nI 14) < x3 → ((¬ x1 = 0 → (wp_X8_acts_85 σ x1 x2 Q QX)) ∧ (x1 = 0 → (wp_X3_takeAct σ (fun r_13 σ_14 => ((r_13 = 0 → (wp_X8_acts_85 σ_14 x1 x2 Q QX)) ∧ (¬ r_13 = 0 → (lay (σ_14 0 8).toNatClampNeg = (1, 0) ∧ (wp_X1_refusalOf σ_14 ((σ_14 0 8).toNatClampNeg) (fun r_17 => ((¬ r_17 = 0 → (∀ x3_20 : Int32, x3_20 = x3 + (nI 1) → (ih24 σ_14 r_17 x2 x3_20))) ∧ (r_17 = 0 → (lay (σ_14 0 8).toNatClampNeg = (1, 0) ∧ (wp_X1_perform σ_14 ((σ_14 0 8).toNatClampNeg) (fun r_22 σ_23 => (∀ x2_24 : Int32, x2_24 = x2 + (nI 1) → (∀ x3_25 : Int32, x3_25 = x3 + (nI 1) → (ih24 σ_23 r_17 x2_24 x3_25))))))))))))))))))
def wp_X8_acts (σ : St) (QX : String → St → Prop) (Q : Int32 → St → Prop) : Prop :=
  lay (σ 0 9).toNatClampNeg = (1, 0) ∧ (lay (σ 0 8).toNatClampNeg = (1, 0) ∧ (wp_X1_copyFrom σ ((σ 0 9).toNatClampNeg) ((σ 0 8).toNatClampNeg) (fun σ_28 => (wp_X3_begin σ_28 (fun σ_29 => (∃ n9 : Nat, LP4 (wp_X8_acts_24 Q QX) n9 σ_29 (nI 0) (nI 0) (nI 0)))))))
def wp_X8_fault (σ : St) (Q : Int32 → Prop) : Prop :=
  Q (σ 0 10)
def wp_X8_why (σ : St) (Q : Int32 → Prop) : Prop :=
  Q (σ 0 11)
def wp_X8_isPlace (σ : St) (x0 : Int32) (x1 : Int32) (Q : Int32 → Prop) : Prop :=
  (x0 < 0 → (Q (nI 0))) ∧ (¬ x0 < 0 → (((nI 100) ≤ x0 → (Q (nI 0))) ∧ (¬ (nI 100) ≤ x0 → ((x1 < 0 → (Q (nI 0))) ∧ (¬ x1 < 0 → (((nI 100) ≤ x1 → (Q (nI 0))) ∧ (¬ (nI 100) ≤ x1 → (Q (nI 1)))))))))
def wp_X8_isCell (σ : St) (x0 : Int32) (x1 : Int32) (Q : Int32 → Prop) : Prop :=
  (x0 < 0 → (Q (nI 0))) ∧ (¬ x0 < 0 → (((nI 32) ≤ x0 → (Q (nI 0))) ∧ (¬ (nI 32) ≤ x0 → ((x1 < 0 → (Q (nI 0))) ∧ (¬ x1 < 0 → (((nI 32) ≤ x1 → (Q (nI 0))) ∧ (¬ (nI 32) ≤ x1 → (Q (nI 1)))))))))
def wp_X8_settle (σ : St) (QX : String → St → Prop) (Q : St → Prop) : Prop :=
  lay (σ 0 8).toNatClampNeg = (1, 0) ∧ (wp_X1_refusalOf σ ((σ 0 8).toNatClampNeg) (fun r_2 => (∀ σ_4 : St, σ_4 = su σ 0 11 r_2 → (((σ_4 0 11) = 0 → (lay (σ_4 0 8).toNatClampNeg = (1, 0) ∧ (wp_X2_keep σ_4 ((σ_4 0 8).toNatClampNeg) (fun σ_7 => (Q σ_7))))) ∧ (¬ (σ_4 0 11) = 0 → (QX "java/lang/IllegalStateException" σ_4))))))
def wp_X8_join (σ : St) (x1 : Int32) (x2 : Int32) (x3 : Int32) (x4 : Int32) (QX : String → St → Prop) (Q : Int32 → St → Prop) : Prop :=
  wp_X8_isPlace σ x1 x2 (fun r_1 => ((r_1 = 0 → (QX "java/lang/IllegalArgumentException" σ)) ∧ (¬ r_1 = 0 → (wp_X8_isCell σ x3 x4 (fun r_4 => ((¬ r_4 = 0 → (wp_X0_tell σ (nI 2) x1 x2 x3 x4 (fun σ_7 => (wp_X8_settle σ_7 QX (fun σ_8 => (lay (σ_8 0 8).toNatClampNeg = (1, 0) ∧ (wp_X1_perform σ_8 ((σ_8 0 8).toNatClampNeg) (fun r_10 σ_11 => (Q r_10 σ_11))))))))) ∧ (r_4 = 0 → (QX "java/lang/IllegalArgumentException" σ))))))))
def wp_X8_near (σ : St) (x1 : Int32) (x2 : Int32) (QX : String → St → Prop) (Q : Int32 → St → Prop) : Prop :=
  wp_X8_isPlace σ x1 x2 (fun r_1 => ((¬ r_1 = 0 → (wp_X0_tell σ (nI 3) x1 x2 (nI 0) (nI 0) (fun σ_4 => (wp_X8_settle σ_4 QX (fun σ_5 => (lay (σ_5 0 8).toNatClampNeg = (1, 0) ∧ (wp_X1_perform σ_5 ((σ_5 0 8).toNatClampNeg) (fun r_7 σ_8 => (Q r_7 σ_8))))))))) ∧ (r_1 = 0 → (QX "java/lang/IllegalArgumentException" σ))))
def wp_X8_checkNode (σ : St) (x0 : Int32) (QX : String → St → Prop) (Q : Prop) : Prop :=
  (x0 < 0 → (QX "java/lang/IndexOutOfBoundsException" σ)) ∧ (¬ x0 < 0 → ((x0 < (nI 10) → (Q)) ∧ (¬ x0 < (nI 10) → (QX "java/lang/IndexOutOfBoundsException" σ))))
def wp_X8_checkWhat (σ : St) (x0 : Int32) (x1 : Int32) (QX : String → St → Prop) (Q : Prop) : Prop :=
  (x0 < 0 → (QX "java/util/NoSuchElementException" σ)) ∧ (¬ x0 < 0 → ((x0 < x1 → (Q)) ∧ (¬ x0 < x1 → (QX "java/util/NoSuchElementException" σ))))
def wp_X8_go (σ : St) (x1 : Int32) (x2 : Int32) (QX : String → St → Prop) (Q : Int32 → St → Prop) : Prop :=
  wp_X8_checkNode σ x1 QX (wp_X8_checkWhat σ x2 (nI 3) QX (wp_X0_tell σ ((nI 4) + x2) x1 (nI 0) (nI 0) (nI 0) (fun σ_3 => (wp_X8_settle σ_3 QX (fun σ_4 => (lay (σ_4 0 8).toNatClampNeg = (1, 0) ∧ (wp_X1_perform σ_4 ((σ_4 0 8).toNatClampNeg) (fun r_6 σ_7 => (Q r_6 σ_7)))))))))
def wp_X8_tidy (σ : St) (QX : String → St → Prop) (Q : Int32 → St → Prop) : Prop :=
  wp_X0_tell σ (nI 7) (nI 0) (nI 0) (nI 0) (nI 0) (fun σ_1 => (wp_X8_settle σ_1 QX (fun σ_2 => (lay (σ_2 0 8).toNatClampNeg = (1, 0) ∧ (wp_X1_perform σ_2 ((σ_2 0 8).toNatClampNeg) (fun r_4 σ_5 => (Q r_4 σ_5)))))))
def wp_X8_checkKey (σ : St) (x0 : Int32) (QX : String → St → Prop) (Q : Prop) : Prop :=
  (x0 < 0 → (QX "java/lang/IndexOutOfBoundsException" σ)) ∧ (¬ x0 < 0 → ((x0 < (nI 100) → (Q)) ∧ (¬ x0 < (nI 100) → (QX "java/lang/IndexOutOfBoundsException" σ))))
def wp_X8_put (σ : St) (x1 : Int32) (x2 : Int32) (QX : String → St → Prop) (Q : Int32 → St → Prop) : Prop :=
  wp_X8_checkKey σ x1 QX ((x2 < 0 → (QX "java/lang/IllegalArgumentException" σ)) ∧ (¬ x2 < 0 → ((x2 < (nI 1000) → (wp_X0_tell σ (nI 8) x1 x2 (nI 0) (nI 0) (fun σ_4 => (wp_X8_settle σ_4 QX (fun σ_5 => (lay (σ_5 0 8).toNatClampNeg = (1, 0) ∧ (wp_X1_perform σ_5 ((σ_5 0 8).toNatClampNeg) (fun r_7 σ_8 => (Q r_7 σ_8))))))))) ∧ (¬ x2 < (nI 1000) → (QX "java/lang/IllegalArgumentException" σ)))))
def wp_X8_cut (σ : St) (x1 : Int32) (QX : String → St → Prop) (Q : Int32 → St → Prop) : Prop :=
  wp_X8_checkKey σ x1 QX (wp_X0_tell σ (nI 9) x1 (nI 0) (nI 0) (nI 0) (fun σ_2 => (wp_X8_settle σ_2 QX (fun σ_3 => (lay (σ_3 0 8).toNatClampNeg = (1, 0) ∧ (wp_X1_perform σ_3 ((σ_3 0 8).toNatClampNeg) (fun r_5 σ_6 => (Q r_5 σ_6))))))))
def wp_X8_mend (σ : St) (QX : String → St → Prop) (Q : Int32 → St → Prop) : Prop :=
  wp_X0_tell σ (nI 10) (nI 0) (nI 0) (nI 0) (nI 0) (fun σ_1 => (wp_X8_settle σ_1 QX (fun σ_2 => (lay (σ_2 0 8).toNatClampNeg = (1, 0) ∧ (wp_X1_perform σ_2 ((σ_2 0 8).toNatClampNeg) (fun r_4 σ_5 => (Q r_4 σ_5)))))))
def wp_X8_undo (σ : St) (QX : String → St → Prop) (Q : Int32 → St → Prop) : Prop :=
  (¬ (σ 6 2) = 0 → (lay (σ 0 8).toNatClampNeg = (1, 0) ∧ (wp_X2_takeBack σ ((σ 0 8).toNatClampNeg) (fun σ_3 => (Q (σ_3 6 2) σ_3))))) ∧ ((σ 6 2) = 0 → (QX "java/lang/IllegalStateException" σ))
def wp_X8_node (σ : St) (x1 : Int32) (x2 : Int32) (QX : String → St → Prop) (Q : Int32 → Prop) : Prop :=
  wp_X8_checkNode σ x1 QX (wp_X8_checkWhat σ x2 (nI 3) QX ((¬ x2 = 0 → (lay (σ 0 8).toNatClampNeg = (1, 0) ∧ (vp_in x1 10 ∧ ((¬ (σ ((σ 0 8).toNatClampNeg + 2) (Int32.toNatClampNeg x1)) = 0 → ((¬ x2 = (nI 1) → (lay (σ 0 8).toNatClampNeg = (1, 0) ∧ (vp_in x1 10 ∧ (Q (σ ((σ 0 8).toNatClampNeg + 4) (Int32.toNatClampNeg x1)))))) ∧ (x2 = (nI 1) → (lay (σ 0 8).toNatClampNeg = (1, 0) ∧ (vp_in x1 10 ∧ (Q (σ ((σ 0 8).toNatClampNeg + 3) (Int32.toNatClampNeg x1)))))))) ∧ ((σ ((σ 0 8).toNatClampNeg + 2) (Int32.toNatClampNeg x1)) = 0 → (Q (-1))))))) ∧ (x2 = 0 → (lay (σ 0 8).toNatClampNeg = (1, 0) ∧ (vp_in x1 10 ∧ (Q (σ ((σ 0 8).toNatClampNeg + 2) (Int32.toNatClampNeg x1))))))))
def wp_X8_checkReality (σ : St) (x1 : Int32) (QX : String → St → Prop) (Q : Prop) : Prop :=
  (x1 < 0 → (QX "java/lang/IndexOutOfBoundsException" σ)) ∧ (¬ x1 < 0 → (lay (σ 0 8).toNatClampNeg = (1, 0) ∧ ((x1 < (σ ((σ 0 8).toNatClampNeg) 9) → (Q)) ∧ (¬ x1 < (σ ((σ 0 8).toNatClampNeg) 9) → (QX "java/lang/IndexOutOfBoundsException" σ)))))
def wp_X8_hubOf_24 (σ : St) (x1 : Int32) (Q : Int32 → St → Prop) (ih24 : Int32 → Int32 → Int32 → Prop) (x2 : Int32) (x3 : Int32) (x4 : Int32) : Prop :=
  ((nI 10) ≤ x4 → (Q x2 σ)) ∧ (¬ (nI 10) ≤ x4 → (wp_X7_besideIn σ x1 x4 (fun r_2 => (wp_J6_bitCount_0f7a4 σ r_2 (fun r_4 => (lay (σ 0 8).toNatClampNeg = (1, 0) ∧ (vp_in x4 10 ∧ ((¬ (σ ((σ 0 8).toNatClampNeg + 2) (Int32.toNatClampNeg x4)) = (nI 1) → (∀ x4_9 : Int32, x4_9 = x4 + (nI 1) → (ih24 x2 x3 x4_9))) ∧ ((σ ((σ 0 8).toNatClampNeg + 2) (Int32.toNatClampNeg x4)) = (nI 1) → ((r_4 ≤ x3 → (∀ x4_11 : Int32, x4_11 = x4 + (nI 1) → (ih24 x2 x3 x4_11))) ∧ (¬ r_4 ≤ x3 → (∀ x4_12 : Int32, x4_12 = x4 + (nI 1) → (ih24 x4 r_4 x4_12)))))))))))))
def wp_X8_hubOf (σ : St) (x1 : Int32) (Q : Int32 → St → Prop) : Prop :=
  lay (σ 0 8).toNatClampNeg = (1, 0) ∧ (vp_in x1 3 ∧ (wp_X7_lookBeside σ ((σ 0 8).toNatClampNeg + 1 + 8 + 4 * Int32.toNatClampNeg x1) x1 (fun σ_15 => (∃ n9 : Nat, LP3 (wp_X8_hubOf_24 σ_15 x1 Q) n9 (-1) (-1) (nI 0)))))
def wp_X8_held (σ : St) (x1 : Int32) (x2 : Int32) (x3 : Int32) (QX : String → St → Prop) (Q : Int32 → St → Prop) : Prop :=
  wp_X8_checkNode σ x1 QX (wp_X8_checkReality σ x2 QX (wp_X8_checkWhat σ x3 (nI 5) QX (lay (σ 0 8).toNatClampNeg = (1, 0) ∧ (vp_in x2 3 ∧ ((x3 = nI 0 → (vp_in x1 10 ∧ (Q (σ ((σ 0 8).toNatClampNeg + 1 + 8 + 4 * Int32.toNatClampNeg x2 + 3) (Int32.toNatClampNeg x1)) σ))) ∧ (¬ x3 = nI 0 → ((x3 = nI 1 → (vp_in x1 10 ∧ (Q (σ ((σ 0 8).toNatClampNeg + 1 + 8 + 4 * Int32.toNatClampNeg x2 + 2) (Int32.toNatClampNeg x1)) σ))) ∧ (¬ x3 = nI 1 → ((x3 = nI 2 → (wp_X7_lookBeside σ ((σ 0 8).toNatClampNeg + 1 + 8 + 4 * Int32.toNatClampNeg x2) x2 (fun σ_12 => (wp_X7_besideIn σ_12 x2 x1 (fun r_13 => (Q r_13 σ_12)))))) ∧ (¬ x3 = nI 2 → ((x3 = nI 3 → (lay (σ 0 8).toNatClampNeg = (1, 0) ∧ (wp_X1_loadOf σ ((σ 0 8).toNatClampNeg) x1 x2 (fun r_17 => (Q r_17 σ))))) ∧ (¬ x3 = nI 3 → (wp_X8_hubOf σ x2 (fun r_19 σ_20 => ((¬ r_19 = x1 → (Q (nI 0) σ_20)) ∧ (r_19 = x1 → (Q (nI 1) σ_20)))))))))))))))))
def wp_X8_zone (σ : St) (x1 : Int32) (x2 : Int32) (x3 : Int32) (QX : String → St → Prop) (Q : Int32 → Prop) : Prop :=
  wp_X8_checkNode σ x1 QX (wp_X8_checkReality σ x2 QX (lay (σ 0 8).toNatClampNeg = (1, 0) ∧ (vp_in x2 3 ∧ (wp_X4_zoneOf σ ((σ 0 8).toNatClampNeg + 1 + 8 + 4 * Int32.toNatClampNeg x2) x1 x3 (fun r_5 => (Q r_5))))))
def wp_X8_box (σ : St) (x1 : Int32) (x2 : Int32) (QX : String → St → Prop) (Q : Int32 → Prop) : Prop :=
  (x1 < (nI 1) → (QX "java/lang/IllegalArgumentException" σ)) ∧ (¬ x1 < (nI 1) → ((x1 < (nI 2048) → (wp_X8_checkWhat σ x2 (nI 5) QX (wp_X4_depthOf σ x1 (fun r_4 => ((x2 = nI 0 → (Q r_4)) ∧ (¬ x2 = nI 0 → ((x2 = nI 1 → (wp_X4_leastX σ x1 r_4 (fun r_9 => (Q r_9)))) ∧ (¬ x2 = nI 1 → ((x2 = nI 2 → (wp_X4_leastY σ x1 r_4 (fun r_12 => (Q r_12)))) ∧ (¬ x2 = nI 2 → ((x2 = nI 3 → (wp_X4_wide σ r_4 (fun r_15 => (Q r_15)))) ∧ (¬ x2 = nI 3 → (wp_X4_high σ r_4 (fun r_17 => (Q r_17))))))))))))))) ∧ (¬ x1 < (nI 2048) → (QX "java/lang/IllegalArgumentException" σ))))
def wp_X8_checkCell (σ : St) (x0 : Int32) (x1 : Int32) (QX : String → St → Prop) (Q : Prop) : Prop :=
  wp_X8_isCell σ x0 x1 (fun r_1 => ((¬ r_1 = 0 → (Q)) ∧ (r_1 = 0 → (QX "java/lang/IllegalArgumentException" σ))))
def wp_X8_cell (σ : St) (x1 : Int32) (x2 : Int32) (x3 : Int32) (x4 : Int32) (QX : String → St → Prop) (Q : Int32 → Prop) : Prop :=
  wp_X8_checkReality σ x1 QX (wp_X8_checkCell σ x2 x3 QX (wp_X8_checkWhat σ x4 (nI 2) QX (lay (σ 0 8).toNatClampNeg = (1, 0) ∧ (vp_in x1 3 ∧ ((¬ x4 = (nI 1) → (wp_X4_zoneAt σ ((σ 0 8).toNatClampNeg + 1 + 8 + 4 * Int32.toNatClampNeg x1) x2 x3 (fun r_7 => ((¬ r_7 = 0 → (Q r_7)) ∧ (r_7 = 0 → (Q (-1))))))) ∧ (x4 = (nI 1) → (wp_X4_nodeAt σ ((σ 0 8).toNatClampNeg + 1 + 8 + 4 * Int32.toNatClampNeg x1) x2 x3 (fun r_10 => (Q r_10)))))))))
def wp_X8_heir (σ : St) (x1 : Int32) (x2 : Int32) (x3 : Int32) (QX : String → St → Prop) (Q : Int32 → Prop) : Prop :=
  wp_X8_checkNode σ x1 QX (wp_X8_checkReality σ x2 QX (lay (σ 0 8).toNatClampNeg = (1, 0) ∧ (vp_in x2 3 ∧ (wp_X4_zoneOf σ ((σ 0 8).toNatClampNeg + 1 + 8 + 4 * Int32.toNatClampNeg x2) x1 x3 (fun r_5 => ((¬ r_5 = (-1) → (lay (σ 0 8).toNatClampNeg = (1, 0) ∧ (wp_X1_nodesThatAre σ ((σ 0 8).toNatClampNeg) (nI 1) (fun r_9 => (wp_X4_heirOf σ ((σ 0 8).toNatClampNeg + 1 + 8 + 4 * Int32.toNatClampNeg x2) r_5 (r_9 &&& (((nI 1) <<< (x1 &&& 31)) ^^^ (-1))) (fun r_11 => (Q r_11))))))) ∧ (r_5 = (-1) → (Q (-1)))))))))
def wp_X8_key (σ : St) (x1 : Int32) (x2 : Int32) (QX : String → St → Prop) (Q : Int32 → Prop) : Prop :=
  wp_X8_checkKey σ x1 QX (wp_X8_checkWhat σ x2 (nI 2) QX ((¬ x2 = 0 → (lay (σ 0 8).toNatClampNeg = (1, 0) ∧ (vp_in x1 100 ∧ (Q (σ ((σ 0 8).toNatClampNeg + 8) (Int32.toNatClampNeg x1)))))) ∧ (x2 = 0 → (lay (σ 0 8).toNatClampNeg = (1, 0) ∧ (vp_in x1 100 ∧ (Q (σ ((σ 0 8).toNatClampNeg + 7) (Int32.toNatClampNeg x1))))))))
def wp_X8_point (σ : St) (x1 : Int32) (x2 : Int32) (x3 : Int32) (QX : String → St → Prop) (Q : Int32 → Prop) : Prop :=
  wp_X8_checkKey σ x1 QX (wp_X8_checkReality σ x2 QX (wp_X8_checkWhat σ x3 (nI 3) QX (wp_X1_pointX σ x1 x2 (fun r_4 => (wp_X1_pointY σ x1 x2 (fun r_6 => ((¬ x3 = (nI 2) → ((¬ x3 = 0 → (Q r_6)) ∧ (x3 = 0 → (Q r_4)))) ∧ (x3 = (nI 2) → (lay (σ 0 8).toNatClampNeg = (1, 0) ∧ (vp_in x2 3 ∧ (wp_X4_nodeAt σ ((σ 0 8).toNatClampNeg + 1 + 8 + 4 * Int32.toNatClampNeg x2) r_4 r_6 (fun r_12 => (Q r_12)))))))))))))
def wp_X8_checkUp (σ : St) (x1 : Int32) (QX : String → St → Prop) (Q : Prop) : Prop :=
  lay (σ 0 8).toNatClampNeg = (1, 0) ∧ (vp_in x1 10 ∧ (((σ ((σ 0 8).toNatClampNeg + 2) (Int32.toNatClampNeg x1)) = (nI 1) → (Q)) ∧ (¬ (σ ((σ 0 8).toNatClampNeg + 2) (Int32.toNatClampNeg x1)) = (nI 1) → (QX "java/lang/IllegalStateException" σ))))
def wp_X8_way (σ : St) (x1 : Int32) (x2 : Int32) (x3 : Int32) (x4 : Int32) (x5 : Int32) (QX : String → St → Prop) (Q : Int32 → St → Prop) : Prop :=
  wp_X8_checkNode σ x1 QX (wp_X8_checkReality σ x2 QX (wp_X8_checkCell σ x3 x4 QX (wp_X8_checkUp σ x1 QX (lay (σ 0 8).toNatClampNeg = (1, 0) ∧ (vp_in x2 3 ∧ (wp_X7_lookBeside σ ((σ 0 8).toNatClampNeg + 1 + 8 + 4 * Int32.toNatClampNeg x2) x2 (fun σ_7 => (wp_X7_lookFar σ_7 ((σ 0 8).toNatClampNeg + 1 + 8 + 4 * Int32.toNatClampNeg x2) x2 x3 x4 (fun σ_8 => (lay (σ_8 0 8).toNatClampNeg = (1, 0) ∧ (wp_X1_nodesThatAre σ_8 ((σ_8 0 8).toNatClampNeg) (nI 1) (fun r_10 => (wp_X7_follow σ_8 x1 ((nI 1) <<< (x2 &&& 31)) r_10 (fun σ_12 => ((¬ x5 = (-1) → (wp_X7_nodeOfWay σ_12 x5 (fun r_14 => (Q r_14 σ_12)))) ∧ (x5 = (-1) → (wp_X7_hopsOrNone σ_12 (fun r_16 => (Q r_16 σ_12)))))))))))))))))))
def wp_X8_delayOfWay_4 (σ : St) (Q : Int32 → Prop) (ih4 : Int32 → Int32 → Prop) (x1 : Int32) (x2 : Int32) : Prop :=
  ((σ 176 3) < x2 → (Q x1)) ∧ (¬ (σ 176 3) < x2 → (lay (σ 0 8).toNatClampNeg = (1, 0) ∧ (wp_X7_nodeOfWay σ (x2 - (nI 1)) (fun r_3 => (wp_X7_nodeOfWay σ x2 (fun r_5 => (wp_X1_apart σ ((σ 0 8).toNatClampNeg) r_3 r_5 (fun r_7 => (∀ x1_9 : Int32, x1_9 = x1 + r_7 → (∀ x2_10 : Int32, x2_10 = x2 + (nI 1) → (ih4 x1_9 x2_10)))))))))))
def wp_X8_delayOfWay (σ : St) (Q : Int32 → Prop) : Prop :=
  ∃ n9 : Nat, LP2 (wp_X8_delayOfWay_4 σ Q) n9 (nI 0) (nI 1)
def wp_X8_stretch_39 (σ : St) (x0 : Int32) (x1 : Int32) (x2 : Int32) (x3 : Int32) (Q : Int32 → Prop) : Prop :=
  (¬ x3 = 0 → ((x2 = 0 → (¬ x3 = 0 ∧ (Q (x1 / x3)))) ∧ (¬ x2 = 0 → (¬ x3 = 0 ∧ (Q (x0 / x3)))))) ∧ (x3 = 0 → (Q (nI 1)))
def wp_X8_stretch_8 (σ : St) (x0 : Int32) (x1 : Int32) (x2 : Int32) (Q : Int32 → Prop) (ih8 : Int32 → Int32 → Int32 → Prop) (x3 : Int32) (x4 : Int32) (x5 : Int32) : Prop :=
  ((nI 100) ≤ x5 → (wp_X8_stretch_39 σ x0 x1 x2 x3 Q)) ∧ (¬ (nI 100) ≤ x5 → ((x4 = 0 → (wp_X8_stretch_39 σ x0 x1 x2 x3 Q)) ∧ (¬ x4 = 0 → (¬ x4 = 0 ∧ (∀ x6_8 : Int32, x6_8 = x3 - x3 / x4 * x4 → (∀ x5_9 : Int32, x5_9 = x5 + (nI 1) → (ih8 x4 x6_8 x5_9)))))))
def wp_X8_stretch (σ : St) (x0 : Int32) (x1 : Int32) (x2 : Int32) (Q : Int32 → Prop) : Prop :=
  ∃ n9 : Nat, LP3 (wp_X8_stretch_8 σ x0 x1 x2 Q) n9 x0 x1 (nI 0)
def wp_X8_seek_206 (σ : St) (t0 : Int32) (t1 : Int32) (t2 : Int32) (Q : Int32 → St → Prop) (QX : String → St → Prop) : Prop :=
  wp_X8_stretch σ t0 t1 t2 (fun r_1 => (Q r_1 σ))
def wp_X8_seek_102 (σ : St) (x1 : Int32) (x2 : Int32) (x3 : Int32) (Q : Int32 → St → Prop) (QX : String → St → Prop) : Prop :=
  lay (σ 0 8).toNatClampNeg = (1, 0) ∧ (vp_in x2 100 ∧ (lay (σ 0 8).toNatClampNeg = (1, 0) ∧ (wp_X1_nodesThatAre σ ((σ 0 8).toNatClampNeg) (nI 1) (fun r_6 => (wp_X7_follow σ x1 (σ ((σ 0 8).toNatClampNeg + 8) (Int32.toNatClampNeg x2)) r_6 (fun σ_8 => ((x3 = nI 0 → (wp_X7_hopsOrNone σ_8 (fun r_11 => (Q r_11 σ_8)))) ∧ (¬ x3 = nI 0 → ((x3 = nI 1 → (wp_X8_delayOfWay σ_8 (fun r_14 => (Q r_14 σ_8)))) ∧ (¬ x3 = nI 1 → ((x3 = nI 2 → (wp_X7_lastNode σ_8 (fun r_17 => (Q r_17 σ_8)))) ∧ (¬ x3 = nI 2 → (wp_X8_delayOfWay σ_8 (fun r_19 => (lay (σ_8 0 8).toNatClampNeg = (1, 0) ∧ (wp_X7_lastNode σ_8 (fun r_22 => (wp_X1_apart σ_8 ((σ_8 0 8).toNatClampNeg) x1 r_22 (fun r_24 => ((¬ x3 = (nI 3) → (wp_X8_seek_206 σ_8 r_19 r_24 (nI 0) Q QX)) ∧ (x3 = (nI 3) → (wp_X8_seek_206 σ_8 r_19 r_24 (nI 1) Q QX))))))))))))))))))))))
def wp_X8_seek_21 (x1 : Int32) (x2 : Int32) (x3 : Int32) (Q : Int32 → St → Prop) (QX : String → St → Prop) (ih21 : St → Int32 → Prop) (σ : St) (x4 : Int32) : Prop :=
  lay (σ 0 8).toNatClampNeg = (1, 0) ∧ (((σ ((σ 0 8).toNatClampNeg) 9) ≤ x4 → (wp_X8_seek_102 σ x1 x2 x3 Q QX)) ∧ (¬ (σ ((σ 0 8).toNatClampNeg) 9) ≤ x4 → (lay (σ 0 8).toNatClampNeg = (1, 0) ∧ (wp_X1_isHeld σ ((σ 0 8).toNatClampNeg) x2 x4 (fun r_30 => ((r_30 = 0 → (∀ x4_33 : Int32, x4_33 = x4 + (nI 1) → (ih21 σ x4_33))) ∧ (¬ r_30 = 0 → (lay (σ 0 8).toNatClampNeg = (1, 0) ∧ (vp_in x4 3 ∧ (wp_X7_lookBeside σ ((σ 0 8).toNatClampNeg + 1 + 8 + 4 * Int32.toNatClampNeg x4) x4 (fun σ_36 => (lay (σ_36 0 8).toNatClampNeg = (1, 0) ∧ (vp_in x4 3 ∧ (wp_X1_pointX σ_36 x2 x4 (fun r_39 => (wp_X1_pointY σ_36 x2 x4 (fun r_41 => (wp_X7_lookFar σ_36 ((σ_36 0 8).toNatClampNeg + 1 + 8 + 4 * Int32.toNatClampNeg x4) x4 r_39 r_41 (fun σ_43 => (∀ x4_44 : Int32, x4_44 = x4 + (nI 1) → (ih21 σ_43 x4_44)))))))))))))))))))))
def wp_X8_seek (σ : St) (x1 : Int32) (x2 : Int32) (x3 : Int32) (QX : String → St → Prop) (Q : Int32 → St → Prop) : Prop :=
  wp_X8_checkNode σ x1 QX (wp_X8_checkKey σ x2 QX (wp_X8_checkWhat σ x3 (nI 5) QX (wp_X8_checkUp σ x1 QX (∃ n9 : Nat, LP2 (wp_X8_seek_21 x1 x2 x3 Q QX) n9 σ (nI 0)))))
def wp_X8_risk_8 (σ : St) (x1 : Int32) (Q : Int32 → Prop) (QX : String → St → Prop) (ih8 : Int32 → Int32 → Prop) (x2 : Int32) (x3 : Int32) : Prop :=
  ((nI 100) ≤ x3 → (Q x2)) ∧ (¬ (nI 100) ≤ x3 → (lay (σ 0 8).toNatClampNeg = (1, 0) ∧ (wp_X1_isHeldByNoneBut σ ((σ 0 8).toNatClampNeg) x3 x1 (fun r_3 => ((r_3 = 0 → (∀ x3_6 : Int32, x3_6 = x3 + (nI 1) → (ih8 x2 x3_6))) ∧ (¬ r_3 = 0 → (∀ x2_7 : Int32, x2_7 = x2 + (nI 1) → (∀ x3_8 : Int32, x3_8 = x3 + (nI 1) → (ih8 x2_7 x3_8)))))))))
def wp_X8_risk (σ : St) (x1 : Int32) (QX : String → St → Prop) (Q : Int32 → Prop) : Prop :=
  wp_X8_checkNode σ x1 QX (∃ n9 : Nat, LP2 (wp_X8_risk_8 σ x1 Q QX) n9 (nI 0) (nI 0))
def wp_X8_order (σ : St) (x1 : Int32) (x2 : Int32) (QX : String → St → Prop) (Q : Int32 → Prop) : Prop :=
  wp_X8_isPlace σ x1 x2 (fun r_1 => ((¬ r_1 = 0 → (lay (σ 0 8).toNatClampNeg = (1, 0) ∧ (wp_X1_orderOf σ ((σ 0 8).toNatClampNeg) x1 x2 (fun r_5 => (Q r_5))))) ∧ (r_1 = 0 → (QX "java/lang/IllegalArgumentException" σ))))
def wp_X8_reality (σ : St) (x1 : Int32) (x2 : Int32) (QX : String → St → Prop) (Q : Int32 → St → Prop) : Prop :=
  wp_X8_checkReality σ x1 QX (wp_X8_checkWhat σ x2 (nI 6) QX ((x2 = nI 0 → (lay (σ 0 8).toNatClampNeg = (1, 0) ∧ (vp_in x1 3 ∧ (wp_X4_zonesOfAll σ ((σ 0 8).toNatClampNeg + 1 + 8 + 4 * Int32.toNatClampNeg x1) (fun r_7 => (Q r_7 σ)))))) ∧ (¬ x2 = nI 0 → ((x2 = nI 1 → (lay (σ 0 8).toNatClampNeg = (1, 0) ∧ (vp_in x1 3 ∧ (lay (σ 0 8).toNatClampNeg = (1, 0) ∧ (wp_X1_nodesThatAre σ ((σ 0 8).toNatClampNeg) (nI 1) (fun r_13 => (wp_X4_evenOf σ ((σ 0 8).toNatClampNeg + 1 + 8 + 4 * Int32.toNatClampNeg x1) r_13 (fun r_15 => (Q r_15 σ))))))))) ∧ (¬ x2 = nI 1 → ((x2 = nI 2 → (wp_X8_hubOf σ x1 (fun r_18 σ_19 => (Q r_18 σ_19)))) ∧ (¬ x2 = nI 2 → ((x2 = nI 3 → (lay (σ 0 8).toNatClampNeg = (1, 0) ∧ (vp_in x1 3 ∧ (lay (σ 0 8).toNatClampNeg = (1, 0) ∧ (wp_X1_nodesThatAre σ ((σ 0 8).toNatClampNeg) (nI 1) (fun r_24 => (wp_X5_walkAll σ ((σ 0 8).toNatClampNeg + 1 + 8 + 4 * Int32.toNatClampNeg x1) x1 r_24 (nI 0) (fun σ_26 => (Q (σ_26 180 3) σ_26))))))))) ∧ (¬ x2 = nI 3 → ((x2 = nI 4 → (lay (σ 0 8).toNatClampNeg = (1, 0) ∧ (vp_in x1 3 ∧ (wp_X4_zonesOfTheScattered σ ((σ 0 8).toNatClampNeg + 1 + 8 + 4 * Int32.toNatClampNeg x1) (fun r_30 => (Q r_30 σ)))))) ∧ (¬ x2 = nI 4 → (lay (σ 0 8).toNatClampNeg = (1, 0) ∧ (wp_X1_copiesHeldIn σ ((σ 0 8).toNatClampNeg) x1 (fun r_33 => (Q r_33 σ)))))))))))))))
def wp_X8_ways_60 (σ : St) (x2 : Int32) (b1 : Nat) (t2 : Int32) (t3 : Int32) (t4 : Int32) (Q : Int32 → St → Prop) (QX : String → St → Prop) : Prop :=
  wp_X5_walkAll σ b1 t2 t3 t4 (fun σ_1 => ((¬ x2 = (nI 2) → ((¬ x2 = 0 → (Q (σ_1 180 2) σ_1)) ∧ (x2 = 0 → (Q (σ_1 180 1) σ_1)))) ∧ (x2 = (nI 2) → (Q (σ_1 180 4) σ_1))))
def wp_X8_ways (σ : St) (x1 : Int32) (x2 : Int32) (QX : String → St → Prop) (Q : Int32 → St → Prop) : Prop :=
  wp_X8_checkReality σ x1 QX (wp_X8_checkWhat σ x2 (nI 4) QX (lay (σ 0 8).toNatClampNeg = (1, 0) ∧ (vp_in x1 3 ∧ (lay (σ 0 8).toNatClampNeg = (1, 0) ∧ (wp_X1_nodesThatAre σ ((σ 0 8).toNatClampNeg) (nI 1) (fun r_9 => ((¬ x2 = (nI 3) → ((¬ x2 = (nI 2) → (wp_X8_ways_60 σ x2 ((σ 0 8).toNatClampNeg + 1 + 8 + 4 * Int32.toNatClampNeg x1) x1 r_9 (nI 0) Q QX)) ∧ (x2 = (nI 2) → (wp_X8_ways_60 σ x2 ((σ 0 8).toNatClampNeg + 1 + 8 + 4 * Int32.toNatClampNeg x1) x1 r_9 (nI 1) Q QX)))) ∧ (x2 = (nI 3) → (wp_X4_firstZoneOfAny σ ((σ 0 8).toNatClampNeg + 1 + 8 + 4 * Int32.toNatClampNeg x1) r_9 (fun r_13 => (Q r_13 σ)))))))))))
def wp_X8_friends_10 (x1 : Int32) (Q : Int32 → St → Prop) (QX : String → St → Prop) (ih10 : St → Int32 → Int32 → Prop) (σ : St) (x2 : Int32) (x3 : Int32) : Prop :=
  lay (σ 0 8).toNatClampNeg = (1, 0) ∧ (((σ ((σ 0 8).toNatClampNeg) 9) ≤ x3 → (Q x2 σ)) ∧ (¬ (σ ((σ 0 8).toNatClampNeg) 9) ≤ x3 → (lay (σ 0 8).toNatClampNeg = (1, 0) ∧ (vp_in x3 3 ∧ (wp_X7_lookBeside σ ((σ 0 8).toNatClampNeg + 1 + 8 + 4 * Int32.toNatClampNeg x3) x3 (fun σ_5 => (wp_X7_besideIn σ_5 x3 x1 (fun r_6 => (∀ x2_8 : Int32, x2_8 = x2 &&& r_6 → (∀ x3_9 : Int32, x3_9 = x3 + (nI 1) → (ih10 σ_5 x2_8 x3_9)))))))))))
def wp_X8_friends (σ : St) (x1 : Int32) (QX : String → St → Prop) (Q : Int32 → St → Prop) : Prop :=
  wp_X8_checkNode σ x1 QX (∃ n9 : Nat, LP3 (wp_X8_friends_10 x1 Q QX) n9 σ (nI 1023) (nI 0))
def wp_X8_image (σ : St) (Q : St → Prop) : Prop :=
  lay (σ 0 8).toNatClampNeg = (1, 0) ∧ (wp_X1_copyFrom σ 181 ((σ 0 8).toNatClampNeg) (fun σ_2 => (∀ σ_3 : St, σ_3 = su σ_2 0 7 (nI 1) → (Q σ_3))))
def wp_X8_back (σ : St) (Q : Int32 → St → Prop) : Prop :=
  (¬ (σ 0 7) = 0 → (lay (σ 0 8).toNatClampNeg = (1, 0) ∧ (wp_X1_copyFrom σ ((σ 0 8).toNatClampNeg) 181 (fun σ_3 => (wp_X2_forget σ_3 (fun σ_4 => (Q (nI 1) σ_4))))))) ∧ ((σ 0 7) = 0 → (Q (nI 0) σ))
def wp_X8_count (σ : St) (x1 : Int32) (Q : Int32 → Prop) : Prop :=
  (x1 = nI 0 → (lay (σ 0 8).toNatClampNeg = (1, 0) ∧ (Q (σ ((σ 0 8).toNatClampNeg) 9)))) ∧ (¬ x1 = nI 0 → ((x1 = nI 1 → (lay (σ 0 8).toNatClampNeg = (1, 0) ∧ (wp_X1_nodesThatAre σ ((σ 0 8).toNatClampNeg) (nI 1) (fun r_6 => (Q r_6))))) ∧ (¬ x1 = nI 1 → ((x1 = nI 2 → (lay (σ 0 8).toNatClampNeg = (1, 0) ∧ (wp_X1_nodesThatAre σ ((σ 0 8).toNatClampNeg) (nI 2) (fun r_10 => (Q r_10))))) ∧ (¬ x1 = nI 2 → ((x1 = nI 3 → (lay (σ 0 8).toNatClampNeg = (1, 0) ∧ (Q (σ ((σ 0 8).toNatClampNeg) 8)))) ∧ (¬ x1 = nI 3 → ((x1 = nI 4 → (lay (σ 0 8).toNatClampNeg = (1, 0) ∧ (wp_X1_keysStored σ ((σ 0 8).toNatClampNeg) (fun r_16 => (Q r_16))))) ∧ (¬ x1 = nI 4 → ((x1 = nI 5 → (lay (σ 0 8).toNatClampNeg = (1, 0) ∧ (wp_X1_keysSafe σ ((σ 0 8).toNatClampNeg) (fun r_20 => (Q r_20))))) ∧ (¬ x1 = nI 5 → ((x1 = nI 6 → (lay (σ 0 8).toNatClampNeg = (1, 0) ∧ (wp_X1_copiesLost σ ((σ 0 8).toNatClampNeg) (fun r_24 => (Q r_24))))) ∧ (¬ x1 = nI 6 → ((x1 = nI 7 → (Q (σ 6 2))) ∧ (¬ x1 = nI 7 → (Q (-1)))))))))))))))))
def wp_X9_thrown (σ : St) (Q : Int32 → Prop) : Prop :=
  Q (σ 244 0)
def wp_X9_isIn (σ : St) (x0 : Int32) (x1 : Int32) (x2 : Int32) (Q : Int32 → Prop) : Prop :=
  (x0 < x1 → (Q (nI 0))) ∧ (¬ x0 < x1 → ((x2 < x0 → (Q (nI 0))) ∧ (¬ x2 < x0 → (Q (nI 1)))))
def wp_X9_apart (σ : St) (x0 : Int32) (x1 : Int32) (Q : Int32 → Prop) : Prop :=
  (x1 ≤ x0 → (Q (x0 - x1))) ∧ (¬ x1 ≤ x0 → (Q (x1 - x0)))
def wp_X9_lesser (σ : St) (x0 : Int32) (x1 : Int32) (Q : Int32 → Prop) : Prop :=
  (x1 ≤ x0 → (Q x1)) ∧ (¬ x1 ≤ x0 → (Q x0))
def wp_X9_isState (σ : St) (x1 : Int32) (x2 : Int32) (Q : Int32 → Prop) : Prop :=
  vp_in ((nI 0) + x1) 6682 ∧ ((¬ (σ 245 (Int32.toNatClampNeg ((nI 0) + x1))) = x2 → (Q (nI 0))) ∧ ((σ 245 (Int32.toNatClampNeg ((nI 0) + x1))) = x2 → (Q (nI 1))))
def wp_X9_countOf_4 (σ : St) (x1 : Int32) (Q : Int32 → Prop) (ih4 : Int32 → Int32 → Prop) (x2 : Int32) (x3 : Int32) : Prop :=
  ((nI 10) ≤ x3 → (Q x2)) ∧ (¬ (nI 10) ≤ x3 → (wp_X9_isState σ x3 x1 (fun r_2 => ((r_2 = 0 → (∀ x2_5 : Int32, x2_5 = x2 + (nI 0) → (∀ x3_6 : Int32, x3_6 = x3 + (nI 1) → (ih4 x2_5 x3_6)))) ∧ (¬ r_2 = 0 → (∀ x2_7 : Int32, x2_7 = x2 + (nI 1) → (∀ x3_8 : Int32, x3_8 = x3 + (nI 1) → (ih4 x2_7 x3_8))))))))
def wp_X9_countOf (σ : St) (x1 : Int32) (Q : Int32 → Prop) : Prop :=
  ∃ n9 : Nat, LP2 (wp_X9_countOf_4 σ x1 Q) n9 (nI 0) (nI 0)
def wp_X9_bitsOf_4 (σ : St) (x1 : Int32) (Q : Int32 → Prop) (ih4 : Int32 → Int32 → Prop) (x2 : Int32) (x3 : Int32) : Prop :=
  ((nI 10) ≤ x3 → (Q x2)) ∧ (¬ (nI 10) ≤ x3 → (wp_X9_isState σ x3 x1 (fun r_2 => ((r_2 = 0 → (∀ x2_5 : Int32, x2_5 = x2 ||| (nI 0) → (∀ x3_6 : Int32, x3_6 = x3 + (nI 1) → (ih4 x2_5 x3_6)))) ∧ (¬ r_2 = 0 → (∀ x2_7 : Int32, x2_7 = x2 ||| ((nI 1) <<< (x3 &&& 31)) → (∀ x3_8 : Int32, x3_8 = x3 + (nI 1) → (ih4 x2_7 x3_8))))))))
def wp_X9_bitsOf (σ : St) (x1 : Int32) (Q : Int32 → Prop) : Prop :=
  ∃ n9 : Nat, LP2 (wp_X9_bitsOf_4 σ x1 Q) n9 (nI 0) (nI 0)
def wp_X9_depthOf_2 (σ : St) (x0 : Int32) (Q : Int32 → Prop) (ih2 : Int32 → Prop) (x1 : Int32) : Prop :=
  ((x0 >>> ((x1 + (nI 1)) &&& 31)) ≤ 0 → (Q x1)) ∧ (¬ (x0 >>> ((x1 + (nI 1)) &&& 31)) ≤ 0 → (∀ x1_2 : Int32, x1_2 = x1 + (nI 1) → (ih2 x1_2)))
def wp_X9_depthOf (σ : St) (x0 : Int32) (Q : Int32 → Prop) : Prop :=
  ∃ n9 : Nat, LP1 (wp_X9_depthOf_2 σ x0 Q) n9 (nI 0)
def wp_X9_boxes_29 (x1 : Int32) (Q : St → Prop) (ih29 : St → Int32 → Prop) (σ : St) (x2 : Int32) : Prop :=
  (x2 < 0 → (Q σ)) ∧ (¬ x2 < 0 → (∀ x3_2 : Int32, x3_2 = (x1 >>> (x2 &&& 31)) &&& (nI 1) → (wp_X9_depthOf σ x1 (fun r_3 => ((¬ (((r_3 - (nI 1)) - x2) - ((r_3 - (nI 1)) - x2) / (nI 2) * (nI 2)) = 0 → (∀ σ_6 : St, σ_6 = su σ 244 16 ((σ 244 16) / (nI 2)) → (∀ σ_7 : St, σ_7 = su σ_6 244 14 ((σ_6 244 14) + (x3_2 * (σ_6 244 16))) → (∀ x2_8 : Int32, x2_8 = x2 + (-1) → (ih29 σ_7 x2_8))))) ∧ ((((r_3 - (nI 1)) - x2) - ((r_3 - (nI 1)) - x2) / (nI 2) * (nI 2)) = 0 → (∀ σ_9 : St, σ_9 = su σ 244 15 ((σ 244 15) / (nI 2)) → (∀ σ_10 : St, σ_10 = su σ_9 244 13 ((σ_9 244 13) + (x3_2 * (σ_9 244 15))) → (∀ x2_11 : Int32, x2_11 = x2 + (-1) → (ih29 σ_10 x2_11))))))))))
def wp_X9_boxes (σ : St) (x1 : Int32) (Q : St → Prop) : Prop :=
  ∀ σ_12 : St, σ_12 = su σ 244 13 (nI 0) → (∀ σ_13 : St, σ_13 = su σ_12 244 14 (nI 0) → (∀ σ_14 : St, σ_14 = su σ_13 244 15 (nI 32) → (∀ σ_15 : St, σ_15 = su σ_14 244 16 (nI 32) → (wp_X9_depthOf σ_15 x1 (fun r_16 => (∀ x2_18 : Int32, x2_18 = r_16 - (nI 1) → (∃ n9 : Nat, LP2 (wp_X9_boxes_29 x1 Q) n9 σ_15 x2_18)))))))
def wp_X9_ownerOf (σ : St) (x1 : Int32) (x2 : Int32) (Q : Int32 → Prop) : Prop :=
  vp_in (((nI 538) + ((nI 2048) * x1)) + x2) 6682 ∧ (Q ((σ 245 (Int32.toNatClampNeg (((nI 538) + ((nI 2048) * x1)) + x2))) - (nI 1)))
def wp_X9_owns (σ : St) (x1 : Int32) (x2 : Int32) (x3 : Int32) (Q : St → Prop) : Prop :=
  vp_in (((nI 538) + ((nI 2048) * x1)) + x2) 6682 ∧ (∀ σ_2 : St, σ_2 = su σ 245 (Int32.toNatClampNeg (((nI 538) + ((nI 2048) * x1)) + x2)) (x3 + (nI 1)) → (Q σ_2))
def wp_X9_isInBox (σ : St) (x1 : Int32) (x2 : Int32) (Q : Int32 → Prop) : Prop :=
  wp_X9_isIn σ x1 (σ 244 13) (((σ 244 13) + (σ 244 15)) - (nI 1)) (fun r_1 => ((r_1 = 0 → (Q (nI 0))) ∧ (¬ r_1 = 0 → (wp_X9_isIn σ x2 (σ 244 14) (((σ 244 14) + (σ 244 16)) - (nI 1)) (fun r_4 => ((r_4 = 0 → (Q (nI 0))) ∧ (¬ r_4 = 0 → (Q (nI 1)))))))))
def wp_X9_halfAt (σ : St) (x0 : Int32) (x1 : Int32) (Q : Int32 → Prop) : Prop :=
  Q (((nI 2) * x0) + x1)
def wp_X9_halfWith (σ : St) (x1 : Int32) (x2 : Int32) (x3 : Int32) (Q : Int32 → St → Prop) : Prop :=
  wp_X9_halfAt σ x1 (nI 0) (fun r_1 => (wp_X9_boxes σ r_1 (fun σ_3 => (wp_X9_isInBox σ_3 x2 x3 (fun r_4 => ((r_4 = 0 → (wp_X9_halfAt σ_3 x1 (nI 1) (fun r_7 => (Q r_7 σ_3)))) ∧ (¬ r_4 = 0 → (wp_X9_halfAt σ_3 x1 (nI 0) (fun r_9 => (Q r_9 σ_3))))))))))
def wp_X9_zoneAt_15 (x1 : Int32) (x2 : Int32) (x3 : Int32) (Q : Int32 → St → Prop) (ih15 : St → Int32 → Prop) (σ : St) (x4 : Int32) : Prop :=
  wp_X9_ownerOf σ x1 x4 (fun r_1 => ((¬ r_1 = (-1) → (Q x4 σ)) ∧ (r_1 = (-1) → (wp_X9_halfWith σ x4 x2 x3 (fun r_4 σ_5 => (ih15 σ_5 r_4))))))
def wp_X9_zoneAt (σ : St) (x1 : Int32) (x2 : Int32) (x3 : Int32) (Q : Int32 → St → Prop) : Prop :=
  wp_X9_countOf σ (nI 0) (fun r_6 => ((¬ r_6 = (nI 10) → (∃ n9 : Nat, LP2 (wp_X9_zoneAt_15 x1 x2 x3 Q) n9 σ (nI 1))) ∧ (r_6 = (nI 10) → (Q (-1) σ))))
def wp_X9_nodeAt (σ : St) (x1 : Int32) (x2 : Int32) (x3 : Int32) (Q : Int32 → St → Prop) : Prop :=
  wp_X9_zoneAt σ x1 x2 x3 (fun r_1 σ_2 => ((¬ r_1 = (-1) → (wp_X9_ownerOf σ_2 x1 r_1 (fun r_4 => (Q r_4 σ_2)))) ∧ (r_1 = (-1) → (Q (-1) σ_2))))
def wp_X9_merges_2 (x1 : Int32) (Q : St → Prop) (ih2 : St → Int32 → Prop) (σ : St) (x3 : Int32) : Prop :=
  (x3 ≤ (nI 1) → (Q σ)) ∧ (¬ x3 ≤ (nI 1) → (wp_X9_ownerOf σ x1 x3 (fun r_2 => ((r_2 = (-1) → (Q σ)) ∧ (¬ r_2 = (-1) → (wp_X9_ownerOf σ x1 x3 (fun r_5 => (wp_X9_ownerOf σ x1 (x3 ^^^ (nI 1)) (fun r_7 => ((¬ r_5 = r_7 → (Q σ)) ∧ (r_5 = r_7 → (wp_X9_ownerOf σ x1 x3 (fun r_10 => (wp_X9_owns σ x1 x3 (-1) (fun σ_12 => (wp_X9_owns σ_12 x1 (x3 ^^^ (nI 1)) (-1) (fun σ_13 => (∀ x3_14 : Int32, x3_14 = x3 / (nI 2) → (wp_X9_owns σ_13 x1 x3_14 r_10 (fun σ_15 => (ih2 σ_15 x3_14)))))))))))))))))))))
def wp_X9_merges (σ : St) (x1 : Int32) (x2 : Int32) (Q : St → Prop) : Prop :=
  ∃ n9 : Nat, LP2 (wp_X9_merges_2 x1 Q) n9 σ x2
def wp_X9_gives (σ : St) (x1 : Int32) (x2 : Int32) (x3 : Int32) (Q : St → Prop) : Prop :=
  wp_X9_owns σ x1 x2 x3 (fun σ_1 => (wp_X9_merges σ_1 x1 x2 (fun σ_2 => (Q σ_2))))
def wp_X9_laysList_7 (x1 : Int32) (Q : St → Prop) (ih7 : St → Int32 → Prop) (σ : St) (x2 : Int32) : Prop :=
  ((nI 2048) ≤ x2 → (Q σ)) ∧ (¬ (nI 2048) ≤ x2 → (wp_X9_ownerOf σ x1 x2 (fun r_2 => ((¬ r_2 = (-1) → (wp_X9_boxes σ x2 (fun σ_5 => (vp_in (σ_5 244 23) 2048 ∧ (∀ σ_7 : St, σ_7 = su σ_5 250 (Int32.toNatClampNeg (σ_5 244 23)) x2 → (wp_X9_ownerOf σ_7 x1 x2 (fun r_8 => (vp_in (σ_7 244 23) 2048 ∧ (∀ σ_11 : St, σ_11 = su σ_7 251 (Int32.toNatClampNeg (σ_7 244 23)) r_8 → (vp_in (σ_11 244 23) 2048 ∧ (∀ σ_13 : St, σ_13 = su σ_11 252 (Int32.toNatClampNeg (σ_11 244 23)) (σ_11 244 13) → (vp_in (σ_13 244 23) 2048 ∧ (∀ σ_15 : St, σ_15 = su σ_13 253 (Int32.toNatClampNeg (σ_13 244 23)) (σ_13 244 14) → (vp_in (σ_15 244 23) 2048 ∧ (∀ σ_17 : St, σ_17 = su σ_15 254 (Int32.toNatClampNeg (σ_15 244 23)) (σ_15 244 15) → (vp_in (σ_17 244 23) 2048 ∧ (∀ σ_19 : St, σ_19 = su σ_17 255 (Int32.toNatClampNeg (σ_17 244 23)) (σ_17 244 16) → (∀ σ_20 : St, σ_20 = su σ_19 244 23 ((σ_19 244 23) + (nI 1)) → (∀ x2_21 : Int32, x2_21 = x2 + (nI 1) → (ih7 σ_20 x2_21)))))))))))))))))))) ∧ (r_2 = (-1) → (∀ x2_22 : Int32, x2_22 = x2 + (nI 1) → (ih7 σ x2_22)))))))
def wp_X9_laysList (σ : St) (x1 : Int32) (Q : St → Prop) : Prop :=
  ∀ σ_23 : St, σ_23 = su σ 244 23 (nI 0) → (∃ n9 : Nat, LP2 (wp_X9_laysList_7 x1 Q) n9 σ_23 (nI 1))
def wp_X9_meet (σ : St) (x0 : Int32) (x1 : Int32) (x2 : Int32) (x3 : Int32) (Q : Int32 → Prop) : Prop :=
  ((x2 + x3) ≤ x0 → (Q (nI 0))) ∧ (¬ (x2 + x3) ≤ x0 → (((x0 + x1) ≤ x2 → (Q (nI 0))) ∧ (¬ (x0 + x1) ≤ x2 → (Q (nI 1)))))
def wp_X9_touch (σ : St) (x0 : Int32) (x1 : Int32) (x2 : Int32) (x3 : Int32) (Q : Int32 → Prop) : Prop :=
  (((x0 + x1) - (x0 + x1) / (nI 32) * (nI 32)) = x2 → (Q (nI 1))) ∧ (¬ ((x0 + x1) - (x0 + x1) / (nI 32) * (nI 32)) = x2 → ((¬ ((x2 + x3) - (x2 + x3) / (nI 32) * (nI 32)) = x0 → (Q (nI 0))) ∧ (((x2 + x3) - (x2 + x3) / (nI 32) * (nI 32)) = x0 → (Q (nI 1)))))
def wp_X9_areBeside_131 (σ : St) (x1 : Int32) (x2 : Int32) (x3 : Int32) (t0 : Int32) (Q : Int32 → Prop) : Prop :=
  (x1 = x2 → (Q (nI 0))) ∧ (¬ x1 = x2 → ((¬ x3 = 0 → (Q (nI 1))) ∧ (x3 = 0 → ((t0 = 0 → (Q (nI 0))) ∧ (¬ t0 = 0 → (Q (nI 1)))))))
def wp_X9_areBeside_130 (σ : St) (x1 : Int32) (x2 : Int32) (x3 : Int32) (Q : Int32 → Prop) : Prop :=
  wp_X9_areBeside_131 σ x1 x2 x3 (nI 0) Q
def wp_X9_areBeside_65 (σ : St) (x1 : Int32) (x2 : Int32) (t0 : Int32) (Q : Int32 → Prop) : Prop :=
  vp_in x1 2048 ∧ (vp_in x1 2048 ∧ (vp_in x2 2048 ∧ (vp_in x2 2048 ∧ (wp_X9_touch σ (σ 253 (Int32.toNatClampNeg x1)) (σ 255 (Int32.toNatClampNeg x1)) (σ 253 (Int32.toNatClampNeg x2)) (σ 255 (Int32.toNatClampNeg x2)) (fun r_8 => ((r_8 = 0 → (wp_X9_areBeside_130 σ x1 x2 t0 Q)) ∧ (¬ r_8 = 0 → (vp_in x1 2048 ∧ (vp_in x1 2048 ∧ (vp_in x2 2048 ∧ (vp_in x2 2048 ∧ (wp_X9_meet σ (σ 252 (Int32.toNatClampNeg x1)) (σ 254 (Int32.toNatClampNeg x1)) (σ 252 (Int32.toNatClampNeg x2)) (σ 254 (Int32.toNatClampNeg x2)) (fun r_15 => ((r_15 = 0 → (wp_X9_areBeside_130 σ x1 x2 t0 Q)) ∧ (¬ r_15 = 0 → (wp_X9_areBeside_131 σ x1 x2 t0 (nI 1) Q))))))))))))))))
def wp_X9_areBeside_64 (σ : St) (x1 : Int32) (x2 : Int32) (Q : Int32 → Prop) : Prop :=
  wp_X9_areBeside_65 σ x1 x2 (nI 0) Q
def wp_X9_areBeside (σ : St) (x1 : Int32) (x2 : Int32) (Q : Int32 → Prop) : Prop :=
  vp_in x1 2048 ∧ (vp_in x1 2048 ∧ (vp_in x2 2048 ∧ (vp_in x2 2048 ∧ (wp_X9_touch σ (σ 252 (Int32.toNatClampNeg x1)) (σ 254 (Int32.toNatClampNeg x1)) (σ 252 (Int32.toNatClampNeg x2)) (σ 254 (Int32.toNatClampNeg x2)) (fun r_22 => ((r_22 = 0 → (wp_X9_areBeside_64 σ x1 x2 Q)) ∧ (¬ r_22 = 0 → (vp_in x1 2048 ∧ (vp_in x1 2048 ∧ (vp_in x2 2048 ∧ (vp_in x2 2048 ∧ (wp_X9_meet σ (σ 253 (Int32.toNatClampNeg x1)) (σ 255 (Int32.toNatClampNeg x1)) (σ 253 (Int32.toNatClampNeg x2)) (σ 255 (Int32.toNatClampNeg x2)) (fun r_29 => ((r_29 = 0 → (wp_X9_areBeside_64 σ x1 x2 Q)) ∧ (¬ r_29 = 0 → (wp_X9_areBeside_65 σ x1 x2 (nI 1) Q))))))))))))))))
def wp_X9_besideZone_4 (σ : St) (x1 : Int32) (Q : Int32 → Prop) (ih4 : Int32 → Int32 → Prop) (x2 : Int32) (x3 : Int32) : Prop :=
  ((σ 244 23) ≤ x3 → (Q x2)) ∧ (¬ (σ 244 23) ≤ x3 → (wp_X9_areBeside σ x1 x3 (fun r_2 => ((r_2 = 0 → (∀ x2_5 : Int32, x2_5 = x2 ||| (nI 0) → (∀ x3_6 : Int32, x3_6 = x3 + (nI 1) → (ih4 x2_5 x3_6)))) ∧ (¬ r_2 = 0 → (vp_in x3 2048 ∧ (∀ x2_8 : Int32, x2_8 = x2 ||| ((nI 1) <<< ((σ 251 (Int32.toNatClampNeg x3)) &&& 31)) → (∀ x3_9 : Int32, x3_9 = x3 + (nI 1) → (ih4 x2_8 x3_9)))))))))
def wp_X9_besideZone (σ : St) (x1 : Int32) (Q : Int32 → Prop) : Prop :=
  ∃ n9 : Nat, LP2 (wp_X9_besideZone_4 σ x1 Q) n9 (nI 0) (nI 0)
def wp_X9_besideNode_40 (σ : St) (x1 : Int32) (x2 : Int32) (Q : Int32 → Prop) : Prop :=
  Q (x2 &&& (((nI 1) <<< (x1 &&& 31)) ^^^ (-1)))
def wp_X9_besideNode_4 (σ : St) (x1 : Int32) (Q : Int32 → Prop) (ih4 : Int32 → Int32 → Prop) (x2 : Int32) (x3 : Int32) : Prop :=
  ((σ 244 23) ≤ x3 → (wp_X9_besideNode_40 σ x1 x2 Q)) ∧ (¬ (σ 244 23) ≤ x3 → (vp_in x3 2048 ∧ ((¬ (σ 251 (Int32.toNatClampNeg x3)) = x1 → (∀ x2_4 : Int32, x2_4 = x2 ||| (nI 0) → (∀ x3_5 : Int32, x3_5 = x3 + (nI 1) → (ih4 x2_4 x3_5)))) ∧ ((σ 251 (Int32.toNatClampNeg x3)) = x1 → (wp_X9_besideZone σ x3 (fun r_6 => (∀ x2_8 : Int32, x2_8 = x2 ||| r_6 → (∀ x3_9 : Int32, x3_9 = x3 + (nI 1) → (ih4 x2_8 x3_9)))))))))
def wp_X9_besideNode (σ : St) (x1 : Int32) (Q : Int32 → Prop) : Prop :=
  ∃ n9 : Nat, LP2 (wp_X9_besideNode_4 σ x1 Q) n9 (nI 0) (nI 0)
def wp_X9_volumeOf_4 (σ : St) (x1 : Int32) (Q : Int32 → Prop) (ih4 : Int32 → Int32 → Prop) (x2 : Int32) (x3 : Int32) : Prop :=
  ((σ 244 23) ≤ x3 → (Q x2)) ∧ (¬ (σ 244 23) ≤ x3 → (vp_in x3 2048 ∧ ((¬ (σ 251 (Int32.toNatClampNeg x3)) = x1 → (∀ x2_4 : Int32, x2_4 = x2 + (nI 0) → (∀ x3_5 : Int32, x3_5 = x3 + (nI 1) → (ih4 x2_4 x3_5)))) ∧ ((σ 251 (Int32.toNatClampNeg x3)) = x1 → (vp_in x3 2048 ∧ (vp_in x3 2048 ∧ (∀ x2_8 : Int32, x2_8 = x2 + ((σ 254 (Int32.toNatClampNeg x3)) * (σ 255 (Int32.toNatClampNeg x3))) → (∀ x3_9 : Int32, x3_9 = x3 + (nI 1) → (ih4 x2_8 x3_9)))))))))
def wp_X9_volumeOf (σ : St) (x1 : Int32) (Q : Int32 → Prop) : Prop :=
  ∃ n9 : Nat, LP2 (wp_X9_volumeOf_4 σ x1 Q) n9 (nI 0) (nI 0)
def wp_X9_zonesOf_4 (σ : St) (x1 : Int32) (Q : Int32 → Prop) (ih4 : Int32 → Int32 → Prop) (x2 : Int32) (x3 : Int32) : Prop :=
  ((σ 244 23) ≤ x3 → (Q x2)) ∧ (¬ (σ 244 23) ≤ x3 → (vp_in x3 2048 ∧ ((¬ (σ 251 (Int32.toNatClampNeg x3)) = x1 → (∀ x2_4 : Int32, x2_4 = x2 + (nI 0) → (∀ x3_5 : Int32, x3_5 = x3 + (nI 1) → (ih4 x2_4 x3_5)))) ∧ ((σ 251 (Int32.toNatClampNeg x3)) = x1 → (∀ x2_6 : Int32, x2_6 = x2 + (nI 1) → (∀ x3_7 : Int32, x3_7 = x3 + (nI 1) → (ih4 x2_6 x3_7)))))))
def wp_X9_zonesOf (σ : St) (x1 : Int32) (Q : Int32 → Prop) : Prop :=
  ∃ n9 : Nat, LP2 (wp_X9_zonesOf_4 σ x1 Q) n9 (nI 0) (nI 0)
def wp_X9_placeInList_2 (σ : St) (x1 : Int32) (Q : Int32 → Prop) (ih2 : Int32 → Prop) (x2 : Int32) : Prop :=
  ((σ 244 23) ≤ x2 → (Q (-1))) ∧ (¬ (σ 244 23) ≤ x2 → (vp_in x2 2048 ∧ ((¬ (σ 250 (Int32.toNatClampNeg x2)) = x1 → (∀ x2_4 : Int32, x2_4 = x2 + (nI 1) → (ih2 x2_4))) ∧ ((σ 250 (Int32.toNatClampNeg x2)) = x1 → (Q x2)))))
def wp_X9_placeInList (σ : St) (x1 : Int32) (Q : Int32 → Prop) : Prop :=
  ∃ n9 : Nat, LP1 (wp_X9_placeInList_2 σ x1 Q) n9 (nI 0)
def wp_X9_leastOf_4 (σ : St) (x1 : Int32) (Q : Int32 → Prop) (ih4 : Int32 → Int32 → Prop) (x2 : Int32) (x3 : Int32) : Prop :=
  ((nI 10) ≤ x3 → (Q x2)) ∧ (¬ (nI 10) ≤ x3 → ((¬ ((x1 >>> (x3 &&& 31)) &&& (nI 1)) = 0 → ((x2 = (-1) → (∀ x3_4 : Int32, x3_4 = x3 + (nI 1) → (ih4 x3 x3_4))) ∧ (¬ x2 = (-1) → (wp_X9_volumeOf σ x3 (fun r_5 => (wp_X9_volumeOf σ x2 (fun r_7 => ((r_7 ≤ r_5 → (∀ x3_10 : Int32, x3_10 = x3 + (nI 1) → (ih4 x2 x3_10))) ∧ (¬ r_7 ≤ r_5 → (∀ x3_11 : Int32, x3_11 = x3 + (nI 1) → (ih4 x3 x3_11))))))))))) ∧ (((x1 >>> (x3 &&& 31)) &&& (nI 1)) = 0 → (∀ x3_12 : Int32, x3_12 = x3 + (nI 1) → (ih4 x2 x3_12)))))
def wp_X9_leastOf (σ : St) (x1 : Int32) (Q : Int32 → Prop) : Prop :=
  ∃ n9 : Nat, LP2 (wp_X9_leastOf_4 σ x1 Q) n9 (-1) (nI 0)
def wp_X9_heirOf_57 (σ : St) (x2 : Int32) (x4 : Int32) (Q : Int32 → St → Prop) : Prop :=
  wp_X9_placeInList σ x2 (fun r_1 => (wp_X9_besideZone σ r_1 (fun r_3 => (wp_X9_leastOf σ (r_3 &&& x4) (fun r_5 => ((r_5 = (-1) → (wp_X9_leastOf σ x4 (fun r_8 => (Q r_8 σ)))) ∧ (¬ r_5 = (-1) → (Q r_5 σ))))))))
def wp_X9_heirOf_35 (σ : St) (x2 : Int32) (x4 : Int32) (t0 : Int32) (Q : Int32 → St → Prop) : Prop :=
  (t0 = (-1) → (wp_X9_heirOf_57 σ x2 x4 Q)) ∧ (¬ t0 = (-1) → ((¬ ((x4 >>> (t0 &&& 31)) &&& (nI 1)) = (nI 1) → (wp_X9_heirOf_57 σ x2 x4 Q)) ∧ (((x4 >>> (t0 &&& 31)) &&& (nI 1)) = (nI 1) → (Q t0 σ))))
def wp_X9_heirOf (σ : St) (x1 : Int32) (x2 : Int32) (x3 : Int32) (Q : Int32 → St → Prop) : Prop :=
  wp_X9_laysList σ x1 (fun σ_12 => (wp_X9_bitsOf σ_12 (nI 1) (fun r_13 => (∀ x4_15 : Int32, x4_15 = r_13 &&& (((nI 1) <<< (x3 &&& 31)) ^^^ (-1)) → ((x2 ≤ (nI 1) → (wp_X9_heirOf_35 σ_12 x2 x4_15 (-1) Q)) ∧ (¬ x2 ≤ (nI 1) → (wp_X9_ownerOf σ_12 x1 (x2 ^^^ (nI 1)) (fun r_17 => (wp_X9_heirOf_35 σ_12 x2 x4_15 r_17 Q)))))))))
def wp_X9_handsAll_47 (x1 : Int32) (x2 : Int32) (x3 : Int32) (Q : St → Prop) (ih47 : St → Int32 → Prop) (σ : St) (x4 : Int32) : Prop :=
  (x3 ≤ x4 → (Q σ)) ∧ (¬ x3 ≤ x4 → (vp_in x4 2048 ∧ (wp_X9_heirOf σ x1 (σ 256 (Int32.toNatClampNeg x4)) x2 (fun r_3 σ_4 => (vp_in x4 2048 ∧ (wp_X9_owns σ_4 x1 (σ_4 256 (Int32.toNatClampNeg x4)) (-1) (fun σ_6 => ((r_3 = (-1) → (∀ x4_8 : Int32, x4_8 = x4 + (nI 1) → (ih47 σ_6 x4_8))) ∧ (¬ r_3 = (-1) → (vp_in x4 2048 ∧ (wp_X9_gives σ_6 x1 (σ_6 256 (Int32.toNatClampNeg x4)) r_3 (fun σ_10 => (∀ x4_11 : Int32, x4_11 = x4 + (nI 1) → (ih47 σ_10 x4_11))))))))))))))
def wp_X9_handsAll_5 (x1 : Int32) (x2 : Int32) (Q : St → Prop) (ih5 : St → Int32 → Int32 → Prop) (σ : St) (x3 : Int32) (x4 : Int32) : Prop :=
  ((nI 2048) ≤ x4 → (∃ n9 : Nat, LP2 (wp_X9_handsAll_47 x1 x2 x3 Q) n9 σ (nI 0))) ∧ (¬ (nI 2048) ≤ x4 → (wp_X9_ownerOf σ x1 x4 (fun r_13 => ((r_13 = x2 → (vp_in x3 2048 ∧ (∀ σ_17 : St, σ_17 = su σ 256 (Int32.toNatClampNeg x3) x4 → (∀ x3_18 : Int32, x3_18 = x3 + (nI 1) → (∀ x4_19 : Int32, x4_19 = x4 + (nI 1) → (ih5 σ_17 x3_18 x4_19)))))) ∧ (¬ r_13 = x2 → (∀ x4_20 : Int32, x4_20 = x4 + (nI 1) → (ih5 σ x3 x4_20)))))))
def wp_X9_handsAll (σ : St) (x1 : Int32) (x2 : Int32) (Q : St → Prop) : Prop :=
  ∃ n9 : Nat, LP3 (wp_X9_handsAll_5 x1 x2 Q) n9 σ (nI 0) (nI 1)
def wp_X9_goesAway_47 (Q : St → Prop) (ih47 : St → Int32 → Prop) (σ : St) (x2 : Int32) : Prop :=
  ((nI 300) ≤ x2 → (Q σ)) ∧ (¬ (nI 300) ≤ x2 → (vp_in ((nI 238) + x2) 6682 ∧ (∀ σ_3 : St, σ_3 = su σ 245 (Int32.toNatClampNeg ((nI 238) + x2)) (nI 0) → (∀ x2_4 : Int32, x2_4 = x2 + (nI 1) → (ih47 σ_3 x2_4)))))
def wp_X9_goesAway_25 (σ : St) (x1 : Int32) (Q : St → Prop) : Prop :=
  vp_in ((nI 0) + x1) 6682 ∧ (∀ σ_6 : St, σ_6 = su σ 245 (Int32.toNatClampNeg ((nI 0) + x1)) (nI 0) → (wp_X9_countOf σ_6 (nI 0) (fun r_7 => (((nI 10) ≤ r_7 → (∃ n9 : Nat, LP2 (wp_X9_goesAway_47 Q) n9 σ_6 (nI 0))) ∧ (¬ (nI 10) ≤ r_7 → (Q σ_6))))))
def wp_X9_goesAway_2 (x1 : Int32) (Q : St → Prop) (ih2 : St → Int32 → Prop) (σ : St) (x2 : Int32) : Prop :=
  ((σ 245 37) ≤ x2 → (wp_X9_goesAway_25 σ x1 Q)) ∧ (¬ (σ 245 37) ≤ x2 → (wp_X9_handsAll σ x2 x1 (fun σ_11 => (∀ x2_12 : Int32, x2_12 = x2 + (nI 1) → (ih2 σ_11 x2_12)))))
def wp_X9_goesAway (σ : St) (x1 : Int32) (Q : St → Prop) : Prop :=
  ∃ n9 : Nat, LP2 (wp_X9_goesAway_2 x1 Q) n9 σ (nI 0)
def wp_X9_pointOf (σ : St) (x0 : Int32) (x1 : Int32) (Q : Int32 → Prop) : Prop :=
  Q (((x0 + (nI 1)) * ((nI 397) + ((nI 214) * x1))) - ((x0 + (nI 1)) * ((nI 397) + ((nI 214) * x1))) / (nI 1024) * (nI 1024))
def wp_X9_pointX (σ : St) (x0 : Int32) (x1 : Int32) (Q : Int32 → Prop) : Prop :=
  wp_X9_pointOf σ x0 x1 (fun r_1 => (Q (r_1 - r_1 / (nI 32) * (nI 32))))
def wp_X9_pointY (σ : St) (x0 : Int32) (x1 : Int32) (Q : Int32 → Prop) : Prop :=
  wp_X9_pointOf σ x0 x1 (fun r_1 => (Q (r_1 / (nI 32))))
def wp_X9_keeperOf (σ : St) (x1 : Int32) (x2 : Int32) (Q : Int32 → St → Prop) : Prop :=
  wp_X9_pointX σ x1 x2 (fun r_1 => (wp_X9_pointY σ x1 x2 (fun r_3 => (wp_X9_nodeAt σ x2 r_1 r_3 (fun r_5 σ_6 => (Q r_5 σ_6))))))
def wp_X9_isHeld (σ : St) (x1 : Int32) (x2 : Int32) (Q : Int32 → Prop) : Prop :=
  vp_in ((nI 38) + x1) 6682 ∧ ((¬ (σ 245 (Int32.toNatClampNeg ((nI 38) + x1))) = (nI 1) → (Q (nI 0))) ∧ ((σ 245 (Int32.toNatClampNeg ((nI 38) + x1))) = (nI 1) → (vp_in (((nI 238) + ((nI 100) * x2)) + x1) 6682 ∧ ((¬ (σ 245 (Int32.toNatClampNeg (((nI 238) + ((nI 100) * x2)) + x1))) = (nI 1) → (Q (nI 0))) ∧ ((σ 245 (Int32.toNatClampNeg (((nI 238) + ((nI 100) * x2)) + x1))) = (nI 1) → (Q (nI 1)))))))
def wp_X9_heldIn_4 (σ : St) (x1 : Int32) (Q : Int32 → Prop) (ih4 : Int32 → Int32 → Prop) (x2 : Int32) (x3 : Int32) : Prop :=
  ((σ 245 37) ≤ x3 → (Q x2)) ∧ (¬ (σ 245 37) ≤ x3 → (wp_X9_isHeld σ x1 x3 (fun r_2 => ((r_2 = 0 → (∀ x2_5 : Int32, x2_5 = x2 ||| (nI 0) → (∀ x3_6 : Int32, x3_6 = x3 + (nI 1) → (ih4 x2_5 x3_6)))) ∧ (¬ r_2 = 0 → (∀ x2_7 : Int32, x2_7 = x2 ||| ((nI 1) <<< (x3 &&& 31)) → (∀ x3_8 : Int32, x3_8 = x3 + (nI 1) → (ih4 x2_7 x3_8))))))))
def wp_X9_heldIn (σ : St) (x1 : Int32) (Q : Int32 → Prop) : Prop :=
  ∃ n9 : Nat, LP2 (wp_X9_heldIn_4 σ x1 Q) n9 (nI 0) (nI 0)
def wp_X9_canHold (σ : St) (x1 : Int32) (x2 : Int32) (Q : Int32 → St → Prop) : Prop :=
  wp_X9_keeperOf σ x1 x2 (fun r_1 σ_2 => ((r_1 = (-1) → (Q (nI 0) σ_2)) ∧ (¬ r_1 = (-1) → (wp_X9_isState σ_2 r_1 (nI 1) (fun r_4 => ((r_4 = 0 → (Q (nI 0) σ_2)) ∧ (¬ r_4 = 0 → (Q (nI 1) σ_2))))))))
def wp_X9_clearsAll_2 (x1 : Int32) (Q : St → Prop) (ih2 : St → Int32 → Prop) (σ : St) (x2 : Int32) : Prop :=
  ((nI 6682) ≤ x2 → (∀ σ_2 : St, σ_2 = su σ 245 37 x1 → (Q σ_2))) ∧ (¬ (nI 6682) ≤ x2 → (vp_in x2 6682 ∧ (∀ σ_4 : St, σ_4 = su σ 245 (Int32.toNatClampNeg x2) (nI 0) → (∀ x2_5 : Int32, x2_5 = x2 + (nI 1) → (ih2 σ_4 x2_5)))))
def wp_X9_clearsAll (σ : St) (x1 : Int32) (Q : St → Prop) : Prop :=
  ∃ n9 : Nat, LP2 (wp_X9_clearsAll_2 x1 Q) n9 σ (nI 0)
def wp_X9_landmark0 (σ : St) (x1 : Int32) (x2 : Int32) (Q : Int32 → St → Prop) : Prop :=
  (¬ (σ 245 30) = (nI 3) → (vp_in ((nI 31) + (σ 245 30)) 6682 ∧ (∀ σ_3 : St, σ_3 = su σ 245 (Int32.toNatClampNeg ((nI 31) + (σ 245 30))) x1 → (vp_in ((nI 34) + (σ_3 245 30)) 6682 ∧ (∀ σ_5 : St, σ_5 = su σ_3 245 (Int32.toNatClampNeg ((nI 34) + (σ_3 245 30))) x2 → (∀ σ_6 : St, σ_6 = su σ_5 245 30 ((σ_5 245 30) + (nI 1)) → (Q (nI 0) σ_6))))))) ∧ ((σ 245 30) = (nI 3) → (Q (nI 10) σ))
def wp_X9_turned (σ : St) (x0 : Int32) (x1 : Int32) (Q : Int32 → Prop) : Prop :=
  Q ((x0 + x1) - (x0 + x1) / (nI 32) * (nI 32))
def wp_X9_parts (σ : St) (x1 : Int32) (x2 : Int32) (x3 : Int32) (Q : St → Prop) : Prop :=
  wp_X9_zoneAt σ x1 x2 x3 (fun r_1 σ_2 => (wp_X9_ownerOf σ_2 x1 r_1 (fun r_3 => (wp_X9_halfWith σ_2 r_1 x2 x3 (fun r_5 σ_6 => (wp_X9_owns σ_6 x1 r_1 (-1) (fun σ_7 => (wp_X9_owns σ_7 x1 r_5 (σ_7 244 28) (fun σ_8 => (wp_X9_owns σ_8 x1 (r_5 ^^^ (nI 1)) r_3 (fun σ_9 => (Q σ_9))))))))))))
def wp_X9_join0_233 (σ : St) (x1 : Int32) (x2 : Int32) (Q : Int32 → St → Prop) : Prop :=
  vp_in ((nI 0) + (σ 244 28)) 6682 ∧ (∀ σ_2 : St, σ_2 = su σ 245 (Int32.toNatClampNeg ((nI 0) + (σ 244 28))) (nI 1) → (vp_in ((nI 10) + (σ_2 244 28)) 6682 ∧ (∀ σ_4 : St, σ_4 = su σ_2 245 (Int32.toNatClampNeg ((nI 10) + (σ_2 244 28))) x1 → (vp_in ((nI 20) + (σ_4 244 28)) 6682 ∧ (∀ σ_6 : St, σ_6 = su σ_4 245 (Int32.toNatClampNeg ((nI 20) + (σ_4 244 28))) x2 → (Q (nI 0) σ_6))))))
def wp_X9_join0_171 (x1 : Int32) (x2 : Int32) (x3 : Int32) (x4 : Int32) (x5 : Int32) (Q : Int32 → St → Prop) (ih171 : St → Int32 → Prop) (σ : St) (x7 : Int32) : Prop :=
  ((σ 245 37) ≤ x7 → (wp_X9_join0_233 σ x1 x2 Q)) ∧ (¬ (σ 245 37) ≤ x7 → ((x5 = 0 → (wp_X9_turned σ x3 ((nI 11) * x7) (fun r_9 => (wp_X9_turned σ x4 ((nI 7) * x7) (fun r_11 => (wp_X9_parts σ x7 r_9 r_11 (fun σ_13 => (∀ x7_14 : Int32, x7_14 = x7 + (nI 1) → (ih171 σ_13 x7_14))))))))) ∧ (¬ x5 = 0 → (wp_X9_owns σ x7 (nI 1) (σ 244 28) (fun σ_15 => (∀ x7_16 : Int32, x7_16 = x7 + (nI 1) → (ih171 σ_15 x7_16)))))))
def wp_X9_join0_160 (σ : St) (x1 : Int32) (x2 : Int32) (x3 : Int32) (x4 : Int32) (x5 : Int32) (x6 : Int32) (Q : Int32 → St → Prop) : Prop :=
  (x6 ≤ 0 → (∃ n9 : Nat, LP2 (wp_X9_join0_171 x1 x2 x3 x4 x5 Q) n9 σ (nI 0))) ∧ (¬ x6 ≤ 0 → (Q x6 σ))
def wp_X9_join0_130 (σ : St) (x1 : Int32) (x2 : Int32) (x3 : Int32) (x4 : Int32) (x5 : Int32) (x6 : Int32) (x7 : Int32) (x8 : Int32) (ih73 : St → Int32 → Int32 → Prop) (Q : Int32 → St → Prop) : Prop :=
  (¬ x6 = 0 → (∀ x7_19 : Int32, x7_19 = x7 + (nI 1) → (ih73 σ x6 x7_19))) ∧ (x6 = 0 → (wp_X9_ownerOf σ x7 x8 (fun r_20 => (wp_X9_isState σ r_20 (nI 2) (fun r_22 => ((r_22 = 0 → (∀ x7_25 : Int32, x7_25 = x7 + (nI 1) → (ih73 σ x6 x7_25))) ∧ (¬ r_22 = 0 → (∀ x7_26 : Int32, x7_26 = x7 + (nI 1) → (ih73 σ (nI 3) x7_26)))))))))
def wp_X9_join0_73 (x1 : Int32) (x2 : Int32) (x3 : Int32) (x4 : Int32) (x5 : Int32) (Q : Int32 → St → Prop) (ih73 : St → Int32 → Int32 → Prop) (σ : St) (x6 : Int32) (x7 : Int32) : Prop :=
  ((σ 245 37) ≤ x7 → (wp_X9_join0_160 σ x1 x2 x3 x4 x5 x6 Q)) ∧ (¬ (σ 245 37) ≤ x7 → ((¬ x5 = 0 → (wp_X9_join0_160 σ x1 x2 x3 x4 x5 x6 Q)) ∧ (x5 = 0 → (wp_X9_turned σ x3 ((nI 11) * x7) (fun r_29 => (wp_X9_turned σ x4 ((nI 7) * x7) (fun r_31 => (wp_X9_zoneAt σ x7 r_29 r_31 (fun r_33 σ_34 => (wp_X9_depthOf σ_34 r_33 (fun r_35 => ((¬ r_35 = (nI 10) → (wp_X9_join0_130 σ_34 x1 x2 x3 x4 x5 x6 x7 r_33 ih73 Q)) ∧ (r_35 = (nI 10) → (wp_X9_join0_130 σ_34 x1 x2 x3 x4 x5 (nI 2) x7 r_33 ih73 Q))))))))))))))
def wp_X9_join0_39 (σ : St) (x1 : Int32) (x2 : Int32) (x3 : Int32) (x4 : Int32) (Q : Int32 → St → Prop) : Prop :=
  (¬ (σ 244 28) = (nI 10) → (wp_X9_countOf σ (nI 0) (fun r_39 => ((¬ r_39 = (nI 10) → (∃ n9 : Nat, LP3 (wp_X9_join0_73 x1 x2 x3 x4 (nI 0) Q) n9 σ (nI 0) (nI 0))) ∧ (r_39 = (nI 10) → (∃ n9 : Nat, LP3 (wp_X9_join0_73 x1 x2 x3 x4 (nI 1) Q) n9 σ (nI 0) (nI 0))))))) ∧ ((σ 244 28) = (nI 10) → (Q (nI 1) σ))
def wp_X9_join0_5 (x1 : Int32) (x2 : Int32) (x3 : Int32) (x4 : Int32) (Q : Int32 → St → Prop) (ih5 : St → Prop) (σ : St) : Prop :=
  ((nI 10) ≤ (σ 244 28) → (wp_X9_join0_39 σ x1 x2 x3 x4 Q)) ∧ (¬ (nI 10) ≤ (σ 244 28) → (wp_X9_isState σ (σ 244 28) (nI 0) (fun r_43 => ((¬ r_43 = 0 → (wp_X9_join0_39 σ x1 x2 x3 x4 Q)) ∧ (r_43 = 0 → (∀ σ_46 : St, σ_46 = su σ 244 28 ((σ 244 28) + (nI 1)) → (ih5 σ_46)))))))
def wp_X9_join0 (σ : St) (x1 : Int32) (x2 : Int32) (x3 : Int32) (x4 : Int32) (Q : Int32 → St → Prop) : Prop :=
  ∀ σ_47 : St, σ_47 = su σ 244 28 (nI 0) → (∃ n9 : Nat, LP1 (wp_X9_join0_5 x1 x2 x3 x4 Q) n9 σ_47)
def wp_X9_farFrom (σ : St) (x1 : Int32) (x2 : Int32) (x3 : Int32) (Q : Int32 → Prop) : Prop :=
  vp_in ((nI 31) + x1) 6682 ∧ (wp_X9_apart σ (σ 245 (Int32.toNatClampNeg ((nI 31) + x1))) x2 (fun r_2 => (vp_in ((nI 34) + x1) 6682 ∧ (wp_X9_apart σ (σ 245 (Int32.toNatClampNeg ((nI 34) + x1))) x3 (fun r_5 => (Q (r_2 + r_5)))))))
def wp_X9_isNearer (σ : St) (x1 : Int32) (x2 : Int32) (x3 : Int32) (x4 : Int32) (Q : Int32 → Prop) : Prop :=
  wp_X9_farFrom σ x1 x3 x4 (fun r_1 => (wp_X9_farFrom σ x2 x3 x4 (fun r_3 => (∀ x5_5 : Int32, x5_5 = r_1 - r_3 → ((x5_5 < 0 → (Q (nI 1))) ∧ (¬ x5_5 < 0 → ((¬ x5_5 = 0 → (Q (nI 0))) ∧ (x5_5 = 0 → ((x2 ≤ x1 → (Q (nI 0))) ∧ (¬ x2 ≤ x1 → (Q (nI 1))))))))))))
def wp_X9_orderOf_132 (σ : St) (x1 : Int32) (x2 : Int32) (x3 : Int32) (x4 : Int32) (x5 : Int32) (x6 : Int32) (x7 : Int32) (ih44 : Int32 → Int32 → Int32 → Prop) (Q : Int32 → Prop) : Prop :=
  ∀ x3_1 : Int32, x3_1 = (x3 * x5) + x7 → (∀ x4_2 : Int32, x4_2 = x4 &&& (((nI 1) <<< (x6 &&& 31)) ^^^ (-1)) → (∀ x5_3 : Int32, x5_3 = x5 + (-1) → (ih44 x3_1 x4_2 x5_3)))
def wp_X9_orderOf_107 (σ : St) (x1 : Int32) (x2 : Int32) (x3 : Int32) (x4 : Int32) (x5 : Int32) (x6 : Int32) (ih44 : Int32 → Int32 → Int32 → Prop) (Q : Int32 → Prop) (ih107 : Int32 → Int32 → Prop) (x7 : Int32) (x8 : Int32) : Prop :=
  (x6 ≤ x8 → (wp_X9_orderOf_132 σ x1 x2 x3 x4 x5 x6 x7 ih44 Q)) ∧ (¬ x6 ≤ x8 → (∀ x7_5 : Int32, x7_5 = x7 + ((x4 >>> (x8 &&& 31)) &&& (nI 1)) → (∀ x8_6 : Int32, x8_6 = x8 + (nI 1) → (ih107 x7_5 x8_6))))
def wp_X9_orderOf_55 (σ : St) (x1 : Int32) (x2 : Int32) (x3 : Int32) (x4 : Int32) (x5 : Int32) (ih44 : Int32 → Int32 → Int32 → Prop) (Q : Int32 → Prop) (ih55 : Int32 → Int32 → Prop) (x6 : Int32) (x7 : Int32) : Prop :=
  ((nI 3) ≤ x7 → (∃ n9 : Nat, LP2 (wp_X9_orderOf_107 σ x1 x2 x3 x4 x5 x6 ih44 Q) n9 (nI 0) (nI 0))) ∧ (¬ (nI 3) ≤ x7 → ((¬ ((x4 >>> (x7 &&& 31)) &&& (nI 1)) = (nI 1) → (∀ x7_9 : Int32, x7_9 = x7 + (nI 1) → (ih55 x6 x7_9))) ∧ (((x4 >>> (x7 &&& 31)) &&& (nI 1)) = (nI 1) → ((x6 = (-1) → (∀ x7_11 : Int32, x7_11 = x7 + (nI 1) → (ih55 x7 x7_11))) ∧ (¬ x6 = (-1) → (wp_X9_isNearer σ x7 x6 x1 x2 (fun r_12 => ((r_12 = 0 → (∀ x7_15 : Int32, x7_15 = x7 + (nI 1) → (ih55 x6 x7_15))) ∧ (¬ r_12 = 0 → (∀ x7_16 : Int32, x7_16 = x7 + (nI 1) → (ih55 x7 x7_16)))))))))))
def wp_X9_orderOf_44 (σ : St) (x1 : Int32) (x2 : Int32) (Q : Int32 → Prop) (ih44 : Int32 → Int32 → Int32 → Prop) (x3 : Int32) (x4 : Int32) (x5 : Int32) : Prop :=
  (x5 ≤ 0 → (Q x3)) ∧ (¬ x5 ≤ 0 → (∃ n9 : Nat, LP2 (wp_X9_orderOf_55 σ x1 x2 x3 x4 x5 ih44 Q) n9 (-1) (nI 0)))
def wp_X9_orderOf_8 (σ : St) (x1 : Int32) (x2 : Int32) (x3 : Int32) (Q : Int32 → Prop) (ih8 : Int32 → Int32 → Prop) (x4 : Int32) (x5 : Int32) : Prop :=
  ((σ 245 30) ≤ x5 → (∀ x5_19 : Int32, x5_19 = σ 245 30 → (∃ n9 : Nat, LP3 (wp_X9_orderOf_44 σ x1 x2 Q) n9 x3 x4 x5_19))) ∧ (¬ (σ 245 30) ≤ x5 → (∀ x4_20 : Int32, x4_20 = x4 ||| ((nI 1) <<< (x5 &&& 31)) → (∀ x5_21 : Int32, x5_21 = x5 + (nI 1) → (ih8 x4_20 x5_21))))
def wp_X9_orderOf (σ : St) (x1 : Int32) (x2 : Int32) (Q : Int32 → Prop) : Prop :=
  ∃ n9 : Nat, LP2 (wp_X9_orderOf_8 σ x1 x2 (nI 0) Q) n9 (nI 0) (nI 0)
def wp_X9_ordersOf (σ : St) (Q : Int32 → Prop) : Prop :=
  ((nI 2) ≤ (σ 245 30) → ((¬ (σ 245 30) = (nI 2) → (Q (nI 6))) ∧ ((σ 245 30) = (nI 2) → (Q (nI 2))))) ∧ (¬ (nI 2) ≤ (σ 245 30) → (Q (nI 1)))
def wp_X9_near0 (σ : St) (x1 : Int32) (x2 : Int32) (Q : Int32 → St → Prop) : Prop :=
  wp_X9_ordersOf σ (fun r_1 => (¬ r_1 = 0 ∧ (wp_X9_orderOf σ x1 x2 (fun r_4 => (wp_X9_join0 σ x1 x2 (((nI 32) / r_1) * r_4) ((x1 + x2) - (x1 + x2) / (nI 32) * (nI 32)) (fun r_6 σ_7 => (Q r_6 σ_7)))))))
def wp_X9_hasOther (σ : St) (x1 : Int32) (x2 : Int32) (Q : Int32 → Prop) : Prop :=
  wp_X9_bitsOf σ x2 (fun r_1 => (((r_1 &&& (((nI 1) <<< (x1 &&& 31)) ^^^ (-1))) = 0 → (Q (nI 0))) ∧ (¬ (r_1 &&& (((nI 1) <<< (x1 &&& 31)) ^^^ (-1))) = 0 → (Q (nI 1)))))
def wp_X9_leave0_32 (σ : St) (x1 : Int32) (Q : Int32 → St → Prop) : Prop :=
  wp_X9_goesAway σ x1 (fun σ_1 => (Q (nI 0) σ_1))
def wp_X9_leave0 (σ : St) (x1 : Int32) (Q : Int32 → St → Prop) : Prop :=
  wp_X9_isState σ x1 (nI 1) (fun r_2 => ((¬ r_2 = 0 → (wp_X9_hasOther σ x1 (nI 1) (fun r_5 => ((¬ r_5 = 0 → (wp_X9_leave0_32 σ x1 Q)) ∧ (r_5 = 0 → (wp_X9_hasOther σ x1 (nI 2) (fun r_8 => ((r_8 = 0 → (wp_X9_leave0_32 σ x1 Q)) ∧ (¬ r_8 = 0 → (Q (nI 6) σ)))))))))) ∧ (r_2 = 0 → (Q (nI 4) σ))))
def wp_X9_crash0_30 (x1 : Int32) (x2 : Int32) (ih22 : St → Int32 → Prop) (Q : Int32 → St → Prop) (ih30 : St → Int32 → Prop) (σ : St) (x3 : Int32) : Prop :=
  ((σ 245 37) ≤ x3 → (∀ x2_2 : Int32, x2_2 = x2 + (nI 1) → (ih22 σ x2_2))) ∧ (¬ (σ 245 37) ≤ x3 → (wp_X9_isHeld σ x2 x3 (fun r_3 => ((r_3 = 0 → (∀ x3_6 : Int32, x3_6 = x3 + (nI 1) → (ih30 σ x3_6))) ∧ (¬ r_3 = 0 → (wp_X9_keeperOf σ x2 x3 (fun r_7 σ_8 => ((¬ r_7 = x1 → (∀ x3_10 : Int32, x3_10 = x3 + (nI 1) → (ih30 σ_8 x3_10))) ∧ (r_7 = x1 → (vp_in (((nI 238) + ((nI 100) * x3)) + x2) 6682 ∧ (∀ σ_12 : St, σ_12 = su σ_8 245 (Int32.toNatClampNeg (((nI 238) + ((nI 100) * x3)) + x2)) (nI 0) → (∀ x3_13 : Int32, x3_13 = x3 + (nI 1) → (ih30 σ_12 x3_13)))))))))))))
def wp_X9_crash0_22 (x1 : Int32) (Q : Int32 → St → Prop) (ih22 : St → Int32 → Prop) (σ : St) (x2 : Int32) : Prop :=
  ((nI 100) ≤ x2 → (Q (nI 0) σ)) ∧ (¬ (nI 100) ≤ x2 → (∃ n9 : Nat, LP2 (wp_X9_crash0_30 x1 x2 ih22 Q) n9 σ (nI 0)))
def wp_X9_crash0 (σ : St) (x1 : Int32) (Q : Int32 → St → Prop) : Prop :=
  wp_X9_isState σ x1 (nI 1) (fun r_15 => ((¬ r_15 = 0 → (vp_in ((nI 0) + x1) 6682 ∧ (∀ σ_19 : St, σ_19 = su σ 245 (Int32.toNatClampNeg ((nI 0) + x1)) (nI 2) → (∃ n9 : Nat, LP2 (wp_X9_crash0_22 x1 Q) n9 σ_19 (nI 0))))) ∧ (r_15 = 0 → (Q (nI 4) σ))))
def wp_X9_notice0_31 (σ : St) (x1 : Int32) (Q : Int32 → St → Prop) : Prop :=
  wp_X9_goesAway σ x1 (fun σ_1 => (Q (nI 0) σ_1))
def wp_X9_notice0 (σ : St) (x1 : Int32) (Q : Int32 → St → Prop) : Prop :=
  wp_X9_isState σ x1 (nI 2) (fun r_2 => ((¬ r_2 = 0 → (wp_X9_countOf σ (nI 1) (fun r_5 => ((¬ r_5 = 0 → (wp_X9_notice0_31 σ x1 Q)) ∧ (r_5 = 0 → (wp_X9_hasOther σ x1 (nI 2) (fun r_8 => ((r_8 = 0 → (wp_X9_notice0_31 σ x1 Q)) ∧ (¬ r_8 = 0 → (Q (nI 6) σ)))))))))) ∧ (r_2 = 0 → (Q (nI 5) σ))))
def wp_X9_manifold_2 (σ : St) (Q : Int32 → Prop) (ih2 : Int32 → Prop) (x1 : Int32) : Prop :=
  ((nI 10) ≤ x1 → (Q (-1))) ∧ (¬ (nI 10) ≤ x1 → (wp_X9_zonesOf σ x1 (fun r_2 => ((r_2 ≤ (nI 1) → (∀ x1_5 : Int32, x1_5 = x1 + (nI 1) → (ih2 x1_5))) ∧ (¬ r_2 ≤ (nI 1) → (Q x1))))))
def wp_X9_manifold (σ : St) (Q : Int32 → Prop) : Prop :=
  ∃ n9 : Nat, LP1 (wp_X9_manifold_2 σ Q) n9 (nI 0)
def wp_X9_strayOf_4 (σ : St) (x1 : Int32) (Q : Int32 → Prop) (ih4 : Int32 → Int32 → Prop) (x2 : Int32) (x3 : Int32) : Prop :=
  ((σ 244 23) ≤ x3 → (Q x2)) ∧ (¬ (σ 244 23) ≤ x3 → (vp_in x3 2048 ∧ ((¬ (σ 251 (Int32.toNatClampNeg x3)) = x1 → (∀ x3_4 : Int32, x3_4 = x3 + (nI 1) → (ih4 x2 x3_4))) ∧ ((σ 251 (Int32.toNatClampNeg x3)) = x1 → ((x2 = (-1) → (vp_in x3 2048 ∧ (∀ x2_7 : Int32, x2_7 = σ 250 (Int32.toNatClampNeg x3) → (∀ x3_8 : Int32, x3_8 = x3 + (nI 1) → (ih4 x2_7 x3_8))))) ∧ (¬ x2 = (-1) → (vp_in x3 2048 ∧ (wp_X9_depthOf σ (σ 250 (Int32.toNatClampNeg x3)) (fun r_10 => (wp_X9_depthOf σ x2 (fun r_12 => ((r_10 < r_12 → (∀ x3_15 : Int32, x3_15 = x3 + (nI 1) → (ih4 x2 x3_15))) ∧ (¬ r_10 < r_12 → (vp_in x3 2048 ∧ (∀ x2_17 : Int32, x2_17 = σ 250 (Int32.toNatClampNeg x3) → (∀ x3_18 : Int32, x3_18 = x3 + (nI 1) → (ih4 x2_17 x3_18)))))))))))))))))
def wp_X9_strayOf (σ : St) (x1 : Int32) (Q : Int32 → Prop) : Prop :=
  ∃ n9 : Nat, LP2 (wp_X9_strayOf_4 σ x1 Q) n9 (-1) (nI 0)
def wp_X9_isInside_14 (σ : St) (x1 : Int32) (x2 : Int32) (Q : Int32 → Prop) : Prop :=
  (¬ x2 = x1 → (Q (nI 0))) ∧ (x2 = x1 → (Q (nI 1)))
def wp_X9_isInside_2 (σ : St) (x1 : Int32) (Q : Int32 → Prop) (ih2 : Int32 → Prop) (x2 : Int32) : Prop :=
  (x2 ≤ x1 → (wp_X9_isInside_14 σ x1 x2 Q)) ∧ (¬ x2 ≤ x1 → (∀ x2_3 : Int32, x2_3 = x2 / (nI 2) → (ih2 x2_3)))
def wp_X9_isInside (σ : St) (x0 : Int32) (x1 : Int32) (Q : Int32 → Prop) : Prop :=
  ∃ n9 : Nat, LP1 (wp_X9_isInside_2 σ x1 Q) n9 x0
def wp_X9_twinsIn_5 (σ : St) (x1 : Int32) (x2 : Int32) (Q : Int32 → Prop) (ih5 : Int32 → Int32 → Prop) (x3 : Int32) (x4 : Int32) : Prop :=
  ((nI 1024) ≤ x4 → (Q x3)) ∧ (¬ (nI 1024) ≤ x4 → (wp_X9_isInside σ x4 x2 (fun r_2 => ((r_2 = 0 → (∀ x4_5 : Int32, x4_5 = x4 + (nI 1) → (ih5 x3 x4_5))) ∧ (¬ r_2 = 0 → (wp_X9_halfAt σ x4 (nI 0) (fun r_6 => (wp_X9_ownerOf σ x1 r_6 (fun r_8 => ((r_8 = (-1) → (∀ x4_11 : Int32, x4_11 = x4 + (nI 1) → (ih5 x3 x4_11))) ∧ (¬ r_8 = (-1) → (wp_X9_halfAt σ x4 (nI 1) (fun r_12 => (wp_X9_ownerOf σ x1 r_12 (fun r_14 => ((¬ r_14 = (-1) → ((x3 = (-1) → (∀ x4_18 : Int32, x4_18 = x4 + (nI 1) → (ih5 x4 x4_18))) ∧ (¬ x3 = (-1) → (wp_X9_depthOf σ x4 (fun r_19 => (wp_X9_depthOf σ x3 (fun r_21 => ((r_19 ≤ r_21 → (∀ x4_24 : Int32, x4_24 = x4 + (nI 1) → (ih5 x3 x4_24))) ∧ (¬ r_19 ≤ r_21 → (∀ x4_25 : Int32, x4_25 = x4 + (nI 1) → (ih5 x4 x4_25))))))))))) ∧ (r_14 = (-1) → (∀ x4_26 : Int32, x4_26 = x4 + (nI 1) → (ih5 x3 x4_26)))))))))))))))))))
def wp_X9_twinsIn (σ : St) (x1 : Int32) (x2 : Int32) (Q : Int32 → Prop) : Prop :=
  ∃ n9 : Nat, LP2 (wp_X9_twinsIn_5 σ x1 x2 Q) n9 (-1) (nI 1)
def wp_X9_tidies_105 (σ : St) (x1 : Int32) (ih10 : St → Int32 → Prop) (Q : St → Prop) : Prop :=
  wp_X9_laysList σ x1 (fun σ_1 => (wp_X9_manifold σ_1 (fun r_2 => (ih10 σ_1 r_2))))
def wp_X9_tidies_10 (x1 : Int32) (Q : St → Prop) (ih10 : St → Int32 → Prop) (σ : St) (x2 : Int32) : Prop :=
  (x2 = (-1) → (Q σ)) ∧ (¬ x2 = (-1) → (wp_X9_strayOf σ x2 (fun r_5 => (∀ x4_7 : Int32, x4_7 = r_5 ^^^ (nI 1) → (wp_X9_ownerOf σ x1 x4_7 (fun r_8 => ((r_8 = (-1) → (wp_X9_twinsIn σ x1 x4_7 (fun r_11 => (wp_X9_halfAt σ r_11 (nI 1) (fun r_13 => (wp_X9_ownerOf σ x1 r_13 (fun r_15 => (wp_X9_halfAt σ r_11 (nI 1) (fun r_17 => (wp_X9_halfAt σ r_11 (nI 0) (fun r_19 => (wp_X9_ownerOf σ x1 r_19 (fun r_21 => (wp_X9_gives σ x1 r_17 r_21 (fun σ_23 => (wp_X9_gives σ_23 x1 r_5 r_15 (fun σ_24 => (wp_X9_tidies_105 σ_24 x1 ih10 Q)))))))))))))))))) ∧ (¬ r_8 = (-1) → (wp_X9_ownerOf σ x1 x4_7 (fun r_25 => (wp_X9_gives σ x1 r_5 r_25 (fun σ_27 => (wp_X9_tidies_105 σ_27 x1 ih10 Q)))))))))))))
def wp_X9_tidies (σ : St) (x1 : Int32) (Q : St → Prop) : Prop :=
  wp_X9_laysList σ x1 (fun σ_28 => (wp_X9_manifold σ_28 (fun r_29 => (∃ n9 : Nat, LP2 (wp_X9_tidies_10 x1 Q) n9 σ_28 r_29))))
def wp_X9_allZones_4 (Q : Int32 → St → Prop) (ih4 : St → Int32 → Int32 → Prop) (σ : St) (x1 : Int32) (x2 : Int32) : Prop :=
  ((σ 245 37) ≤ x2 → (Q x1 σ)) ∧ (¬ (σ 245 37) ≤ x2 → (wp_X9_laysList σ x2 (fun σ_2 => (∀ x1_3 : Int32, x1_3 = x1 + (σ_2 244 23) → (∀ x2_4 : Int32, x2_4 = x2 + (nI 1) → (ih4 σ_2 x1_3 x2_4))))))
def wp_X9_allZones (σ : St) (Q : Int32 → St → Prop) : Prop :=
  ∃ n9 : Nat, LP3 (wp_X9_allZones_4 Q) n9 σ (nI 0) (nI 0)
def wp_X9_tidy0_13 (Q : Int32 → St → Prop) (ih13 : St → Int32 → Prop) (σ : St) (x1 : Int32) : Prop :=
  ((σ 245 37) ≤ x1 → (Q (nI 0) σ)) ∧ (¬ (σ 245 37) ≤ x1 → (wp_X9_tidies σ x1 (fun σ_2 => (∀ x1_3 : Int32, x1_3 = x1 + (nI 1) → (ih13 σ_2 x1_3)))))
def wp_X9_tidy0 (σ : St) (Q : Int32 → St → Prop) : Prop :=
  wp_X9_countOf σ (nI 2) (fun r_4 => ((r_4 ≤ 0 → (∃ n9 : Nat, LP2 (wp_X9_tidy0_13 Q) n9 σ (nI 0))) ∧ (¬ r_4 ≤ 0 → (Q (nI 7) σ))))
def wp_X9_put0_75 (x1 : Int32) (x3 : Int32) (Q : Int32 → St → Prop) (ih75 : St → Int32 → Prop) (σ : St) (x4 : Int32) : Prop :=
  ((σ 245 37) ≤ x4 → (Q (nI 0) σ)) ∧ (¬ (σ 245 37) ≤ x4 → (vp_in (((nI 238) + ((nI 100) * x4)) + x1) 6682 ∧ (∀ σ_3 : St, σ_3 = su σ 245 (Int32.toNatClampNeg (((nI 238) + ((nI 100) * x4)) + x1)) ((x3 >>> (x4 &&& 31)) &&& (nI 1)) → (∀ x4_4 : Int32, x4_4 = x4 + (nI 1) → (ih75 σ_3 x4_4)))))
def wp_X9_put0_44 (σ : St) (x1 : Int32) (x2 : Int32) (x3 : Int32) (Q : Int32 → St → Prop) : Prop :=
  (¬ x3 = 0 → (vp_in ((nI 38) + x1) 6682 ∧ (∀ σ_7 : St, σ_7 = su σ 245 (Int32.toNatClampNeg ((nI 38) + x1)) (nI 1) → (vp_in ((nI 138) + x1) 6682 ∧ (∀ σ_9 : St, σ_9 = su σ_7 245 (Int32.toNatClampNeg ((nI 138) + x1)) x2 → (∃ n9 : Nat, LP2 (wp_X9_put0_75 x1 x3 Q) n9 σ_9 (nI 0))))))) ∧ (x3 = 0 → (Q (nI 8) σ))
def wp_X9_put0_5 (x1 : Int32) (x2 : Int32) (Q : Int32 → St → Prop) (ih5 : St → Int32 → Int32 → Prop) (σ : St) (x3 : Int32) (x4 : Int32) : Prop :=
  ((σ 245 37) ≤ x4 → (wp_X9_put0_44 σ x1 x2 x3 Q)) ∧ (¬ (σ 245 37) ≤ x4 → (wp_X9_canHold σ x1 x4 (fun r_11 σ_12 => ((r_11 = 0 → (∀ x3_14 : Int32, x3_14 = x3 ||| (nI 0) → (∀ x4_15 : Int32, x4_15 = x4 + (nI 1) → (ih5 σ_12 x3_14 x4_15)))) ∧ (¬ r_11 = 0 → (∀ x3_16 : Int32, x3_16 = x3 ||| ((nI 1) <<< (x4 &&& 31)) → (∀ x4_17 : Int32, x4_17 = x4 + (nI 1) → (ih5 σ_12 x3_16 x4_17))))))))
def wp_X9_put0 (σ : St) (x1 : Int32) (x2 : Int32) (Q : Int32 → St → Prop) : Prop :=
  ∃ n9 : Nat, LP3 (wp_X9_put0_5 x1 x2 Q) n9 σ (nI 0) (nI 0)
def wp_X9_cut0_38 (x1 : Int32) (Q : Int32 → St → Prop) (ih38 : St → Int32 → Prop) (σ : St) (x2 : Int32) : Prop :=
  ((nI 3) ≤ x2 → (Q (nI 0) σ)) ∧ (¬ (nI 3) ≤ x2 → (vp_in (((nI 238) + ((nI 100) * x2)) + x1) 6682 ∧ (∀ σ_3 : St, σ_3 = su σ 245 (Int32.toNatClampNeg (((nI 238) + ((nI 100) * x2)) + x1)) (nI 0) → (∀ x2_4 : Int32, x2_4 = x2 + (nI 1) → (ih38 σ_3 x2_4)))))
def wp_X9_cut0 (σ : St) (x1 : Int32) (Q : Int32 → St → Prop) : Prop :=
  vp_in ((nI 38) + x1) 6682 ∧ ((¬ (σ 245 (Int32.toNatClampNeg ((nI 38) + x1))) = 0 → (vp_in ((nI 38) + x1) 6682 ∧ (∀ σ_8 : St, σ_8 = su σ 245 (Int32.toNatClampNeg ((nI 38) + x1)) (nI 0) → (vp_in ((nI 138) + x1) 6682 ∧ (∀ σ_10 : St, σ_10 = su σ_8 245 (Int32.toNatClampNeg ((nI 138) + x1)) (nI 0) → (∃ n9 : Nat, LP2 (wp_X9_cut0_38 x1 Q) n9 σ_10 (nI 0))))))) ∧ ((σ 245 (Int32.toNatClampNeg ((nI 38) + x1))) = 0 → (Q (nI 9) σ)))
def wp_X9_mend0_23 (x2 : Int32) (ih4 : St → Int32 → Int32 → Prop) (Q : Int32 → St → Prop) (ih23 : St → Int32 → Int32 → Prop) (σ : St) (x1 : Int32) (x3 : Int32) : Prop :=
  ((σ 245 37) ≤ x3 → (∀ x2_2 : Int32, x2_2 = x2 + (nI 1) → (ih4 σ x1 x2_2))) ∧ (¬ (σ 245 37) ≤ x3 → (wp_X9_isHeld σ x2 x3 (fun r_3 => ((¬ r_3 = 0 → (∀ x3_6 : Int32, x3_6 = x3 + (nI 1) → (ih23 σ x1 x3_6))) ∧ (r_3 = 0 → (wp_X9_canHold σ x2 x3 (fun r_7 σ_8 => ((¬ r_7 = 0 → (vp_in (((nI 238) + ((nI 100) * x3)) + x2) 6682 ∧ (∀ σ_11 : St, σ_11 = su σ_8 245 (Int32.toNatClampNeg (((nI 238) + ((nI 100) * x3)) + x2)) (nI 1) → (∀ x1_12 : Int32, x1_12 = x1 + (nI 1) → (∀ x3_13 : Int32, x3_13 = x3 + (nI 1) → (ih23 σ_11 x1_12 x3_13)))))) ∧ (r_7 = 0 → (∀ x3_14 : Int32, x3_14 = x3 + (nI 1) → (ih23 σ_8 x1 x3_14)))))))))))
def wp_X9_mend0_4 (Q : Int32 → St → Prop) (ih4 : St → Int32 → Int32 → Prop) (σ : St) (x1 : Int32) (x2 : Int32) : Prop :=
  ((nI 100) ≤ x2 → (Q x1 σ)) ∧ (¬ (nI 100) ≤ x2 → (wp_X9_heldIn σ x2 (fun r_16 => ((¬ r_16 = 0 → (∃ n9 : Nat, LP3 (wp_X9_mend0_23 x2 ih4 Q) n9 σ x1 (nI 0))) ∧ (r_16 = 0 → (∀ x2_19 : Int32, x2_19 = x2 + (nI 1) → (ih4 σ x1 x2_19)))))))
def wp_X9_mend0 (σ : St) (Q : Int32 → St → Prop) : Prop :=
  ∃ n9 : Nat, LP3 (wp_X9_mend0_4 Q) n9 σ (nI 0) (nI 0)
def wp_X9_putsAside_2 (Q : St → Prop) (ih2 : St → Int32 → Prop) (σ : St) (x1 : Int32) : Prop :=
  ((nI 6682) ≤ x1 → (Q σ)) ∧ (¬ (nI 6682) ≤ x1 → (vp_in x1 6682 ∧ (vp_in x1 6682 ∧ (∀ σ_4 : St, σ_4 = su σ 246 (Int32.toNatClampNeg x1) (σ 245 (Int32.toNatClampNeg x1)) → (∀ x1_5 : Int32, x1_5 = x1 + (nI 1) → (ih2 σ_4 x1_5))))))
def wp_X9_putsAside (σ : St) (Q : St → Prop) : Prop :=
  ∃ n9 : Nat, LP2 (wp_X9_putsAside_2 Q) n9 σ (nI 0)
def wp_X9_remembers_51 (Q : St → Prop) (ih51 : St → Int32 → Prop) (σ : St) (x1 : Int32) : Prop :=
  ((nI 6682) ≤ x1 → (∀ σ_2 : St, σ_2 = su σ 244 5 ((σ 244 5) + (nI 1)) → (Q σ_2))) ∧ (¬ (nI 6682) ≤ x1 → (vp_in x1 6682 ∧ (vp_in (((nI 6682) * (σ 244 5)) + x1) 53456 ∧ (∀ σ_5 : St, σ_5 = su σ 248 (Int32.toNatClampNeg (((nI 6682) * (σ 244 5)) + x1)) (σ 246 (Int32.toNatClampNeg x1)) → (∀ x1_6 : Int32, x1_6 = x1 + (nI 1) → (ih51 σ_5 x1_6))))))
def wp_X9_remembers_39 (σ : St) (Q : St → Prop) : Prop :=
  ∀ σ_7 : St, σ_7 = su σ 244 5 ((σ 244 5) - (nI 1)) → (∃ n9 : Nat, LP2 (wp_X9_remembers_51 Q) n9 σ_7 (nI 0))
def wp_X9_remembers_11 (Q : St → Prop) (ih11 : St → Int32 → Prop) (σ : St) (x1 : Int32) : Prop :=
  ((nI 46774) ≤ x1 → (wp_X9_remembers_39 σ Q)) ∧ (¬ (nI 46774) ≤ x1 → (vp_in (x1 + (nI 6682)) 53456 ∧ (vp_in x1 53456 ∧ (∀ σ_11 : St, σ_11 = su σ 248 (Int32.toNatClampNeg x1) (σ 248 (Int32.toNatClampNeg (x1 + (nI 6682)))) → (∀ x1_12 : Int32, x1_12 = x1 + (nI 1) → (ih11 σ_11 x1_12))))))
def wp_X9_remembers (σ : St) (Q : St → Prop) : Prop :=
  (¬ (σ 244 5) = (nI 8) → (∃ n9 : Nat, LP2 (wp_X9_remembers_51 Q) n9 σ (nI 0))) ∧ ((σ 244 5) = (nI 8) → (∃ n9 : Nat, LP2 (wp_X9_remembers_11 Q) n9 σ (nI 0)))
def wp_X9_isDone_26 (σ : St) (x1 : Int32) (Q : Int32 → St → Prop) : Prop :=
  (¬ x1 = 0 → (Q (nI 0) σ)) ∧ (x1 = 0 → (Q (nI 1) σ))
def wp_X9_isDone_15 (σ : St) (x1 : Int32) (t1 : Int32) (Q : Int32 → St → Prop) : Prop :=
  ∀ σ_2 : St, σ_2 = su σ 244 0 t1 → ((¬ x1 = 0 → (wp_X9_isDone_26 σ_2 x1 Q)) ∧ (x1 = 0 → (wp_X9_remembers σ_2 (fun σ_4 => (wp_X9_isDone_26 σ_4 x1 Q)))))
def wp_X9_isDone (σ : St) (x1 : Int32) (x2 : Int32) (Q : Int32 → St → Prop) : Prop :=
  ∀ σ_5 : St, σ_5 = su σ 244 7 x1 → ((x1 ≤ 0 → (wp_X9_isDone_15 σ_5 x1 (nI 0) Q)) ∧ (¬ x1 ≤ 0 → (wp_X9_isDone_15 σ_5 x1 x2 Q)))
def wp_X9_feed_76 (σ : St) (x1 : Int32) (x2 : Int32) (x3 : Int32) (x4 : Int32) (x5 : Int32) (x6 : Int32) (t0 : Int32) (ih23 : St → Int32 → Prop) (Q : Int32 → St → Prop) : Prop :=
  vp_in (σ 244 9) 400 ∧ (∀ σ_2 : St, σ_2 = su σ 249 (Int32.toNatClampNeg (σ 244 9)) (((Int32.toUInt32 t0 >>> (Int32.toUInt32 ((nI 24) - ((nI 8) * (x6 - x6 / (nI 4) * (nI 4)))) &&& Int32.toUInt32 31)).toInt32) &&& (nI 255)) → (∀ σ_3 : St, σ_3 = su σ_2 244 9 ((σ_2 244 9) + (nI 1)) → (∀ x6_4 : Int32, x6_4 = x6 + (nI 1) → (ih23 σ_3 x6_4))))
def wp_X9_feed_23 (x1 : Int32) (x2 : Int32) (x3 : Int32) (x4 : Int32) (x5 : Int32) (Q : Int32 → St → Prop) (ih23 : St → Int32 → Prop) (σ : St) (x6 : Int32) : Prop :=
  ((nI 20) ≤ x6 → (Q (σ 244 9) σ)) ∧ (¬ (nI 20) ≤ x6 → (((nI 4) ≤ x6 → (((nI 8) ≤ x6 → (((nI 12) ≤ x6 → (((nI 16) ≤ x6 → (wp_X9_feed_76 σ x1 x2 x3 x4 x5 x6 x5 ih23 Q)) ∧ (¬ (nI 16) ≤ x6 → (wp_X9_feed_76 σ x1 x2 x3 x4 x5 x6 x4 ih23 Q)))) ∧ (¬ (nI 12) ≤ x6 → (wp_X9_feed_76 σ x1 x2 x3 x4 x5 x6 x3 ih23 Q)))) ∧ (¬ (nI 8) ≤ x6 → (wp_X9_feed_76 σ x1 x2 x3 x4 x5 x6 x2 ih23 Q)))) ∧ (¬ (nI 4) ≤ x6 → (wp_X9_feed_76 σ x1 x2 x3 x4 x5 x6 x1 ih23 Q))))
def wp_X9_feed (σ : St) (x1 : Int32) (x2 : Int32) (x3 : Int32) (x4 : Int32) (x5 : Int32) (Q : Int32 → St → Prop) : Prop :=
  ∀ σ_10 : St, σ_10 = su σ 244 0 (nI 0) → ((((σ_10 244 9) + (nI 20)) ≤ (nI 400) → (∃ n9 : Nat, LP2 (wp_X9_feed_23 x1 x2 x3 x4 x5 Q) n9 σ_10 (nI 0))) ∧ (¬ ((σ_10 244 9) + (nI 20)) ≤ (nI 400) → (Q (-1) σ_10)))
def wp_X9_end (σ : St) (x1 : Int32) (Q : Int32 → St → Prop) : Prop :=
  ∀ σ_1 : St, σ_1 = su σ 244 0 (nI 0) → (wp_X9_isIn σ_1 x1 (nI 0) (σ_1 244 9) (fun r_2 => ((¬ r_2 = 0 → (∀ σ_5 : St, σ_5 = su σ_1 244 9 x1 → (Q (nI 1) σ_5))) ∧ (r_2 = 0 → (Q (nI 0) σ_1)))))
def wp_X9_here_0 (Q : Int32 → St → Prop) (ih0 : St → Prop) (σ : St) : Prop :=
  ((σ 244 10) ≤ (σ 244 11) → (Q (σ 244 11) σ)) ∧ (¬ (σ 244 10) ≤ (σ 244 11) → (vp_in (σ 244 11) 400 ∧ ((¬ (σ 249 (Int32.toNatClampNeg (σ 244 11))) = (nI 32) → (Q (σ 244 11) σ)) ∧ ((σ 249 (Int32.toNatClampNeg (σ 244 11))) = (nI 32) → (∀ σ_4 : St, σ_4 = su σ 244 11 ((σ 244 11) + (nI 1)) → (ih0 σ_4))))))
def wp_X9_here (σ : St) (Q : Int32 → St → Prop) : Prop :=
  ∃ n9 : Nat, LP1 (wp_X9_here_0 Q) n9 σ
def wp_X9_wrong (σ : St) (x1 : Int32) (Q : St → Prop) : Prop :=
  (¬ (σ 244 12) = (-1) → (Q σ)) ∧ ((σ 244 12) = (-1) → (∀ σ_2 : St, σ_2 = su σ 244 12 x1 → (Q σ_2)))
def wp_X9_has_60 (σ : St) (w1 : Nat) (x2 : Int32) (Q : Int32 → St → Prop) (ih60 : Int32 → Prop) (x3 : Int32) : Prop :=
  ((nI (litL.getD w1 0)) ≤ x3 → (∀ σ_2 : St, σ_2 = su σ 244 11 x2 → (Q (nI 1) σ_2))) ∧ (¬ (nI (litL.getD w1 0)) ≤ x3 → (vp_in ((σ 244 11) + x3) 400 ∧ (vp_in x3 (litL.getD w1 0) ∧ (((σ 249 (Int32.toNatClampNeg ((σ 244 11) + x3))) = ((litB.getD w1 []).getD (Int32.toNatClampNeg x3) 0) → (∀ x3_6 : Int32, x3_6 = x3 + (nI 1) → (ih60 x3_6))) ∧ (¬ (σ 249 (Int32.toNatClampNeg ((σ 244 11) + x3))) = ((litB.getD w1 []).getD (Int32.toNatClampNeg x3) 0) → (Q (nI 0) σ))))))
def wp_X9_has_35 (σ : St) (w1 : Nat) (x2 : Int32) (Q : Int32 → St → Prop) : Prop :=
  (¬ (σ 244 12) = (-1) → (Q (nI 0) σ)) ∧ ((σ 244 12) = (-1) → (((x2 - (σ 244 11)) = (nI (litL.getD w1 0)) → (∃ n9 : Nat, LP1 (wp_X9_has_60 σ w1 x2 Q) n9 (nI 0))) ∧ (¬ (x2 - (σ 244 11)) = (nI (litL.getD w1 0)) → (Q (nI 0) σ))))
def wp_X9_has_5 (σ : St) (w1 : Nat) (Q : Int32 → St → Prop) (ih5 : Int32 → Prop) (x2 : Int32) : Prop :=
  ((σ 244 10) ≤ x2 → (wp_X9_has_35 σ w1 x2 Q)) ∧ (¬ (σ 244 10) ≤ x2 → (vp_in x2 400 ∧ (wp_X9_isIn σ (σ 249 (Int32.toNatClampNeg x2)) (nI 97) (nI 122) (fun r_11 => ((r_11 = 0 → (wp_X9_has_35 σ w1 x2 Q)) ∧ (¬ r_11 = 0 → (∀ x2_14 : Int32, x2_14 = x2 + (nI 1) → (ih5 x2_14))))))))
def wp_X9_has (σ : St) (w1 : Nat) (Q : Int32 → St → Prop) : Prop :=
  wp_X9_here σ (fun r_15 σ_16 => (∃ n9 : Nat, LP1 (wp_X9_has_5 σ_16 w1 Q) n9 r_15))
def wp_X9_number_121 (σ : St) (x3 : Int32) (x4 : Int32) (Q : Int32 → St → Prop) : Prop :=
  wp_X9_wrong σ x3 (fun σ_1 => (Q x4 σ_1))
def wp_X9_number_91 (σ : St) (x1 : Int32) (x2 : Int32) (x3 : Int32) (x4 : Int32) (Q : Int32 → St → Prop) : Prop :=
  ((σ 244 11) = x3 → (wp_X9_number_121 σ x3 x4 Q)) ∧ (¬ (σ 244 11) = x3 → (((nI 3) < ((σ 244 11) - x3) → (wp_X9_number_121 σ x3 x4 Q)) ∧ (¬ (nI 3) < ((σ 244 11) - x3) → ((x4 < x1 → (wp_X9_number_121 σ x3 x4 Q)) ∧ (¬ x4 < x1 → ((x4 ≤ x2 → (Q x4 σ)) ∧ (¬ x4 ≤ x2 → (wp_X9_number_121 σ x3 x4 Q))))))))
def wp_X9_number_18 (x1 : Int32) (x2 : Int32) (x3 : Int32) (Q : Int32 → St → Prop) (ih18 : St → Int32 → Prop) (σ : St) (x4 : Int32) : Prop :=
  ((σ 244 10) ≤ (σ 244 11) → (wp_X9_number_91 σ x1 x2 x3 x4 Q)) ∧ (¬ (σ 244 10) ≤ (σ 244 11) → (vp_in (σ 244 11) 400 ∧ (wp_X9_isIn σ (σ 249 (Int32.toNatClampNeg (σ 244 11))) (nI 48) (nI 57) (fun r_8 => ((r_8 = 0 → (wp_X9_number_91 σ x1 x2 x3 x4 Q)) ∧ (¬ r_8 = 0 → (((nI 3) < ((σ 244 11) - x3) → (wp_X9_number_91 σ x1 x2 x3 x4 Q)) ∧ (¬ (nI 3) < ((σ 244 11) - x3) → (vp_in (σ 244 11) 400 ∧ (∀ x4_13 : Int32, x4_13 = (((nI 10) * x4) + (σ 249 (Int32.toNatClampNeg (σ 244 11)))) - (nI 48) → (∀ σ_14 : St, σ_14 = su σ 244 11 ((σ 244 11) + (nI 1)) → (ih18 σ_14 x4_13))))))))))))
def wp_X9_number (σ : St) (x1 : Int32) (x2 : Int32) (Q : Int32 → St → Prop) : Prop :=
  ((σ 244 12) = (-1) → (wp_X9_here σ (fun r_16 σ_17 => (∃ n9 : Nat, LP2 (wp_X9_number_18 x1 x2 r_16 Q) n9 σ_17 (nI 0))))) ∧ (¬ (σ 244 12) = (-1) → (Q (nI 0) σ))
def wp_X9_joinText_59 (σ : St) (x1 : Int32) (x2 : Int32) (Q : Int32 → St → Prop) : Prop :=
  wp_X9_number σ (nI 0) (nI 31) (fun r_1 σ_2 => (wp_X9_number σ_2 (nI 0) (nI 31) (fun r_3 σ_4 => ((¬ (σ_4 244 12) = (-1) → (Q (nI 0) σ_4)) ∧ ((σ_4 244 12) = (-1) → (wp_X9_join0 σ_4 x1 x2 r_1 r_3 (fun r_6 σ_7 => (Q r_6 σ_7))))))))
def wp_X9_joinText (σ : St) (Q : Int32 → St → Prop) : Prop :=
  wp_X9_number σ (nI 0) (nI 99) (fun r_8 σ_9 => (wp_X9_number σ_9 (nI 0) (nI 99) (fun r_10 σ_11 => (wp_X9_has σ_11 10 (fun r_12 σ_13 => ((r_12 = 0 → ((¬ (σ_13 244 12) = (-1) → (wp_X9_joinText_59 σ_13 r_8 r_10 Q)) ∧ ((σ_13 244 12) = (-1) → (wp_X9_has σ_13 11 (fun r_16 σ_17 => ((¬ r_16 = 0 → (wp_X9_joinText_59 σ_17 r_8 r_10 Q)) ∧ (r_16 = 0 → (wp_X9_wrong σ_17 (σ_17 244 11) (fun σ_19 => (wp_X9_joinText_59 σ_19 r_8 r_10 Q)))))))))) ∧ (¬ r_12 = 0 → (wp_X9_near0 σ_13 r_8 r_10 (fun r_20 σ_21 => (Q r_20 σ_21))))))))))
def wp_X9_landmarkText (σ : St) (Q : Int32 → St → Prop) : Prop :=
  wp_X9_number σ (nI 0) (nI 99) (fun r_1 σ_2 => (wp_X9_number σ_2 (nI 0) (nI 99) (fun r_3 σ_4 => ((¬ (σ_4 244 12) = (-1) → (Q (nI 0) σ_4)) ∧ ((σ_4 244 12) = (-1) → (wp_X9_landmark0 σ_4 r_1 r_3 (fun r_6 σ_7 => (Q r_6 σ_7))))))))
def wp_X9_go0 (σ : St) (x1 : Int32) (x2 : Int32) (Q : Int32 → St → Prop) : Prop :=
  (x2 = nI 0 → (wp_X9_leave0 σ x1 (fun r_2 σ_3 => (Q r_2 σ_3)))) ∧ (¬ x2 = nI 0 → ((x2 = nI 1 → (wp_X9_crash0 σ x1 (fun r_5 σ_6 => (Q r_5 σ_6)))) ∧ (¬ x2 = nI 1 → (wp_X9_notice0 σ x1 (fun r_7 σ_8 => (Q r_7 σ_8))))))
def wp_X9_goText (σ : St) (x1 : Int32) (Q : Int32 → St → Prop) : Prop :=
  wp_X9_number σ (nI 0) (nI 9) (fun r_1 σ_2 => ((¬ (σ_2 244 12) = (-1) → (Q (nI 0) σ_2)) ∧ ((σ_2 244 12) = (-1) → (wp_X9_go0 σ_2 r_1 x1 (fun r_4 σ_5 => (Q r_4 σ_5))))))
def wp_X9_putText (σ : St) (Q : Int32 → St → Prop) : Prop :=
  wp_X9_number σ (nI 0) (nI 99) (fun r_1 σ_2 => (wp_X9_number σ_2 (nI 0) (nI 999) (fun r_3 σ_4 => ((¬ (σ_4 244 12) = (-1) → (Q (nI 0) σ_4)) ∧ ((σ_4 244 12) = (-1) → (wp_X9_put0 σ_4 r_1 r_3 (fun r_6 σ_7 => (Q r_6 σ_7))))))))
def wp_X9_act_231 (σ : St) (x1 : Int32) (x2 : Int32) (Q : Int32 → St → Prop) : Prop :=
  (x2 ≤ 0 → (Q x2 σ)) ∧ (¬ x2 ≤ 0 → (wp_X9_wrong σ x1 (fun σ_2 => (Q x2 σ_2))))
def wp_X9_act_204 (σ : St) (x1 : Int32) (t0 : Int32) (Q : Int32 → St → Prop) : Prop :=
  wp_X9_act_231 σ x1 t0 Q
def wp_X9_act_37 (σ : St) (x1 : Int32) (x2 : Int32) (Q : Int32 → St → Prop) : Prop :=
  wp_X9_act_231 σ x1 x2 Q
def wp_X9_act (σ : St) (Q : Int32 → St → Prop) : Prop :=
  wp_X9_here σ (fun r_3 σ_4 => (wp_X9_has σ_4 0 (fun r_5 σ_6 => ((r_5 = 0 → (wp_X9_has σ_6 1 (fun r_8 σ_9 => ((r_8 = 0 → (wp_X9_has σ_9 2 (fun r_11 σ_12 => ((r_11 = 0 → (wp_X9_has σ_12 3 (fun r_14 σ_15 => ((r_14 = 0 → (wp_X9_has σ_15 4 (fun r_17 σ_18 => ((r_17 = 0 → (wp_X9_has σ_18 5 (fun r_20 σ_21 => ((r_20 = 0 → (wp_X9_has σ_21 6 (fun r_23 σ_24 => ((r_23 = 0 → (wp_X9_has σ_24 7 (fun r_26 σ_27 => ((r_26 = 0 → (wp_X9_has σ_27 8 (fun r_29 σ_30 => ((r_29 = 0 → (wp_X9_has σ_30 9 (fun r_32 σ_33 => ((r_32 = 0 → (wp_X9_wrong σ_33 r_3 (fun σ_35 => (wp_X9_act_231 σ_35 r_3 (nI 0) Q)))) ∧ (¬ r_32 = 0 → (wp_X9_mend0 σ_33 (fun r_36 σ_37 => (wp_X9_act_231 σ_37 r_3 (nI 0) Q)))))))) ∧ (¬ r_29 = 0 → (wp_X9_number σ_30 (nI 0) (nI 99) (fun r_38 σ_39 => ((¬ (σ_39 244 12) = (-1) → (wp_X9_act_204 σ_39 r_3 (nI 0) Q)) ∧ ((σ_39 244 12) = (-1) → (wp_X9_cut0 σ_39 r_38 (fun r_41 σ_42 => (wp_X9_act_204 σ_42 r_3 r_41 Q)))))))))))) ∧ (¬ r_26 = 0 → (wp_X9_putText σ_27 (fun r_43 σ_44 => (wp_X9_act_231 σ_44 r_3 r_43 Q)))))))) ∧ (¬ r_23 = 0 → (wp_X9_tidy0 σ_24 (fun r_45 σ_46 => (wp_X9_act_231 σ_46 r_3 r_45 Q)))))))) ∧ (¬ r_20 = 0 → (wp_X9_goText σ_21 (nI 2) (fun r_47 σ_48 => (wp_X9_act_231 σ_48 r_3 r_47 Q)))))))) ∧ (¬ r_17 = 0 → (wp_X9_goText σ_18 (nI 1) (fun r_49 σ_50 => (wp_X9_act_231 σ_50 r_3 r_49 Q)))))))) ∧ (¬ r_14 = 0 → (wp_X9_goText σ_15 (nI 0) (fun r_51 σ_52 => (wp_X9_act_231 σ_52 r_3 r_51 Q)))))))) ∧ (¬ r_11 = 0 → (wp_X9_joinText σ_12 (fun r_53 σ_54 => (wp_X9_act_231 σ_54 r_3 r_53 Q)))))))) ∧ (¬ r_8 = 0 → (wp_X9_landmarkText σ_9 (fun r_55 σ_56 => (wp_X9_act_231 σ_56 r_3 r_55 Q)))))))) ∧ (¬ r_5 = 0 → (wp_X9_number σ_6 (nI 1) (nI 3) (fun r_57 σ_58 => ((¬ (σ_58 244 12) = (-1) → (wp_X9_act_37 σ_58 r_3 (nI 0) Q)) ∧ ((σ_58 244 12) = (-1) → (wp_X9_clearsAll σ_58 r_57 (fun σ_60 => (wp_X9_act_37 σ_60 r_3 (nI 0) Q))))))))))))
def wp_X9_acts_220 (Q : Int32 → St → Prop) (ih220 : St → Int32 → Prop) (σ : St) (x4 : Int32) : Prop :=
  ((nI 6682) ≤ x4 → (Q (nI 0) σ)) ∧ (¬ (nI 6682) ≤ x4 → (vp_in x4 6682 ∧ (vp_in x4 6682 ∧ (∀ σ_4 : St, σ_4 = su σ 245 (Int32.toNatClampNeg x4) (σ 246 (Int32.toNatClampNeg x4)) → (∀ x4_5 : Int32, x4_5 = x4 + (nI 1) → (ih220 σ_4 x4_5))))))
def wp_X9_acts_168 (σ : St) (x1 : Int32) (x2 : Int32) (t1 : Int32) (Q : Int32 → St → Prop) : Prop :=
  ∀ σ_6 : St, σ_6 = su σ 244 0 t1 → ((¬ (σ_6 244 0) = 0 → ((x2 ≤ 0 → (∀ σ_9 : St, σ_9 = su σ_6 244 7 (σ_6 244 7) → (∃ n9 : Nat, LP2 (wp_X9_acts_220 Q) n9 σ_9 (nI 0)))) ∧ (¬ x2 ≤ 0 → (∀ σ_10 : St, σ_10 = su σ_6 244 7 x2 → (∃ n9 : Nat, LP2 (wp_X9_acts_220 Q) n9 σ_10 (nI 0)))))) ∧ ((σ_6 244 0) = 0 → ((x1 ≤ 0 → (∀ σ_12 : St, σ_12 = su σ_6 244 7 (σ_6 244 7) → (∀ σ_13 : St, σ_13 = su σ_12 244 5 (nI 0) → (Q x1 σ_13)))) ∧ (¬ x1 ≤ 0 → (∀ σ_14 : St, σ_14 = su σ_6 244 7 (nI 0) → (∀ σ_15 : St, σ_15 = su σ_14 244 5 (nI 0) → (Q x1 σ_15)))))))
def wp_X9_acts_154 (σ : St) (x1 : Int32) (x2 : Int32) (Q : Int32 → St → Prop) : Prop :=
  (¬ (σ 244 12) = (-1) → (wp_X9_acts_168 σ x1 x2 (nI 1) Q)) ∧ ((σ 244 12) = (-1) → (wp_X9_acts_168 σ x1 x2 (nI 0) Q))
def wp_X9_acts_106 (σ : St) (x1 : Int32) (x2 : Int32) (t0 : Int32) (ih48 : St → Int32 → Int32 → Int32 → Prop) (Q : Int32 → St → Prop) : Prop :=
  (t0 = 0 → (ih48 σ x1 x2 t0)) ∧ (¬ t0 = 0 → ((¬ (σ 244 12) = (-1) → (ih48 σ x1 x2 t0)) ∧ ((σ 244 12) = (-1) → (vp_in (σ 244 11) 400 ∧ (((σ 249 (Int32.toNatClampNeg (σ 244 11))) = (nI 59) → (∀ σ_21 : St, σ_21 = su σ 244 11 ((σ 244 11) + (nI 1)) → (ih48 σ_21 x1 x2 t0))) ∧ (¬ (σ 249 (Int32.toNatClampNeg (σ 244 11))) = (nI 59) → (wp_X9_wrong σ (σ 244 11) (fun σ_22 => (∀ σ_23 : St, σ_23 = su σ_22 244 11 ((σ_22 244 11) + (nI 1)) → (ih48 σ_23 x1 x2 t0))))))))))
def wp_X9_acts_87 (σ : St) (x1 : Int32) (x2 : Int32) (ih48 : St → Int32 → Int32 → Int32 → Prop) (Q : Int32 → St → Prop) : Prop :=
  ∀ x1_24 : Int32, x1_24 = x1 + (nI 1) → (wp_X9_here σ (fun r_25 σ_26 => (((σ_26 244 10) ≤ r_25 → (wp_X9_acts_106 σ_26 x1_24 x2 (nI 0) ih48 Q)) ∧ (¬ (σ_26 244 10) ≤ r_25 → (wp_X9_acts_106 σ_26 x1_24 x2 (nI 1) ih48 Q)))))
def wp_X9_acts_74 (σ : St) (x1 : Int32) (x2 : Int32) (ih48 : St → Int32 → Int32 → Int32 → Prop) (Q : Int32 → St → Prop) : Prop :=
  (¬ (σ 244 12) = (-1) → (wp_X9_acts_87 σ x1 x2 ih48 Q)) ∧ ((σ 244 12) = (-1) → (wp_X9_act σ (fun r_29 σ_30 => (wp_X9_acts_87 σ_30 x1 r_29 ih48 Q))))
def wp_X9_acts_48 (Q : Int32 → St → Prop) (ih48 : St → Int32 → Int32 → Int32 → Prop) (σ : St) (x1 : Int32) (x2 : Int32) (x3 : Int32) : Prop :=
  (x3 = 0 → (wp_X9_acts_154 σ x1 x2 Q)) ∧ (¬ x3 = 0 → ((¬ (σ 244 12) = (-1) → (wp_X9_acts_154 σ x1 x2 Q)) ∧ ((σ 244 12) = (-1) → ((¬ x1 = (nI 14) → (wp_X9_acts_74 σ x1 x2 ih48 Q)) ∧ (x1 = (nI 14) → (wp_X9_here σ (fun r_34 σ_35 => (wp_X9_wrong σ_35 r_34 (fun σ_36 => (wp_X9_acts_74 σ_36 x1 x2 ih48 Q))))))))))
def wp_X9_acts (σ : St) (Q : Int32 → St → Prop) : Prop :=
  ∀ σ_37 : St, σ_37 = su σ 244 12 (-1) → (∀ σ_38 : St, σ_38 = su σ_37 244 10 (σ_37 244 9) → (∀ σ_39 : St, σ_39 = su σ_38 244 9 (nI 0) → (∀ σ_40 : St, σ_40 = su σ_39 244 11 (nI 0) → (wp_X9_putsAside σ_40 (fun σ_41 => (wp_X9_here σ_41 (fun r_42 σ_43 => (((σ_43 244 10) ≤ r_42 → (∃ n9 : Nat, LP4 (wp_X9_acts_48 Q) n9 σ_43 (nI 0) (nI 0) (nI 0))) ∧ (¬ (σ_43 244 10) ≤ r_42 → (∃ n9 : Nat, LP4 (wp_X9_acts_48 Q) n9 σ_43 (nI 0) (nI 0) (nI 1)))))))))))
def wp_X9_fault (σ : St) (Q : Int32 → St → Prop) : Prop :=
  ∀ σ_1 : St, σ_1 = su σ 244 0 (nI 0) → (Q (σ_1 244 12) σ_1)
def wp_X9_why (σ : St) (Q : Int32 → St → Prop) : Prop :=
  ∀ σ_1 : St, σ_1 = su σ 244 0 (nI 0) → (Q (σ_1 244 7) σ_1)
def wp_X9_isPlace (σ : St) (x0 : Int32) (x1 : Int32) (Q : Int32 → Prop) : Prop :=
  wp_X9_isIn σ x0 (nI 0) (nI 99) (fun r_1 => ((r_1 = 0 → (Q (nI 0))) ∧ (¬ r_1 = 0 → (wp_X9_isIn σ x1 (nI 0) (nI 99) (fun r_4 => ((r_4 = 0 → (Q (nI 0))) ∧ (¬ r_4 = 0 → (Q (nI 1)))))))))
def wp_X9_isCell (σ : St) (x0 : Int32) (x1 : Int32) (Q : Int32 → Prop) : Prop :=
  wp_X9_isIn σ x0 (nI 0) (nI 31) (fun r_1 => ((r_1 = 0 → (Q (nI 0))) ∧ (¬ r_1 = 0 → (wp_X9_isIn σ x1 (nI 0) (nI 31) (fun r_4 => ((r_4 = 0 → (Q (nI 0))) ∧ (¬ r_4 = 0 → (Q (nI 1)))))))))
def wp_X9_join_23 (σ : St) (x1 : Int32) (x2 : Int32) (x3 : Int32) (x4 : Int32) (t1 : Int32) (Q : Int32 → St → Prop) : Prop :=
  ∀ σ_1 : St, σ_1 = su σ 244 0 t1 → (((σ_1 244 0) ≤ 0 → (wp_X9_putsAside σ_1 (fun σ_3 => (wp_X9_join0 σ_3 x1 x2 x3 x4 (fun r_4 σ_5 => (wp_X9_isDone σ_5 r_4 (nI 2) (fun r_6 σ_7 => ((r_6 = 0 → (Q (nI 0) σ_7)) ∧ (¬ r_6 = 0 → (Q (σ_7 244 28) σ_7)))))))))) ∧ (¬ (σ_1 244 0) ≤ 0 → (Q (nI 0) σ_1)))
def wp_X9_join_22 (σ : St) (x1 : Int32) (x2 : Int32) (x3 : Int32) (x4 : Int32) (Q : Int32 → St → Prop) : Prop :=
  wp_X9_join_23 σ x1 x2 x3 x4 (nI 1) Q
def wp_X9_join (σ : St) (x1 : Int32) (x2 : Int32) (x3 : Int32) (x4 : Int32) (Q : Int32 → St → Prop) : Prop :=
  wp_X9_isPlace σ x1 x2 (fun r_9 => ((r_9 = 0 → (wp_X9_join_22 σ x1 x2 x3 x4 Q)) ∧ (¬ r_9 = 0 → (wp_X9_isCell σ x3 x4 (fun r_12 => ((r_12 = 0 → (wp_X9_join_22 σ x1 x2 x3 x4 Q)) ∧ (¬ r_12 = 0 → (wp_X9_join_23 σ x1 x2 x3 x4 (nI 0) Q))))))))
def wp_X9_near_14 (σ : St) (x1 : Int32) (x2 : Int32) (t1 : Int32) (Q : Int32 → St → Prop) : Prop :=
  ∀ σ_1 : St, σ_1 = su σ 244 0 t1 → (((σ_1 244 0) ≤ 0 → (wp_X9_putsAside σ_1 (fun σ_3 => (wp_X9_near0 σ_3 x1 x2 (fun r_4 σ_5 => (wp_X9_isDone σ_5 r_4 (nI 2) (fun r_6 σ_7 => ((r_6 = 0 → (Q (nI 0) σ_7)) ∧ (¬ r_6 = 0 → (Q (σ_7 244 28) σ_7)))))))))) ∧ (¬ (σ_1 244 0) ≤ 0 → (Q (nI 0) σ_1)))
def wp_X9_near (σ : St) (x1 : Int32) (x2 : Int32) (Q : Int32 → St → Prop) : Prop :=
  wp_X9_isPlace σ x1 x2 (fun r_9 => ((r_9 = 0 → (wp_X9_near_14 σ x1 x2 (nI 1) Q)) ∧ (¬ r_9 = 0 → (wp_X9_near_14 σ x1 x2 (nI 0) Q))))
def wp_X9_isNode (σ : St) (x0 : Int32) (Q : Int32 → Prop) : Prop :=
  wp_X9_isIn σ x0 (nI 0) (nI 9) (fun r_1 => ((r_1 = 0 ∨ r_1 = 1) ∧ (Q r_1)))
def wp_X9_go_26 (σ : St) (x1 : Int32) (x2 : Int32) (t1 : Int32) (Q : Int32 → St → Prop) : Prop :=
  ∀ σ_1 : St, σ_1 = su σ 244 0 t1 → (((σ_1 244 0) ≤ 0 → (wp_X9_putsAside σ_1 (fun σ_3 => (wp_X9_go0 σ_3 x1 x2 (fun r_4 σ_5 => (wp_X9_isDone σ_5 r_4 (nI 3) (fun r_6 σ_7 => ((r_6 = 0 → (Q (nI 0) σ_7)) ∧ (¬ r_6 = 0 → (wp_X9_countOf σ_7 (nI 1) (fun r_9 => (Q r_9 σ_7)))))))))))) ∧ (¬ (σ_1 244 0) ≤ 0 → (Q (nI 0) σ_1)))
def wp_X9_go (σ : St) (x1 : Int32) (x2 : Int32) (Q : Int32 → St → Prop) : Prop :=
  wp_X9_isNode σ x1 (fun r_11 => ((¬ r_11 = 0 → (wp_X9_isIn σ x2 (nI 0) (nI 2) (fun r_14 => ((¬ r_14 = 0 → (wp_X9_go_26 σ x1 x2 (nI 0) Q)) ∧ (r_14 = 0 → (wp_X9_go_26 σ x1 x2 (nI 2) Q)))))) ∧ (r_11 = 0 → (wp_X9_go_26 σ x1 x2 (nI 1) Q))))
def wp_X9_tidy (σ : St) (Q : Int32 → St → Prop) : Prop :=
  wp_X9_putsAside σ (fun σ_1 => (wp_X9_allZones σ_1 (fun r_2 σ_3 => (wp_X9_tidy0 σ_3 (fun r_4 σ_5 => (wp_X9_isDone σ_5 r_4 (nI 1) (fun r_6 σ_7 => ((r_6 = 0 → (Q (nI 0) σ_7)) ∧ (¬ r_6 = 0 → (wp_X9_allZones σ_7 (fun r_9 σ_10 => (Q (r_2 - r_9) σ_10))))))))))))
def wp_X9_isKey (σ : St) (x0 : Int32) (Q : Int32 → Prop) : Prop :=
  wp_X9_isIn σ x0 (nI 0) (nI 99) (fun r_1 => ((r_1 = 0 ∨ r_1 = 1) ∧ (Q r_1)))
def wp_X9_put_28 (σ : St) (x1 : Int32) (x2 : Int32) (t1 : Int32) (Q : Int32 → St → Prop) : Prop :=
  ∀ σ_1 : St, σ_1 = su σ 244 0 t1 → (((σ_1 244 0) ≤ 0 → (wp_X9_putsAside σ_1 (fun σ_3 => (wp_X9_put0 σ_3 x1 x2 (fun r_4 σ_5 => (wp_X9_isDone σ_5 r_4 (nI 3) (fun r_6 σ_7 => ((r_6 = 0 → (Q (nI 0) σ_7)) ∧ (¬ r_6 = 0 → (wp_X9_heldIn σ_7 x1 (fun r_9 => (Q r_9 σ_7)))))))))))) ∧ (¬ (σ_1 244 0) ≤ 0 → (Q (nI 0) σ_1)))
def wp_X9_put (σ : St) (x1 : Int32) (x2 : Int32) (Q : Int32 → St → Prop) : Prop :=
  wp_X9_isKey σ x1 (fun r_11 => ((¬ r_11 = 0 → (wp_X9_isIn σ x2 (nI 0) (nI 999) (fun r_14 => ((¬ r_14 = 0 → (wp_X9_put_28 σ x1 x2 (nI 0) Q)) ∧ (r_14 = 0 → (wp_X9_put_28 σ x1 x2 (nI 2) Q)))))) ∧ (r_11 = 0 → (wp_X9_put_28 σ x1 x2 (nI 1) Q))))
def wp_X9_cut_13 (σ : St) (x1 : Int32) (t1 : Int32) (Q : Int32 → St → Prop) : Prop :=
  ∀ σ_1 : St, σ_1 = su σ 244 0 t1 → (((σ_1 244 0) ≤ 0 → (wp_X9_putsAside σ_1 (fun σ_3 => (vp_in ((nI 138) + x1) 6682 ∧ (∀ x2_5 : Int32, x2_5 = σ_3 245 (Int32.toNatClampNeg ((nI 138) + x1)) → (wp_X9_cut0 σ_3 x1 (fun r_6 σ_7 => (wp_X9_isDone σ_7 r_6 (nI 2) (fun r_8 σ_9 => ((r_8 = 0 → (Q (nI 0) σ_9)) ∧ (¬ r_8 = 0 → (Q x2_5 σ_9)))))))))))) ∧ (¬ (σ_1 244 0) ≤ 0 → (Q (nI 0) σ_1)))
def wp_X9_cut (σ : St) (x1 : Int32) (Q : Int32 → St → Prop) : Prop :=
  wp_X9_isKey σ x1 (fun r_11 => ((r_11 = 0 → (wp_X9_cut_13 σ x1 (nI 1) Q)) ∧ (¬ r_11 = 0 → (wp_X9_cut_13 σ x1 (nI 0) Q))))
def wp_X9_mend (σ : St) (Q : Int32 → St → Prop) : Prop :=
  wp_X9_putsAside σ (fun σ_1 => (wp_X9_mend0 σ_1 (fun r_2 σ_3 => (wp_X9_isDone σ_3 (nI 0) (nI 0) (fun r_4 σ_5 => ((r_4 = 0 → (Q (nI 0) σ_5)) ∧ (¬ r_4 = 0 → (Q r_2 σ_5))))))))
def wp_X9_undo_37 (Q : Int32 → St → Prop) (ih37 : St → Int32 → Prop) (σ : St) (x1 : Int32) : Prop :=
  ((nI 6682) ≤ x1 → (Q (σ 244 5) σ)) ∧ (¬ (nI 6682) ≤ x1 → (vp_in (((nI 6682) * (σ 244 5)) + x1) 53456 ∧ (vp_in x1 6682 ∧ (∀ σ_4 : St, σ_4 = su σ 245 (Int32.toNatClampNeg x1) (σ 248 (Int32.toNatClampNeg (((nI 6682) * (σ 244 5)) + x1))) → (∀ x1_5 : Int32, x1_5 = x1 + (nI 1) → (ih37 σ_4 x1_5))))))
def wp_X9_undo_13 (σ : St) (t1 : Int32) (Q : Int32 → St → Prop) : Prop :=
  ∀ σ_6 : St, σ_6 = su σ 244 0 t1 → (((σ_6 244 0) ≤ 0 → (∀ σ_8 : St, σ_8 = su σ_6 244 5 ((σ_6 244 5) - (nI 1)) → (∃ n9 : Nat, LP2 (wp_X9_undo_37 Q) n9 σ_8 (nI 0)))) ∧ (¬ (σ_6 244 0) ≤ 0 → (Q (nI 0) σ_6)))
def wp_X9_undo (σ : St) (Q : Int32 → St → Prop) : Prop :=
  (¬ (σ 244 5) = 0 → (wp_X9_undo_13 σ (nI 0) Q)) ∧ ((σ 244 5) = 0 → (wp_X9_undo_13 σ (nI 1) Q))
def wp_X9_node_26 (σ : St) (x1 : Int32) (x2 : Int32) (t1 : Int32) (Q : Int32 → St → Prop) : Prop :=
  ∀ σ_1 : St, σ_1 = su σ 244 0 t1 → (((σ_1 244 0) ≤ 0 → ((¬ x2 = 0 → (wp_X9_isState σ_1 x1 (nI 0) (fun r_4 => ((r_4 = 0 → ((¬ x2 = (nI 1) → (vp_in ((nI 20) + x1) 6682 ∧ (Q (σ_1 245 (Int32.toNatClampNeg ((nI 20) + x1))) σ_1))) ∧ (x2 = (nI 1) → (vp_in ((nI 10) + x1) 6682 ∧ (Q (σ_1 245 (Int32.toNatClampNeg ((nI 10) + x1))) σ_1))))) ∧ (¬ r_4 = 0 → (Q (-1) σ_1)))))) ∧ (x2 = 0 → (vp_in ((nI 0) + x1) 6682 ∧ (Q (σ_1 245 (Int32.toNatClampNeg ((nI 0) + x1))) σ_1))))) ∧ (¬ (σ_1 244 0) ≤ 0 → (Q (nI 0) σ_1)))
def wp_X9_node (σ : St) (x1 : Int32) (x2 : Int32) (Q : Int32 → St → Prop) : Prop :=
  wp_X9_isNode σ x1 (fun r_11 => ((¬ r_11 = 0 → (wp_X9_isIn σ x2 (nI 0) (nI 2) (fun r_14 => ((¬ r_14 = 0 → (wp_X9_node_26 σ x1 x2 (nI 0) Q)) ∧ (r_14 = 0 → (wp_X9_node_26 σ x1 x2 (nI 2) Q)))))) ∧ (r_11 = 0 → (wp_X9_node_26 σ x1 x2 (nI 1) Q))))
def wp_X9_isReality (σ : St) (x1 : Int32) (Q : Int32 → Prop) : Prop :=
  wp_X9_isIn σ x1 (nI 0) ((σ 245 37) - (nI 1)) (fun r_1 => ((r_1 = 0 ∨ r_1 = 1) ∧ (Q r_1)))
def wp_X9_loadOf_5 (x1 : Int32) (x2 : Int32) (Q : Int32 → St → Prop) (ih5 : St → Int32 → Int32 → Prop) (σ : St) (x3 : Int32) (x4 : Int32) : Prop :=
  ((nI 100) ≤ x4 → (Q x3 σ)) ∧ (¬ (nI 100) ≤ x4 → (wp_X9_isHeld σ x4 x2 (fun r_2 => ((r_2 = 0 → (∀ x3_5 : Int32, x3_5 = x3 + (nI 0) → (∀ x4_6 : Int32, x4_6 = x4 + (nI 1) → (ih5 σ x3_5 x4_6)))) ∧ (¬ r_2 = 0 → (wp_X9_keeperOf σ x4 x2 (fun r_7 σ_8 => ((¬ r_7 = x1 → (∀ x3_10 : Int32, x3_10 = x3 + (nI 0) → (∀ x4_11 : Int32, x4_11 = x4 + (nI 1) → (ih5 σ_8 x3_10 x4_11)))) ∧ (r_7 = x1 → (∀ x3_12 : Int32, x3_12 = x3 + (nI 1) → (∀ x4_13 : Int32, x4_13 = x4 + (nI 1) → (ih5 σ_8 x3_12 x4_13))))))))))))
def wp_X9_loadOf (σ : St) (x1 : Int32) (x2 : Int32) (Q : Int32 → St → Prop) : Prop :=
  ∃ n9 : Nat, LP3 (wp_X9_loadOf_5 x1 x2 Q) n9 σ (nI 0) (nI 0)
def wp_X9_members_4 (σ : St) (x0 : Int32) (Q : Int32 → Prop) (ih4 : Int32 → Int32 → Prop) (x1 : Int32) (x2 : Int32) : Prop :=
  ((nI 10) ≤ x2 → (Q x1)) ∧ (¬ (nI 10) ≤ x2 → (∀ x1_2 : Int32, x1_2 = x1 + ((x0 >>> (x2 &&& 31)) &&& (nI 1)) → (∀ x2_3 : Int32, x2_3 = x2 + (nI 1) → (ih4 x1_2 x2_3))))
def wp_X9_members (σ : St) (x0 : Int32) (Q : Int32 → Prop) : Prop :=
  ∃ n9 : Nat, LP2 (wp_X9_members_4 σ x0 Q) n9 (nI 0) (nI 0)
def wp_X9_hubOf_4 (σ : St) (Q : Int32 → Prop) (ih4 : Int32 → Int32 → Prop) (x1 : Int32) (x2 : Int32) : Prop :=
  ((nI 10) ≤ x2 → (Q x1)) ∧ (¬ (nI 10) ≤ x2 → (wp_X9_isState σ x2 (nI 1) (fun r_2 => ((¬ r_2 = 0 → ((x1 = (-1) → (∀ x2_6 : Int32, x2_6 = x2 + (nI 1) → (ih4 x2 x2_6))) ∧ (¬ x1 = (-1) → (wp_X9_besideNode σ x2 (fun r_7 => (wp_X9_members σ r_7 (fun r_9 => (wp_X9_besideNode σ x1 (fun r_11 => (wp_X9_members σ r_11 (fun r_13 => ((r_9 ≤ r_13 → (∀ x2_16 : Int32, x2_16 = x2 + (nI 1) → (ih4 x1 x2_16))) ∧ (¬ r_9 ≤ r_13 → (∀ x2_17 : Int32, x2_17 = x2 + (nI 1) → (ih4 x2 x2_17))))))))))))))) ∧ (r_2 = 0 → (∀ x2_18 : Int32, x2_18 = x2 + (nI 1) → (ih4 x1 x2_18)))))))
def wp_X9_hubOf (σ : St) (Q : Int32 → Prop) : Prop :=
  ∃ n9 : Nat, LP2 (wp_X9_hubOf_4 σ Q) n9 (-1) (nI 0)
def wp_X9_held_34 (σ : St) (x1 : Int32) (x2 : Int32) (x3 : Int32) (t1 : Int32) (Q : Int32 → St → Prop) : Prop :=
  ∀ σ_1 : St, σ_1 = su σ 244 0 t1 → (((σ_1 244 0) ≤ 0 → (wp_X9_laysList σ_1 x2 (fun σ_3 => ((x3 = nI 0 → (wp_X9_zonesOf σ_3 x1 (fun r_6 => (Q r_6 σ_3)))) ∧ (¬ x3 = nI 0 → ((x3 = nI 1 → (wp_X9_volumeOf σ_3 x1 (fun r_9 => (Q r_9 σ_3)))) ∧ (¬ x3 = nI 1 → ((x3 = nI 2 → (wp_X9_besideNode σ_3 x1 (fun r_12 => (Q r_12 σ_3)))) ∧ (¬ x3 = nI 2 → ((x3 = nI 3 → (wp_X9_loadOf σ_3 x1 x2 (fun r_15 σ_16 => (Q r_15 σ_16)))) ∧ (¬ x3 = nI 3 → (wp_X9_hubOf σ_3 (fun r_17 => ((¬ r_17 = x1 → (Q (nI 0) σ_3)) ∧ (r_17 = x1 → (Q (nI 1) σ_3)))))))))))))))) ∧ (¬ (σ_1 244 0) ≤ 0 → (Q (nI 0) σ_1)))
def wp_X9_held_16 (σ : St) (x1 : Int32) (x2 : Int32) (x3 : Int32) (Q : Int32 → St → Prop) : Prop :=
  wp_X9_held_34 σ x1 x2 x3 (nI 1) Q
def wp_X9_held (σ : St) (x1 : Int32) (x2 : Int32) (x3 : Int32) (Q : Int32 → St → Prop) : Prop :=
  wp_X9_isNode σ x1 (fun r_20 => ((r_20 = 0 → (wp_X9_held_16 σ x1 x2 x3 Q)) ∧ (¬ r_20 = 0 → (wp_X9_isReality σ x2 (fun r_23 => ((¬ r_23 = 0 → (wp_X9_isIn σ x3 (nI 0) (nI 4) (fun r_26 => ((¬ r_26 = 0 → (wp_X9_held_34 σ x1 x2 x3 (nI 0) Q)) ∧ (r_26 = 0 → (wp_X9_held_34 σ x1 x2 x3 (nI 2) Q)))))) ∧ (r_23 = 0 → (wp_X9_held_16 σ x1 x2 x3 Q))))))))
def wp_X9_zoneOf_6 (σ : St) (x1 : Int32) (x2 : Int32) (x3 : Int32) (Q : Int32 → Prop) (ih6 : Int32 → Int32 → Prop) (x4 : Int32) (x5 : Int32) : Prop :=
  ((nI 2048) ≤ x5 → (Q (-1))) ∧ (¬ (nI 2048) ≤ x5 → (wp_X9_ownerOf σ x2 x5 (fun r_2 => ((r_2 = x1 → ((¬ x4 = x3 → (∀ x4_6 : Int32, x4_6 = x4 + (nI 1) → (∀ x5_7 : Int32, x5_7 = x5 + (nI 1) → (ih6 x4_6 x5_7)))) ∧ (x4 = x3 → (Q x5)))) ∧ (¬ r_2 = x1 → (∀ x5_8 : Int32, x5_8 = x5 + (nI 1) → (ih6 x4 x5_8)))))))
def wp_X9_zoneOf (σ : St) (x1 : Int32) (x2 : Int32) (x3 : Int32) (Q : Int32 → Prop) : Prop :=
  ∃ n9 : Nat, LP2 (wp_X9_zoneOf_6 σ x1 x2 x3 Q) n9 (nI 0) (nI 1)
def wp_X9_zone_21 (σ : St) (x1 : Int32) (x2 : Int32) (x3 : Int32) (t1 : Int32) (Q : Int32 → St → Prop) : Prop :=
  ∀ σ_1 : St, σ_1 = su σ 244 0 t1 → (((σ_1 244 0) ≤ 0 → (wp_X9_zoneOf σ_1 x1 x2 x3 (fun r_3 => (Q r_3 σ_1)))) ∧ (¬ (σ_1 244 0) ≤ 0 → (Q (nI 0) σ_1)))
def wp_X9_zone_20 (σ : St) (x1 : Int32) (x2 : Int32) (x3 : Int32) (Q : Int32 → St → Prop) : Prop :=
  wp_X9_zone_21 σ x1 x2 x3 (nI 1) Q
def wp_X9_zone (σ : St) (x1 : Int32) (x2 : Int32) (x3 : Int32) (Q : Int32 → St → Prop) : Prop :=
  wp_X9_isNode σ x1 (fun r_5 => ((r_5 = 0 → (wp_X9_zone_20 σ x1 x2 x3 Q)) ∧ (¬ r_5 = 0 → (wp_X9_isReality σ x2 (fun r_8 => ((r_8 = 0 → (wp_X9_zone_20 σ x1 x2 x3 Q)) ∧ (¬ r_8 = 0 → (wp_X9_zone_21 σ x1 x2 x3 (nI 0) Q))))))))
def wp_X9_box_30 (σ : St) (x1 : Int32) (x2 : Int32) (t1 : Int32) (Q : Int32 → St → Prop) : Prop :=
  ∀ σ_1 : St, σ_1 = su σ 244 0 t1 → (((σ_1 244 0) ≤ 0 → (wp_X9_boxes σ_1 x1 (fun σ_3 => ((x2 = nI 0 → (wp_X9_depthOf σ_3 x1 (fun r_6 => (Q r_6 σ_3)))) ∧ (¬ x2 = nI 0 → ((x2 = nI 1 → (Q (σ_3 244 13) σ_3)) ∧ (¬ x2 = nI 1 → ((x2 = nI 2 → (Q (σ_3 244 14) σ_3)) ∧ (¬ x2 = nI 2 → ((x2 = nI 3 → (Q (σ_3 244 15) σ_3)) ∧ (¬ x2 = nI 3 → (Q (σ_3 244 16) σ_3)))))))))))) ∧ (¬ (σ_1 244 0) ≤ 0 → (Q (nI 0) σ_1)))
def wp_X9_box (σ : St) (x1 : Int32) (x2 : Int32) (Q : Int32 → St → Prop) : Prop :=
  wp_X9_isIn σ x1 (nI 1) (nI 2047) (fun r_11 => ((¬ r_11 = 0 → (wp_X9_isIn σ x2 (nI 0) (nI 4) (fun r_14 => ((¬ r_14 = 0 → (wp_X9_box_30 σ x1 x2 (nI 0) Q)) ∧ (r_14 = 0 → (wp_X9_box_30 σ x1 x2 (nI 2) Q)))))) ∧ (r_11 = 0 → (wp_X9_box_30 σ x1 x2 (nI 1) Q))))
def wp_X9_cell_40 (σ : St) (x1 : Int32) (x2 : Int32) (x3 : Int32) (x4 : Int32) (t1 : Int32) (Q : Int32 → St → Prop) : Prop :=
  ∀ σ_1 : St, σ_1 = su σ 244 0 t1 → (((σ_1 244 0) ≤ 0 → ((¬ x4 = 0 → (wp_X9_nodeAt σ_1 x1 x2 x3 (fun r_4 σ_5 => (Q r_4 σ_5)))) ∧ (x4 = 0 → (wp_X9_zoneAt σ_1 x1 x2 x3 (fun r_6 σ_7 => (Q r_6 σ_7)))))) ∧ (¬ (σ_1 244 0) ≤ 0 → (Q (nI 0) σ_1)))
def wp_X9_cell (σ : St) (x1 : Int32) (x2 : Int32) (x3 : Int32) (x4 : Int32) (Q : Int32 → St → Prop) : Prop :=
  wp_X9_isReality σ x1 (fun r_8 => ((¬ r_8 = 0 → (wp_X9_isCell σ x2 x3 (fun r_11 => ((¬ r_11 = 0 → (wp_X9_isIn σ x4 (nI 0) (nI 1) (fun r_14 => ((¬ r_14 = 0 → (wp_X9_cell_40 σ x1 x2 x3 x4 (nI 0) Q)) ∧ (r_14 = 0 → (wp_X9_cell_40 σ x1 x2 x3 x4 (nI 3) Q)))))) ∧ (r_11 = 0 → (wp_X9_cell_40 σ x1 x2 x3 x4 (nI 2) Q)))))) ∧ (r_8 = 0 → (wp_X9_cell_40 σ x1 x2 x3 x4 (nI 1) Q))))
def wp_X9_heir_21 (σ : St) (x1 : Int32) (x2 : Int32) (x3 : Int32) (t1 : Int32) (Q : Int32 → St → Prop) : Prop :=
  ∀ σ_1 : St, σ_1 = su σ 244 0 t1 → (((σ_1 244 0) ≤ 0 → (wp_X9_zoneOf σ_1 x1 x2 x3 (fun r_3 => ((¬ r_3 = (-1) → (wp_X9_heirOf σ_1 x2 r_3 x1 (fun r_6 σ_7 => (Q r_6 σ_7)))) ∧ (r_3 = (-1) → (Q (-1) σ_1)))))) ∧ (¬ (σ_1 244 0) ≤ 0 → (Q (nI 0) σ_1)))
def wp_X9_heir_20 (σ : St) (x1 : Int32) (x2 : Int32) (x3 : Int32) (Q : Int32 → St → Prop) : Prop :=
  wp_X9_heir_21 σ x1 x2 x3 (nI 1) Q
def wp_X9_heir (σ : St) (x1 : Int32) (x2 : Int32) (x3 : Int32) (Q : Int32 → St → Prop) : Prop :=
  wp_X9_isNode σ x1 (fun r_8 => ((r_8 = 0 → (wp_X9_heir_20 σ x1 x2 x3 Q)) ∧ (¬ r_8 = 0 → (wp_X9_isReality σ x2 (fun r_11 => ((r_11 = 0 → (wp_X9_heir_20 σ x1 x2 x3 Q)) ∧ (¬ r_11 = 0 → (wp_X9_heir_21 σ x1 x2 x3 (nI 0) Q))))))))
def wp_X9_key_26 (σ : St) (x1 : Int32) (x2 : Int32) (t1 : Int32) (Q : Int32 → St → Prop) : Prop :=
  ∀ σ_1 : St, σ_1 = su σ 244 0 t1 → (((σ_1 244 0) ≤ 0 → ((¬ x2 = (nI 1) → (vp_in ((nI 38) + x1) 6682 ∧ ((¬ (σ_1 245 (Int32.toNatClampNeg ((nI 38) + x1))) = (nI 1) → (Q (-1) σ_1)) ∧ ((σ_1 245 (Int32.toNatClampNeg ((nI 38) + x1))) = (nI 1) → (vp_in ((nI 138) + x1) 6682 ∧ (Q (σ_1 245 (Int32.toNatClampNeg ((nI 138) + x1))) σ_1)))))) ∧ (x2 = (nI 1) → (wp_X9_heldIn σ_1 x1 (fun r_7 => (Q r_7 σ_1)))))) ∧ (¬ (σ_1 244 0) ≤ 0 → (Q (nI 0) σ_1)))
def wp_X9_key (σ : St) (x1 : Int32) (x2 : Int32) (Q : Int32 → St → Prop) : Prop :=
  wp_X9_isKey σ x1 (fun r_9 => ((¬ r_9 = 0 → (wp_X9_isIn σ x2 (nI 0) (nI 1) (fun r_12 => ((¬ r_12 = 0 → (wp_X9_key_26 σ x1 x2 (nI 0) Q)) ∧ (r_12 = 0 → (wp_X9_key_26 σ x1 x2 (nI 2) Q)))))) ∧ (r_9 = 0 → (wp_X9_key_26 σ x1 x2 (nI 1) Q))))
def wp_X9_point_34 (σ : St) (x1 : Int32) (x2 : Int32) (x3 : Int32) (t1 : Int32) (Q : Int32 → St → Prop) : Prop :=
  ∀ σ_1 : St, σ_1 = su σ 244 0 t1 → (((σ_1 244 0) ≤ 0 → ((x3 = nI 0 → (wp_X9_pointX σ_1 x1 x2 (fun r_4 => (Q r_4 σ_1)))) ∧ (¬ x3 = nI 0 → ((x3 = nI 1 → (wp_X9_pointY σ_1 x1 x2 (fun r_7 => (Q r_7 σ_1)))) ∧ (¬ x3 = nI 1 → (wp_X9_keeperOf σ_1 x1 x2 (fun r_9 σ_10 => (Q r_9 σ_10)))))))) ∧ (¬ (σ_1 244 0) ≤ 0 → (Q (nI 0) σ_1)))
def wp_X9_point_16 (σ : St) (x1 : Int32) (x2 : Int32) (x3 : Int32) (Q : Int32 → St → Prop) : Prop :=
  wp_X9_point_34 σ x1 x2 x3 (nI 1) Q
def wp_X9_point (σ : St) (x1 : Int32) (x2 : Int32) (x3 : Int32) (Q : Int32 → St → Prop) : Prop :=
  wp_X9_isKey σ x1 (fun r_11 => ((r_11 = 0 → (wp_X9_point_16 σ x1 x2 x3 Q)) ∧ (¬ r_11 = 0 → (wp_X9_isReality σ x2 (fun r_14 => ((¬ r_14 = 0 → (wp_X9_isIn σ x3 (nI 0) (nI 2) (fun r_17 => ((¬ r_17 = 0 → (wp_X9_point_34 σ x1 x2 x3 (nI 0) Q)) ∧ (r_17 = 0 → (wp_X9_point_34 σ x1 x2 x3 (nI 2) Q)))))) ∧ (r_14 = 0 → (wp_X9_point_16 σ x1 x2 x3 Q))))))))
def wp_X9_around (σ : St) (x0 : Int32) (x1 : Int32) (x2 : Int32) (Q : Int32 → Prop) : Prop :=
  wp_X9_isIn σ x0 x1 ((x1 + x2) - (nI 1)) (fun r_1 => ((r_1 = 0 → (wp_X9_lesser σ (((x1 - x0) + (nI 32)) - ((x1 - x0) + (nI 32)) / (nI 32) * (nI 32)) (((((x0 - x1) - x2) + (nI 1)) + (nI 64)) - ((((x0 - x1) - x2) + (nI 1)) + (nI 64)) / (nI 32) * (nI 32)) (fun r_4 => (Q r_4)))) ∧ (¬ r_1 = 0 → (Q (nI 0)))))
def wp_X9_farOf_8 (σ : St) (x1 : Int32) (x2 : Int32) (x3 : Int32) (Q : Int32 → Prop) (ih8 : Int32 → Int32 → Prop) (x4 : Int32) (x5 : Int32) : Prop :=
  ((σ 244 23) ≤ x5 → (Q x4)) ∧ (¬ (σ 244 23) ≤ x5 → (vp_in x5 2048 ∧ (((σ 251 (Int32.toNatClampNeg x5)) = x1 → (vp_in x5 2048 ∧ (vp_in x5 2048 ∧ (wp_X9_around σ x2 (σ 252 (Int32.toNatClampNeg x5)) (σ 254 (Int32.toNatClampNeg x5)) (fun r_6 => (vp_in x5 2048 ∧ (vp_in x5 2048 ∧ (wp_X9_around σ x3 (σ 253 (Int32.toNatClampNeg x5)) (σ 255 (Int32.toNatClampNeg x5)) (fun r_10 => (wp_X9_lesser σ x4 (r_6 + r_10) (fun r_12 => (∀ x5_14 : Int32, x5_14 = x5 + (nI 1) → (ih8 r_12 x5_14))))))))))))) ∧ (¬ (σ 251 (Int32.toNatClampNeg x5)) = x1 → (∀ x5_15 : Int32, x5_15 = x5 + (nI 1) → (ih8 x4 x5_15))))))
def wp_X9_farOf (σ : St) (x1 : Int32) (x2 : Int32) (x3 : Int32) (Q : Int32 → Prop) : Prop :=
  ∃ n9 : Nat, LP2 (wp_X9_farOf_8 σ x1 x2 x3 Q) n9 (nI 1000000) (nI 0)
def wp_X9_nearestTo_19 (σ : St) (x2 : Int32) (x3 : Int32) (x4 : Int32) (Q : Int32 → Prop) (ih19 : Int32 → Int32 → Prop) (x5 : Int32) (x6 : Int32) : Prop :=
  ((nI 10) ≤ x6 → (Q x5)) ∧ (¬ (nI 10) ≤ x6 → ((¬ ((x4 >>> (x6 &&& 31)) &&& (nI 1)) = 0 → ((x5 = (-1) → (∀ x6_4 : Int32, x6_4 = x6 + (nI 1) → (ih19 x6 x6_4))) ∧ (¬ x5 = (-1) → (wp_X9_farOf σ x6 x2 x3 (fun r_5 => (wp_X9_farOf σ x5 x2 x3 (fun r_7 => ((r_7 ≤ r_5 → (∀ x6_10 : Int32, x6_10 = x6 + (nI 1) → (ih19 x5 x6_10))) ∧ (¬ r_7 ≤ r_5 → (∀ x6_11 : Int32, x6_11 = x6 + (nI 1) → (ih19 x6 x6_11))))))))))) ∧ (((x4 >>> (x6 &&& 31)) &&& (nI 1)) = 0 → (∀ x6_12 : Int32, x6_12 = x6 + (nI 1) → (ih19 x5 x6_12)))))
def wp_X9_nearestTo (σ : St) (x1 : Int32) (x2 : Int32) (x3 : Int32) (Q : Int32 → Prop) : Prop :=
  wp_X9_besideNode σ x1 (fun r_13 => (wp_X9_bitsOf σ (nI 1) (fun r_15 => (∀ x4_17 : Int32, x4_17 = r_13 &&& r_15 → (∃ n9 : Nat, LP2 (wp_X9_nearestTo_19 σ x2 x3 x4_17 Q) n9 (-1) (nI 0))))))
def wp_X9_goes_20 (x2 : Int32) (x3 : Int32) (Q : St → Prop) (ih20 : St → Int32 → Prop) (σ : St) (x4 : Int32) : Prop :=
  (¬ (σ 244 27) = 0 → (Q σ)) ∧ ((σ 244 27) = 0 → (wp_X9_farOf σ x4 x2 x3 (fun r_2 => ((r_2 ≤ 0 → (Q σ)) ∧ (¬ r_2 ≤ 0 → (wp_X9_nearestTo σ x4 x2 x3 (fun r_5 => ((r_5 = (-1) → (∀ σ_8 : St, σ_8 = su σ 244 27 (nI 1) → (ih20 σ_8 x4))) ∧ (¬ r_5 = (-1) → (wp_X9_farOf σ r_5 x2 x3 (fun r_9 => (wp_X9_farOf σ x4 x2 x3 (fun r_11 => ((r_9 < r_11 → (vp_in (σ 244 26) 40 ∧ (∀ σ_15 : St, σ_15 = su σ 257 (Int32.toNatClampNeg (σ 244 26)) r_5 → (∀ σ_16 : St, σ_16 = su σ_15 244 26 ((σ_15 244 26) + (nI 1)) → (ih20 σ_16 r_5))))) ∧ (¬ r_9 < r_11 → (∀ σ_17 : St, σ_17 = su σ 244 27 (nI 1) → (ih20 σ_17 x4)))))))))))))))))
def wp_X9_goes (σ : St) (x1 : Int32) (x2 : Int32) (x3 : Int32) (Q : St → Prop) : Prop :=
  ∀ σ_18 : St, σ_18 = su σ 244 26 (nI 1) → (∀ σ_19 : St, σ_19 = su σ_18 257 0 x1 → (∀ σ_20 : St, σ_20 = su σ_19 244 27 (nI 0) → (∃ n9 : Nat, LP2 (wp_X9_goes_20 x2 x3 Q) n9 σ_20 x1)))
def wp_X9_way_47 (σ : St) (x1 : Int32) (x2 : Int32) (x3 : Int32) (x4 : Int32) (x5 : Int32) (t1 : Int32) (Q : Int32 → St → Prop) : Prop :=
  ∀ σ_1 : St, σ_1 = su σ 244 0 t1 → (((σ_1 244 0) ≤ 0 → (wp_X9_laysList σ_1 x2 (fun σ_3 => (wp_X9_goes σ_3 x1 x3 x4 (fun σ_4 => ((¬ x5 = (-1) → (wp_X9_isIn σ_4 x5 (nI 0) ((σ_4 244 26) - (nI 1)) (fun r_6 => ((r_6 = 0 → (Q (-1) σ_4)) ∧ (¬ r_6 = 0 → (vp_in x5 40 ∧ (Q (σ_4 257 (Int32.toNatClampNeg x5)) σ_4))))))) ∧ (x5 = (-1) → (((σ_4 244 27) = 0 → (Q ((σ_4 244 26) - (nI 1)) σ_4)) ∧ (¬ (σ_4 244 27) = 0 → (Q (-1) σ_4)))))))))) ∧ (¬ (σ_1 244 0) ≤ 0 → (Q (nI 0) σ_1)))
def wp_X9_way_16 (σ : St) (x1 : Int32) (x2 : Int32) (x3 : Int32) (x4 : Int32) (x5 : Int32) (Q : Int32 → St → Prop) : Prop :=
  wp_X9_way_47 σ x1 x2 x3 x4 x5 (nI 1) Q
def wp_X9_way (σ : St) (x1 : Int32) (x2 : Int32) (x3 : Int32) (x4 : Int32) (x5 : Int32) (Q : Int32 → St → Prop) : Prop :=
  wp_X9_isNode σ x1 (fun r_11 => ((r_11 = 0 → (wp_X9_way_16 σ x1 x2 x3 x4 x5 Q)) ∧ (¬ r_11 = 0 → (wp_X9_isReality σ x2 (fun r_14 => ((¬ r_14 = 0 → (wp_X9_isCell σ x3 x4 (fun r_17 => ((¬ r_17 = 0 → (wp_X9_isState σ x1 (nI 1) (fun r_20 => ((¬ r_20 = 0 → (wp_X9_way_47 σ x1 x2 x3 x4 x5 (nI 0) Q)) ∧ (r_20 = 0 → (wp_X9_way_47 σ x1 x2 x3 x4 x5 (nI 3) Q)))))) ∧ (r_17 = 0 → (wp_X9_way_47 σ x1 x2 x3 x4 x5 (nI 2) Q)))))) ∧ (r_14 = 0 → (wp_X9_way_16 σ x1 x2 x3 x4 x5 Q))))))))
def wp_X9_farFromKey_7 (x1 : Int32) (x2 : Int32) (Q : Int32 → St → Prop) (ih7 : St → Int32 → Int32 → Prop) (σ : St) (x3 : Int32) (x4 : Int32) : Prop :=
  ((σ 245 37) ≤ x4 → (Q x3 σ)) ∧ (¬ (σ 245 37) ≤ x4 → (wp_X9_isHeld σ x2 x4 (fun r_2 => ((¬ r_2 = 0 → (wp_X9_laysList σ x4 (fun σ_5 => (wp_X9_pointX σ_5 x2 x4 (fun r_6 => (wp_X9_pointY σ_5 x2 x4 (fun r_8 => (wp_X9_farOf σ_5 x1 r_6 r_8 (fun r_10 => (wp_X9_lesser σ_5 x3 r_10 (fun r_12 => (∀ x4_14 : Int32, x4_14 = x4 + (nI 1) → (ih7 σ_5 r_12 x4_14))))))))))))) ∧ (r_2 = 0 → (∀ x4_15 : Int32, x4_15 = x4 + (nI 1) → (ih7 σ x3 x4_15)))))))
def wp_X9_farFromKey (σ : St) (x1 : Int32) (x2 : Int32) (Q : Int32 → St → Prop) : Prop :=
  ∃ n9 : Nat, LP3 (wp_X9_farFromKey_7 x1 x2 Q) n9 σ (nI 1000000) (nI 0)
def wp_X9_nextToKey_12 (x1 : Int32) (x2 : Int32) (Q : Int32 → St → Prop) (ih12 : St → Int32 → Int32 → Prop) (σ : St) (x3 : Int32) (x4 : Int32) : Prop :=
  ((σ 245 37) ≤ x4 → (Q x3 σ)) ∧ (¬ (σ 245 37) ≤ x4 → (wp_X9_isHeld σ x2 x4 (fun r_2 => ((¬ r_2 = 0 → (wp_X9_laysList σ x4 (fun σ_5 => (wp_X9_pointX σ_5 x2 x4 (fun r_6 => (wp_X9_pointY σ_5 x2 x4 (fun r_8 => (wp_X9_nearestTo σ_5 x1 r_6 r_8 (fun r_10 => ((r_10 = (-1) → (∀ x4_13 : Int32, x4_13 = x4 + (nI 1) → (ih12 σ_5 x3 x4_13))) ∧ (¬ r_10 = (-1) → (wp_X9_pointX σ_5 x2 x4 (fun r_14 => (wp_X9_pointY σ_5 x2 x4 (fun r_16 => (wp_X9_farOf σ_5 r_10 r_14 r_16 (fun r_18 => ((r_18 < (σ_5 244 29) → (wp_X9_pointX σ_5 x2 x4 (fun r_21 => (wp_X9_pointY σ_5 x2 x4 (fun r_23 => (wp_X9_farOf σ_5 r_10 r_21 r_23 (fun r_25 => (∀ σ_27 : St, σ_27 = su σ_5 244 29 r_25 → (∀ x4_28 : Int32, x4_28 = x4 + (nI 1) → (ih12 σ_27 r_10 x4_28)))))))))) ∧ (¬ r_18 < (σ_5 244 29) → (∀ x4_29 : Int32, x4_29 = x4 + (nI 1) → (ih12 σ_5 x3 x4_29))))))))))))))))))))) ∧ (r_2 = 0 → (∀ x4_30 : Int32, x4_30 = x4 + (nI 1) → (ih12 σ x3 x4_30)))))))
def wp_X9_nextToKey (σ : St) (x1 : Int32) (x2 : Int32) (Q : Int32 → St → Prop) : Prop :=
  ∀ σ_31 : St, σ_31 = su σ 244 29 (nI 1000000) → (∃ n9 : Nat, LP3 (wp_X9_nextToKey_12 x1 x2 Q) n9 σ_31 (-1) (nI 0))
def wp_X9_seeks_31 (x2 : Int32) (Q : St → Prop) (ih31 : St → Int32 → Prop) (σ : St) (x3 : Int32) : Prop :=
  (¬ (σ 244 27) = 0 → (Q σ)) ∧ ((σ 244 27) = 0 → (wp_X9_farFromKey σ x3 x2 (fun r_2 σ_3 => ((r_2 ≤ 0 → (Q σ_3)) ∧ (¬ r_2 ≤ 0 → (wp_X9_nextToKey σ_3 x3 x2 (fun r_5 σ_6 => ((r_5 = (-1) → (∀ σ_8 : St, σ_8 = su σ_6 244 27 (nI 1) → (ih31 σ_8 x3))) ∧ (¬ r_5 = (-1) → (wp_X9_farFromKey σ_6 x3 x2 (fun r_9 σ_10 => (((σ_6 244 29) < r_9 → (vp_in (σ_10 244 26) 40 ∧ (∀ σ_13 : St, σ_13 = su σ_10 257 (Int32.toNatClampNeg (σ_10 244 26)) r_5 → (∀ σ_14 : St, σ_14 = su σ_13 244 26 ((σ_13 244 26) + (nI 1)) → (ih31 σ_14 r_5))))) ∧ (¬ (σ_6 244 29) < r_9 → (∀ σ_15 : St, σ_15 = su σ_10 244 27 (nI 1) → (ih31 σ_15 x3)))))))))))))))
def wp_X9_seeks (σ : St) (x1 : Int32) (x2 : Int32) (Q : St → Prop) : Prop :=
  ∀ σ_16 : St, σ_16 = su σ 244 26 (nI 1) → (∀ σ_17 : St, σ_17 = su σ_16 257 0 x1 → (wp_X9_heldIn σ_17 x2 (fun r_18 => ((¬ r_18 = 0 → (∀ σ_21 : St, σ_21 = su σ_17 244 27 (nI 0) → (∃ n9 : Nat, LP2 (wp_X9_seeks_31 x2 Q) n9 σ_21 x1))) ∧ (r_18 = 0 → (∀ σ_22 : St, σ_22 = su σ_17 244 27 (nI 1) → (∃ n9 : Nat, LP2 (wp_X9_seeks_31 x2 Q) n9 σ_22 x1)))))))
def wp_X9_placesApart (σ : St) (x1 : Int32) (x2 : Int32) (Q : Int32 → Prop) : Prop :=
  vp_in ((nI 10) + x1) 6682 ∧ (vp_in ((nI 10) + x2) 6682 ∧ (wp_X9_apart σ (σ 245 (Int32.toNatClampNeg ((nI 10) + x1))) (σ 245 (Int32.toNatClampNeg ((nI 10) + x2))) (fun r_3 => (vp_in ((nI 20) + x1) 6682 ∧ (vp_in ((nI 20) + x2) 6682 ∧ (wp_X9_apart σ (σ 245 (Int32.toNatClampNeg ((nI 20) + x1))) (σ 245 (Int32.toNatClampNeg ((nI 20) + x2))) (fun r_7 => (Q (r_3 + r_7)))))))))
def wp_X9_delay_4 (σ : St) (Q : Int32 → Prop) (ih4 : Int32 → Int32 → Prop) (x1 : Int32) (x2 : Int32) : Prop :=
  ((σ 244 26) ≤ x2 → (Q x1)) ∧ (¬ (σ 244 26) ≤ x2 → (vp_in (x2 - (nI 1)) 40 ∧ (vp_in x2 40 ∧ (wp_X9_placesApart σ (σ 257 (Int32.toNatClampNeg (x2 - (nI 1)))) (σ 257 (Int32.toNatClampNeg x2)) (fun r_4 => (∀ x1_6 : Int32, x1_6 = x1 + r_4 → (∀ x2_7 : Int32, x2_7 = x2 + (nI 1) → (ih4 x1_6 x2_7))))))))
def wp_X9_delay (σ : St) (Q : Int32 → Prop) : Prop :=
  ∃ n9 : Nat, LP2 (wp_X9_delay_4 σ Q) n9 (nI 0) (nI 1)
def wp_X9_common_4 (σ : St) (Q : Int32 → Prop) (ih4 : Int32 → Int32 → Prop) (x2 : Int32) (x3 : Int32) : Prop :=
  (x3 ≤ 0 → (Q x2)) ∧ (¬ x3 ≤ 0 → (¬ x3 = 0 ∧ (∀ x4_3 : Int32, x4_3 = x2 - x2 / x3 * x3 → (ih4 x3 x4_3))))
def wp_X9_common (σ : St) (x0 : Int32) (x1 : Int32) (Q : Int32 → Prop) : Prop :=
  ∃ n9 : Nat, LP2 (wp_X9_common_4 σ Q) n9 x0 x1
def wp_X9_stretch_37 (σ : St) (x1 : Int32) (x2 : Int32) (x3 : Int32) (Q : Int32 → Prop) : Prop :=
  wp_X9_common σ x2 x3 (fun r_1 => ((x1 = 0 → (¬ r_1 = 0 ∧ (Q (x3 / r_1)))) ∧ (¬ x1 = 0 → (¬ r_1 = 0 ∧ (Q (x2 / r_1))))))
def wp_X9_stretch (σ : St) (x1 : Int32) (Q : Int32 → Prop) : Prop :=
  wp_X9_delay σ (fun r_6 => (vp_in ((σ 244 26) - (nI 1)) 40 ∧ (wp_X9_placesApart σ (σ 257 0) (σ 257 (Int32.toNatClampNeg ((σ 244 26) - (nI 1)))) (fun r_9 => ((¬ r_6 = 0 → (wp_X9_stretch_37 σ x1 r_6 r_9 Q)) ∧ (r_6 = 0 → ((¬ r_9 = 0 → (wp_X9_stretch_37 σ x1 r_6 r_9 Q)) ∧ (r_9 = 0 → (Q (nI 1))))))))))
def wp_X9_seek_46 (σ : St) (x1 : Int32) (x2 : Int32) (x3 : Int32) (t1 : Int32) (Q : Int32 → St → Prop) : Prop :=
  ∀ σ_1 : St, σ_1 = su σ 244 0 t1 → (((σ_1 244 0) ≤ 0 → (wp_X9_seeks σ_1 x1 x2 (fun σ_3 => ((x3 = nI 0 → (((σ_3 244 27) = 0 → (Q ((σ_3 244 26) - (nI 1)) σ_3)) ∧ (¬ (σ_3 244 27) = 0 → (Q (-1) σ_3)))) ∧ (¬ x3 = nI 0 → ((x3 = nI 1 → (wp_X9_delay σ_3 (fun r_8 => (Q r_8 σ_3)))) ∧ (¬ x3 = nI 1 → ((x3 = nI 2 → (vp_in ((σ_3 244 26) - (nI 1)) 40 ∧ (Q (σ_3 257 (Int32.toNatClampNeg ((σ_3 244 26) - (nI 1)))) σ_3))) ∧ (¬ x3 = nI 2 → ((x3 = nI 3 → (wp_X9_stretch σ_3 (nI 1) (fun r_13 => (Q r_13 σ_3)))) ∧ (¬ x3 = nI 3 → (wp_X9_stretch σ_3 (nI 0) (fun r_15 => (Q r_15 σ_3)))))))))))))) ∧ (¬ (σ_1 244 0) ≤ 0 → (Q (nI 0) σ_1)))
def wp_X9_seek_15 (σ : St) (x1 : Int32) (x2 : Int32) (x3 : Int32) (Q : Int32 → St → Prop) : Prop :=
  wp_X9_seek_46 σ x1 x2 x3 (nI 1) Q
def wp_X9_seek (σ : St) (x1 : Int32) (x2 : Int32) (x3 : Int32) (Q : Int32 → St → Prop) : Prop :=
  wp_X9_isNode σ x1 (fun r_17 => ((r_17 = 0 → (wp_X9_seek_15 σ x1 x2 x3 Q)) ∧ (¬ r_17 = 0 → (wp_X9_isKey σ x2 (fun r_20 => ((¬ r_20 = 0 → (wp_X9_isIn σ x3 (nI 0) (nI 4) (fun r_23 => ((¬ r_23 = 0 → (wp_X9_isState σ x1 (nI 1) (fun r_26 => ((¬ r_26 = 0 → (wp_X9_seek_46 σ x1 x2 x3 (nI 0) Q)) ∧ (r_26 = 0 → (wp_X9_seek_46 σ x1 x2 x3 (nI 3) Q)))))) ∧ (r_23 = 0 → (wp_X9_seek_46 σ x1 x2 x3 (nI 2) Q)))))) ∧ (r_20 = 0 → (wp_X9_seek_15 σ x1 x2 x3 Q))))))))
def wp_X9_isAllWith_2 (x1 : Int32) (x2 : Int32) (Q : Int32 → St → Prop) (ih2 : St → Int32 → Prop) (σ : St) (x3 : Int32) : Prop :=
  ((σ 245 37) ≤ x3 → (Q (nI 1) σ)) ∧ (¬ (σ 245 37) ≤ x3 → (wp_X9_isHeld σ x1 x3 (fun r_2 => ((r_2 = 0 → (∀ x3_5 : Int32, x3_5 = x3 + (nI 1) → (ih2 σ x3_5))) ∧ (¬ r_2 = 0 → (wp_X9_keeperOf σ x1 x3 (fun r_6 σ_7 => ((r_6 = x2 → (∀ x3_9 : Int32, x3_9 = x3 + (nI 1) → (ih2 σ_7 x3_9))) ∧ (¬ r_6 = x2 → (Q (nI 0) σ_7))))))))))
def wp_X9_isAllWith (σ : St) (x1 : Int32) (x2 : Int32) (Q : Int32 → St → Prop) : Prop :=
  ∃ n9 : Nat, LP2 (wp_X9_isAllWith_2 x1 x2 Q) n9 σ (nI 0)
def wp_X9_risk_29 (x1 : Int32) (Q : Int32 → St → Prop) (ih29 : St → Int32 → Int32 → Prop) (σ : St) (x2 : Int32) (x3 : Int32) : Prop :=
  ((nI 100) ≤ x3 → (Q x2 σ)) ∧ (¬ (nI 100) ≤ x3 → (wp_X9_heldIn σ x3 (fun r_2 => ((r_2 = 0 → (∀ x2_5 : Int32, x2_5 = x2 + (nI 0) → (∀ x3_6 : Int32, x3_6 = x3 + (nI 1) → (ih29 σ x2_5 x3_6)))) ∧ (¬ r_2 = 0 → (wp_X9_isAllWith σ x3 x1 (fun r_7 σ_8 => ((r_7 = 0 → (∀ x2_10 : Int32, x2_10 = x2 + (nI 0) → (∀ x3_11 : Int32, x3_11 = x3 + (nI 1) → (ih29 σ_8 x2_10 x3_11)))) ∧ (¬ r_7 = 0 → (∀ x2_12 : Int32, x2_12 = x2 + (nI 1) → (∀ x3_13 : Int32, x3_13 = x3 + (nI 1) → (ih29 σ_8 x2_12 x3_13))))))))))))
def wp_X9_risk_13 (σ : St) (x1 : Int32) (t1 : Int32) (Q : Int32 → St → Prop) : Prop :=
  ∀ σ_14 : St, σ_14 = su σ 244 0 t1 → (((σ_14 244 0) ≤ 0 → (∃ n9 : Nat, LP3 (wp_X9_risk_29 x1 Q) n9 σ_14 (nI 0) (nI 0))) ∧ (¬ (σ_14 244 0) ≤ 0 → (Q (nI 0) σ_14)))
def wp_X9_risk (σ : St) (x1 : Int32) (Q : Int32 → St → Prop) : Prop :=
  wp_X9_isNode σ x1 (fun r_16 => ((r_16 = 0 → (wp_X9_risk_13 σ x1 (nI 1) Q)) ∧ (¬ r_16 = 0 → (wp_X9_risk_13 σ x1 (nI 0) Q))))
def wp_X9_order_14 (σ : St) (x1 : Int32) (x2 : Int32) (t1 : Int32) (Q : Int32 → St → Prop) : Prop :=
  ∀ σ_1 : St, σ_1 = su σ 244 0 t1 → (((σ_1 244 0) ≤ 0 → (wp_X9_orderOf σ_1 x1 x2 (fun r_3 => (Q r_3 σ_1)))) ∧ (¬ (σ_1 244 0) ≤ 0 → (Q (nI 0) σ_1)))
def wp_X9_order (σ : St) (x1 : Int32) (x2 : Int32) (Q : Int32 → St → Prop) : Prop :=
  wp_X9_isPlace σ x1 x2 (fun r_5 => ((r_5 = 0 → (wp_X9_order_14 σ x1 x2 (nI 1) Q)) ∧ (¬ r_5 = 0 → (wp_X9_order_14 σ x1 x2 (nI 0) Q))))
def wp_X9_even_55 (σ : St) (x1 : Int32) (x2 : Int32) (Q : Int32 → Prop) : Prop :=
  (¬ x2 = (-1) → (Q (x2 - x1))) ∧ (x2 = (-1) → (Q (-1)))
def wp_X9_even_8 (σ : St) (Q : Int32 → Prop) (ih8 : Int32 → Int32 → Int32 → Prop) (x1 : Int32) (x2 : Int32) (x3 : Int32) : Prop :=
  ((nI 10) ≤ x3 → (wp_X9_even_55 σ x1 x2 Q)) ∧ (¬ (nI 10) ≤ x3 → (wp_X9_isState σ x3 (nI 1) (fun r_3 => ((¬ r_3 = 0 → (wp_X9_volumeOf σ x3 (fun r_6 => (wp_X9_lesser σ x1 r_6 (fun r_8 => ((r_6 ≤ x2 → (∀ x3_11 : Int32, x3_11 = x3 + (nI 1) → (ih8 r_8 x2 x3_11))) ∧ (¬ r_6 ≤ x2 → (∀ x3_12 : Int32, x3_12 = x3 + (nI 1) → (ih8 r_8 r_6 x3_12))))))))) ∧ (r_3 = 0 → (∀ x3_13 : Int32, x3_13 = x3 + (nI 1) → (ih8 x1 x2 x3_13)))))))
def wp_X9_even (σ : St) (Q : Int32 → Prop) : Prop :=
  ∃ n9 : Nat, LP3 (wp_X9_even_8 σ Q) n9 (nI 1000000) (-1) (nI 0)
def wp_X9_goesTo_18 (σ : St) (x1 : Int32) (x3 : Int32) (Q : St → Prop) : Prop :=
  vp_in x3 2048 ∧ (vp_in x3 2048 ∧ (wp_X9_goes σ x1 (σ 252 (Int32.toNatClampNeg x3)) (σ 253 (Int32.toNatClampNeg x3)) (fun σ_3 => (Q σ_3))))
def wp_X9_goesTo_2 (σ : St) (x1 : Int32) (x2 : Int32) (Q : St → Prop) (ih2 : Int32 → Prop) (x3 : Int32) : Prop :=
  vp_in x3 2048 ∧ (((σ 251 (Int32.toNatClampNeg x3)) = x2 → (wp_X9_goesTo_18 σ x1 x3 Q)) ∧ (¬ (σ 251 (Int32.toNatClampNeg x3)) = x2 → (∀ x3_6 : Int32, x3_6 = x3 + (nI 1) → (ih2 x3_6))))
def wp_X9_goesTo (σ : St) (x1 : Int32) (x2 : Int32) (Q : St → Prop) : Prop :=
  ∃ n9 : Nat, LP1 (wp_X9_goesTo_2 σ x1 x2 Q) n9 (nI 0)
def wp_X9_arePair (σ : St) (x1 : Int32) (x2 : Int32) (Q : Int32 → Prop) : Prop :=
  (x1 = x2 → (Q (nI 0))) ∧ (¬ x1 = x2 → (wp_X9_isState σ x1 (nI 1) (fun r_2 => ((r_2 = 0 → (Q (nI 0))) ∧ (¬ r_2 = 0 → (wp_X9_isState σ x2 (nI 1) (fun r_5 => ((r_5 = 0 → (Q (nI 0))) ∧ (¬ r_5 = 0 → (Q (nI 1)))))))))))
def wp_X9_allWays_82 (σ : St) (x1 : Int32) (x2 : Int32) (ih17 : St → Int32 → Prop) (ih25 : St → Int32 → Prop) (Q : St → Prop) : Prop :=
  ∀ σ_1 : St, σ_1 = su σ 244 31 ((σ 244 31) + ((σ 244 26) - (nI 1))) → (∀ σ_2 : St, σ_2 = su σ_1 244 32 ((σ_1 244 32) + (nI 1)) → (∀ x2_3 : Int32, x2_3 = x2 + (nI 1) → (ih25 σ_2 x2_3)))
def wp_X9_allWays_25 (x1 : Int32) (ih17 : St → Int32 → Prop) (Q : St → Prop) (ih25 : St → Int32 → Prop) (σ : St) (x2 : Int32) : Prop :=
  ((nI 10) ≤ x2 → (∀ x1_5 : Int32, x1_5 = x1 + (nI 1) → (ih17 σ x1_5))) ∧ (¬ (nI 10) ≤ x2 → (wp_X9_arePair σ x1 x2 (fun r_6 => ((¬ r_6 = 0 → (wp_X9_goesTo σ x1 x2 (fun σ_9 => (((σ_9 244 27) = 0 → ((((σ_9 244 26) - (nI 1)) ≤ (σ_9 244 30) → (wp_X9_allWays_82 σ_9 x1 x2 ih17 ih25 Q)) ∧ (¬ ((σ_9 244 26) - (nI 1)) ≤ (σ_9 244 30) → (∀ σ_12 : St, σ_12 = su σ_9 244 30 ((σ_9 244 26) - (nI 1)) → (wp_X9_allWays_82 σ_12 x1 x2 ih17 ih25 Q))))) ∧ (¬ (σ_9 244 27) = 0 → (∀ x2_13 : Int32, x2_13 = x2 + (nI 1) → (ih25 σ_9 x2_13))))))) ∧ (r_6 = 0 → (∀ x2_14 : Int32, x2_14 = x2 + (nI 1) → (ih25 σ x2_14)))))))
def wp_X9_allWays_17 (Q : St → Prop) (ih17 : St → Int32 → Prop) (σ : St) (x1 : Int32) : Prop :=
  ((nI 10) ≤ x1 → (Q σ)) ∧ (¬ (nI 10) ≤ x1 → (∃ n9 : Nat, LP2 (wp_X9_allWays_25 x1 ih17 Q) n9 σ (nI 0)))
def wp_X9_allWays (σ : St) (Q : St → Prop) : Prop :=
  ∀ σ_16 : St, σ_16 = su σ 244 30 (-1) → (∀ σ_17 : St, σ_17 = su σ_16 244 31 (nI 0) → (∀ σ_18 : St, σ_18 = su σ_17 244 32 (nI 0) → (∃ n9 : Nat, LP2 (wp_X9_allWays_17 Q) n9 σ_18 (nI 0))))
def wp_X9_strays_4 (σ : St) (Q : Int32 → Prop) (ih4 : Int32 → Int32 → Prop) (x1 : Int32) (x2 : Int32) : Prop :=
  ((σ 244 23) ≤ x2 → (Q x1)) ∧ (¬ (σ 244 23) ≤ x2 → (vp_in x2 2048 ∧ (wp_X9_zonesOf σ (σ 251 (Int32.toNatClampNeg x2)) (fun r_3 => ((r_3 ≤ (nI 1) → (∀ x1_6 : Int32, x1_6 = x1 + (nI 0) → (∀ x2_7 : Int32, x2_7 = x2 + (nI 1) → (ih4 x1_6 x2_7)))) ∧ (¬ r_3 ≤ (nI 1) → (∀ x1_8 : Int32, x1_8 = x1 + (nI 1) → (∀ x2_9 : Int32, x2_9 = x2 + (nI 1) → (ih4 x1_8 x2_9)))))))))
def wp_X9_strays (σ : St) (Q : Int32 → Prop) : Prop :=
  ∃ n9 : Nat, LP2 (wp_X9_strays_4 σ Q) n9 (nI 0) (nI 0)
def wp_X9_heldCopies_4 (σ : St) (x1 : Int32) (Q : Int32 → Prop) (ih4 : Int32 → Int32 → Prop) (x2 : Int32) (x3 : Int32) : Prop :=
  ((nI 100) ≤ x3 → (Q x2)) ∧ (¬ (nI 100) ≤ x3 → (wp_X9_isHeld σ x3 x1 (fun r_2 => ((r_2 = 0 → (∀ x2_5 : Int32, x2_5 = x2 + (nI 0) → (∀ x3_6 : Int32, x3_6 = x3 + (nI 1) → (ih4 x2_5 x3_6)))) ∧ (¬ r_2 = 0 → (∀ x2_7 : Int32, x2_7 = x2 + (nI 1) → (∀ x3_8 : Int32, x3_8 = x3 + (nI 1) → (ih4 x2_7 x3_8))))))))
def wp_X9_heldCopies (σ : St) (x1 : Int32) (Q : Int32 → Prop) : Prop :=
  ∃ n9 : Nat, LP2 (wp_X9_heldCopies_4 σ x1 Q) n9 (nI 0) (nI 0)
def wp_X9_reality_27 (σ : St) (x1 : Int32) (x2 : Int32) (t1 : Int32) (Q : Int32 → St → Prop) : Prop :=
  ∀ σ_1 : St, σ_1 = su σ 244 0 t1 → (((σ_1 244 0) ≤ 0 → (wp_X9_laysList σ_1 x1 (fun σ_3 => ((x2 = nI 0 → (Q (σ_3 244 23) σ_3)) ∧ (¬ x2 = nI 0 → ((x2 = nI 1 → (wp_X9_even σ_3 (fun r_7 => (Q r_7 σ_3)))) ∧ (¬ x2 = nI 1 → ((x2 = nI 2 → (wp_X9_hubOf σ_3 (fun r_10 => (Q r_10 σ_3)))) ∧ (¬ x2 = nI 2 → ((x2 = nI 3 → (wp_X9_allWays σ_3 (fun σ_13 => (Q (σ_13 244 30) σ_13)))) ∧ (¬ x2 = nI 3 → ((x2 = nI 4 → (wp_X9_strays σ_3 (fun r_15 => (Q r_15 σ_3)))) ∧ (¬ x2 = nI 4 → (wp_X9_heldCopies σ_3 x1 (fun r_17 => (Q r_17 σ_3)))))))))))))))) ∧ (¬ (σ_1 244 0) ≤ 0 → (Q (nI 0) σ_1)))
def wp_X9_reality (σ : St) (x1 : Int32) (x2 : Int32) (Q : Int32 → St → Prop) : Prop :=
  wp_X9_isReality σ x1 (fun r_19 => ((¬ r_19 = 0 → (wp_X9_isIn σ x2 (nI 0) (nI 5) (fun r_22 => ((¬ r_22 = 0 → (wp_X9_reality_27 σ x1 x2 (nI 0) Q)) ∧ (r_22 = 0 → (wp_X9_reality_27 σ x1 x2 (nI 2) Q)))))) ∧ (r_19 = 0 → (wp_X9_reality_27 σ x1 x2 (nI 1) Q))))
def wp_X9_isHinge_10 (x1 : Int32) (x2 : Int32) (ih2 : St → Int32 → Prop) (Q : Int32 → St → Prop) (ih10 : St → Int32 → Prop) (σ : St) (x3 : Int32) : Prop :=
  ((nI 10) ≤ x3 → (∀ x2_2 : Int32, x2_2 = x2 + (nI 1) → (ih2 σ x2_2))) ∧ (¬ (nI 10) ≤ x3 → ((x2 = x1 → (∀ x3_4 : Int32, x3_4 = x3 + (nI 1) → (ih10 σ x3_4))) ∧ (¬ x2 = x1 → ((x3 = x1 → (∀ x3_6 : Int32, x3_6 = x3 + (nI 1) → (ih10 σ x3_6))) ∧ (¬ x3 = x1 → (wp_X9_arePair σ x2 x3 (fun r_7 => ((¬ r_7 = 0 → (wp_X9_goesTo σ x2 x3 (fun σ_10 => (((σ_10 244 27) = 0 → (vp_in ((nI 0) + x1) 6682 ∧ (∀ σ_13 : St, σ_13 = su σ_10 245 (Int32.toNatClampNeg ((nI 0) + x1)) (nI 2) → (wp_X9_goesTo σ_13 x2 x3 (fun σ_14 => (vp_in ((nI 0) + x1) 6682 ∧ (∀ σ_16 : St, σ_16 = su σ_14 245 (Int32.toNatClampNeg ((nI 0) + x1)) (nI 1) → (((σ_16 244 27) = 0 → (∀ x3_18 : Int32, x3_18 = x3 + (nI 1) → (ih10 σ_16 x3_18))) ∧ (¬ (σ_16 244 27) = 0 → (Q (nI 1) σ_16)))))))))) ∧ (¬ (σ_10 244 27) = 0 → (∀ x3_19 : Int32, x3_19 = x3 + (nI 1) → (ih10 σ_10 x3_19))))))) ∧ (r_7 = 0 → (∀ x3_20 : Int32, x3_20 = x3 + (nI 1) → (ih10 σ x3_20)))))))))))
def wp_X9_isHinge_2 (x1 : Int32) (Q : Int32 → St → Prop) (ih2 : St → Int32 → Prop) (σ : St) (x2 : Int32) : Prop :=
  ((nI 10) ≤ x2 → (Q (nI 0) σ)) ∧ (¬ (nI 10) ≤ x2 → (∃ n9 : Nat, LP2 (wp_X9_isHinge_10 x1 x2 ih2 Q) n9 σ (nI 0)))
def wp_X9_isHinge (σ : St) (x1 : Int32) (Q : Int32 → St → Prop) : Prop :=
  ∃ n9 : Nat, LP2 (wp_X9_isHinge_2 x1 Q) n9 σ (nI 0)
def wp_X9_hinges_4 (Q : Int32 → St → Prop) (ih4 : St → Int32 → Int32 → Prop) (σ : St) (x1 : Int32) (x2 : Int32) : Prop :=
  ((nI 10) ≤ x2 → (Q x1 σ)) ∧ (¬ (nI 10) ≤ x2 → (wp_X9_isState σ x2 (nI 1) (fun r_2 => ((r_2 = 0 → (∀ x1_5 : Int32, x1_5 = x1 ||| (nI 0) → (∀ x2_6 : Int32, x2_6 = x2 + (nI 1) → (ih4 σ x1_5 x2_6)))) ∧ (¬ r_2 = 0 → (wp_X9_isHinge σ x2 (fun r_7 σ_8 => ((r_7 = 0 → (∀ x1_10 : Int32, x1_10 = x1 ||| (nI 0) → (∀ x2_11 : Int32, x2_11 = x2 + (nI 1) → (ih4 σ_8 x1_10 x2_11)))) ∧ (¬ r_7 = 0 → (∀ x1_12 : Int32, x1_12 = x1 ||| ((nI 1) <<< (x2 &&& 31)) → (∀ x2_13 : Int32, x2_13 = x2 + (nI 1) → (ih4 σ_8 x1_12 x2_13))))))))))))
def wp_X9_hinges (σ : St) (Q : Int32 → St → Prop) : Prop :=
  ∃ n9 : Nat, LP3 (wp_X9_hinges_4 Q) n9 σ (nI 0) (nI 0)
def wp_X9_spot_4 (σ : St) (Q : Int32 → Prop) (ih4 : Int32 → Int32 → Prop) (x1 : Int32) (x2 : Int32) : Prop :=
  ((σ 244 23) ≤ x2 → (Q x1)) ∧ (¬ (σ 244 23) ≤ x2 → (vp_in x2 2048 ∧ (wp_X9_isState σ (σ 251 (Int32.toNatClampNeg x2)) (nI 1) (fun r_3 => ((r_3 = 0 → (∀ x2_6 : Int32, x2_6 = x2 + (nI 1) → (ih4 x1 x2_6))) ∧ (¬ r_3 = 0 → ((x1 = (-1) → (vp_in x2 2048 ∧ (∀ x1_9 : Int32, x1_9 = σ 250 (Int32.toNatClampNeg x2) → (∀ x2_10 : Int32, x2_10 = x2 + (nI 1) → (ih4 x1_9 x2_10))))) ∧ (¬ x1 = (-1) → (vp_in x2 2048 ∧ (wp_X9_depthOf σ (σ 250 (Int32.toNatClampNeg x2)) (fun r_12 => (wp_X9_depthOf σ x1 (fun r_14 => ((r_14 ≤ r_12 → (∀ x2_17 : Int32, x2_17 = x2 + (nI 1) → (ih4 x1 x2_17))) ∧ (¬ r_14 ≤ r_12 → (vp_in x2 2048 ∧ (∀ x1_19 : Int32, x1_19 = σ 250 (Int32.toNatClampNeg x2) → (∀ x2_20 : Int32, x2_20 = x2 + (nI 1) → (ih4 x1_19 x2_20)))))))))))))))))))
def wp_X9_spot (σ : St) (Q : Int32 → Prop) : Prop :=
  ∃ n9 : Nat, LP2 (wp_X9_spot_4 σ Q) n9 (-1) (nI 0)
def wp_X9_ways_27 (σ : St) (x1 : Int32) (x2 : Int32) (t1 : Int32) (Q : Int32 → St → Prop) : Prop :=
  ∀ σ_1 : St, σ_1 = su σ 244 0 t1 → (((σ_1 244 0) ≤ 0 → (wp_X9_laysList σ_1 x1 (fun σ_3 => ((¬ x2 = (nI 2) → ((¬ x2 = (nI 3) → (wp_X9_allWays σ_3 (fun σ_6 => ((¬ x2 = 0 → (Q (σ_6 244 32) σ_6)) ∧ (x2 = 0 → (Q (σ_6 244 31) σ_6)))))) ∧ (x2 = (nI 3) → (wp_X9_spot σ_3 (fun r_8 => (Q r_8 σ_3)))))) ∧ (x2 = (nI 2) → (wp_X9_hinges σ_3 (fun r_10 σ_11 => (Q r_10 σ_11)))))))) ∧ (¬ (σ_1 244 0) ≤ 0 → (Q (nI 0) σ_1)))
def wp_X9_ways (σ : St) (x1 : Int32) (x2 : Int32) (Q : Int32 → St → Prop) : Prop :=
  wp_X9_isReality σ x1 (fun r_12 => ((¬ r_12 = 0 → (wp_X9_isIn σ x2 (nI 0) (nI 3) (fun r_15 => ((¬ r_15 = 0 → (wp_X9_ways_27 σ x1 x2 (nI 0) Q)) ∧ (r_15 = 0 → (wp_X9_ways_27 σ x1 x2 (nI 2) Q)))))) ∧ (r_12 = 0 → (wp_X9_ways_27 σ x1 x2 (nI 1) Q))))
def wp_X9_friends_31 (x1 : Int32) (Q : Int32 → St → Prop) (ih31 : St → Int32 → Int32 → Prop) (σ : St) (x2 : Int32) (x3 : Int32) : Prop :=
  ((σ 245 37) ≤ x3 → (Q x2 σ)) ∧ (¬ (σ 245 37) ≤ x3 → (wp_X9_laysList σ x3 (fun σ_2 => (wp_X9_besideNode σ_2 x1 (fun r_3 => (∀ x2_5 : Int32, x2_5 = x2 &&& r_3 → (∀ x3_6 : Int32, x3_6 = x3 + (nI 1) → (ih31 σ_2 x2_5 x3_6))))))))
def wp_X9_friends_13 (σ : St) (x1 : Int32) (t1 : Int32) (Q : Int32 → St → Prop) : Prop :=
  ∀ σ_7 : St, σ_7 = su σ 244 0 t1 → (((σ_7 244 0) ≤ 0 → (∃ n9 : Nat, LP3 (wp_X9_friends_31 x1 Q) n9 σ_7 (nI 1023) (nI 0))) ∧ (¬ (σ_7 244 0) ≤ 0 → (Q (nI 0) σ_7)))
def wp_X9_friends (σ : St) (x1 : Int32) (Q : Int32 → St → Prop) : Prop :=
  wp_X9_isNode σ x1 (fun r_9 => ((r_9 = 0 → (wp_X9_friends_13 σ x1 (nI 1) Q)) ∧ (¬ r_9 = 0 → (wp_X9_friends_13 σ x1 (nI 0) Q))))
def wp_X9_image_7 (Q : St → Prop) (ih7 : St → Int32 → Prop) (σ : St) (x1 : Int32) : Prop :=
  ((nI 6682) ≤ x1 → (∀ σ_2 : St, σ_2 = su σ 244 6 (nI 1) → (Q σ_2))) ∧ (¬ (nI 6682) ≤ x1 → (vp_in x1 6682 ∧ (vp_in x1 6682 ∧ (∀ σ_5 : St, σ_5 = su σ 247 (Int32.toNatClampNeg x1) (σ 245 (Int32.toNatClampNeg x1)) → (∀ x1_6 : Int32, x1_6 = x1 + (nI 1) → (ih7 σ_5 x1_6))))))
def wp_X9_image (σ : St) (Q : St → Prop) : Prop :=
  ∀ σ_7 : St, σ_7 = su σ 244 0 (nI 0) → (∃ n9 : Nat, LP2 (wp_X9_image_7 Q) n9 σ_7 (nI 0))
def wp_X9_back_16 (Q : Int32 → St → Prop) (ih16 : St → Int32 → Prop) (σ : St) (x1 : Int32) : Prop :=
  ((nI 6682) ≤ x1 → (∀ σ_2 : St, σ_2 = su σ 244 5 (nI 0) → (Q (nI 1) σ_2))) ∧ (¬ (nI 6682) ≤ x1 → (vp_in x1 6682 ∧ (vp_in x1 6682 ∧ (∀ σ_5 : St, σ_5 = su σ 245 (Int32.toNatClampNeg x1) (σ 247 (Int32.toNatClampNeg x1)) → (∀ x1_6 : Int32, x1_6 = x1 + (nI 1) → (ih16 σ_5 x1_6))))))
def wp_X9_back (σ : St) (Q : Int32 → St → Prop) : Prop :=
  ∀ σ_7 : St, σ_7 = su σ 244 0 (nI 0) → ((¬ (σ_7 244 6) = 0 → (∃ n9 : Nat, LP2 (wp_X9_back_16 Q) n9 σ_7 (nI 0))) ∧ ((σ_7 244 6) = 0 → (Q (nI 0) σ_7)))
def wp_X9_storedKeys_4 (σ : St) (Q : Int32 → Prop) (ih4 : Int32 → Int32 → Prop) (x1 : Int32) (x2 : Int32) : Prop :=
  ((nI 100) ≤ x2 → (Q x1)) ∧ (¬ (nI 100) ≤ x2 → (vp_in ((nI 38) + x2) 6682 ∧ (∀ x1_3 : Int32, x1_3 = x1 + (σ 245 (Int32.toNatClampNeg ((nI 38) + x2))) → (∀ x2_4 : Int32, x2_4 = x2 + (nI 1) → (ih4 x1_3 x2_4)))))
def wp_X9_storedKeys (σ : St) (Q : Int32 → Prop) : Prop :=
  ∃ n9 : Nat, LP2 (wp_X9_storedKeys_4 σ Q) n9 (nI 0) (nI 0)
def wp_X9_safeKeys_4 (σ : St) (Q : Int32 → Prop) (ih4 : Int32 → Int32 → Prop) (x1 : Int32) (x2 : Int32) : Prop :=
  ((nI 100) ≤ x2 → (Q x1)) ∧ (¬ (nI 100) ≤ x2 → (vp_in ((nI 38) + x2) 6682 ∧ ((¬ (σ 245 (Int32.toNatClampNeg ((nI 38) + x2))) = (nI 1) → (∀ x1_4 : Int32, x1_4 = x1 + (nI 0) → (∀ x2_5 : Int32, x2_5 = x2 + (nI 1) → (ih4 x1_4 x2_5)))) ∧ ((σ 245 (Int32.toNatClampNeg ((nI 38) + x2))) = (nI 1) → (wp_X9_heldIn σ x2 (fun r_6 => ((¬ r_6 = (((nI 1) <<< ((σ 245 37) &&& 31)) - (nI 1)) → (∀ x1_9 : Int32, x1_9 = x1 + (nI 0) → (∀ x2_10 : Int32, x2_10 = x2 + (nI 1) → (ih4 x1_9 x2_10)))) ∧ (r_6 = (((nI 1) <<< ((σ 245 37) &&& 31)) - (nI 1)) → (∀ x1_11 : Int32, x1_11 = x1 + (nI 1) → (∀ x2_12 : Int32, x2_12 = x2 + (nI 1) → (ih4 x1_11 x2_12)))))))))))
def wp_X9_safeKeys (σ : St) (Q : Int32 → Prop) : Prop :=
  ∃ n9 : Nat, LP2 (wp_X9_safeKeys_4 σ Q) n9 (nI 0) (nI 0)
def wp_X9_lostCopies_12 (σ : St) (x2 : Int32) (ih4 : Int32 → Int32 → Prop) (Q : Int32 → Prop) (ih12 : Int32 → Int32 → Prop) (x1 : Int32) (x3 : Int32) : Prop :=
  ((σ 245 37) ≤ x3 → (∀ x2_2 : Int32, x2_2 = x2 + (nI 1) → (ih4 x1 x2_2))) ∧ (¬ (σ 245 37) ≤ x3 → (vp_in ((nI 38) + x2) 6682 ∧ ((¬ (σ 245 (Int32.toNatClampNeg ((nI 38) + x2))) = (nI 1) → (∀ x1_5 : Int32, x1_5 = x1 + (nI 0) → (∀ x3_6 : Int32, x3_6 = x3 + (nI 1) → (ih12 x1_5 x3_6)))) ∧ ((σ 245 (Int32.toNatClampNeg ((nI 38) + x2))) = (nI 1) → (wp_X9_isHeld σ x2 x3 (fun r_7 => ((¬ r_7 = 0 → (∀ x1_10 : Int32, x1_10 = x1 + (nI 0) → (∀ x3_11 : Int32, x3_11 = x3 + (nI 1) → (ih12 x1_10 x3_11)))) ∧ (r_7 = 0 → (∀ x1_12 : Int32, x1_12 = x1 + (nI 1) → (∀ x3_13 : Int32, x3_13 = x3 + (nI 1) → (ih12 x1_12 x3_13)))))))))))
def wp_X9_lostCopies_4 (σ : St) (Q : Int32 → Prop) (ih4 : Int32 → Int32 → Prop) (x1 : Int32) (x2 : Int32) : Prop :=
  ((nI 100) ≤ x2 → (Q x1)) ∧ (¬ (nI 100) ≤ x2 → (∃ n9 : Nat, LP2 (wp_X9_lostCopies_12 σ x2 ih4 Q) n9 x1 (nI 0)))
def wp_X9_lostCopies (σ : St) (Q : Int32 → Prop) : Prop :=
  ∃ n9 : Nat, LP2 (wp_X9_lostCopies_4 σ Q) n9 (nI 0) (nI 0)
def wp_X9_count (σ : St) (x1 : Int32) (Q : Int32 → St → Prop) : Prop :=
  ∀ σ_1 : St, σ_1 = su σ 244 0 (nI 0) → ((x1 = nI 0 → (Q (σ_1 245 37) σ_1)) ∧ (¬ x1 = nI 0 → ((x1 = nI 1 → (wp_X9_bitsOf σ_1 (nI 1) (fun r_5 => (Q r_5 σ_1)))) ∧ (¬ x1 = nI 1 → ((x1 = nI 2 → (wp_X9_bitsOf σ_1 (nI 2) (fun r_8 => (Q r_8 σ_1)))) ∧ (¬ x1 = nI 2 → ((x1 = nI 3 → (Q (σ_1 245 30) σ_1)) ∧ (¬ x1 = nI 3 → ((x1 = nI 4 → (wp_X9_storedKeys σ_1 (fun r_12 => (Q r_12 σ_1)))) ∧ (¬ x1 = nI 4 → ((x1 = nI 5 → (wp_X9_safeKeys σ_1 (fun r_15 => (Q r_15 σ_1)))) ∧ (¬ x1 = nI 5 → ((x1 = nI 6 → (wp_X9_lostCopies σ_1 (fun r_18 => (Q r_18 σ_1)))) ∧ (¬ x1 = nI 6 → ((x1 = nI 7 → (Q (σ_1 244 5) σ_1)) ∧ (¬ x1 = nI 7 → (Q (-1) σ_1)))))))))))))))))
