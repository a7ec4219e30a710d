/-! THE LAW'S LOOP -/
theorem dW_40 : decode code 40 = .ok (.tableswitch 1926 0 30 #[140, 213, 238, 282, 295, 308, 400, 468, 536, 580, 648, 704, 717, 761, 829, 909, 989, 1057, 1149, 1229, 1297, 1377, 1481, 1561, 1617, 1685, 1753, 1821, 1877, 1888, 1901], 140) := by decide +kernel
section LOOP
variable {p : Program} {l : Launch} {e : Env} {s : State} {m : MethodId} {below : List Frame} {meth : Method} {c : Code} {G : Gp} {b Ln : Nat} {xs : Nat → Int32} {Qm : State → Prop} {x4 : Int32}
theorem J_tabK {kc ks k : Nat} {v : Int32} {off : Int} {tgt : Nat} {L : List (Nat × Value)} {σ : St} (F : FX p s m #[Value.ref b] meth c code 7 ret RL G) (hv : v = nI k) (hk : k ≤ 30) (ho : (#[140, 213, 238, 282, 295, 308, 400, 468, 536, 580, 648, 704, 717, 761, 829, 909, 989, 1057, 1149, 1229, 1297, 1377, 1481, 1561, 1617, 1685, 1753, 1821, 1877, 1888, 1901] : Array Int)[k]? = some off) (ht : ((40 : Nat) : Int) + off = (tgt : Int)) (h : J p l e room_1 s m #[Value.ref b] below meth c 7 G Qm kc ks tgt L [] σ) : J p l e room_1 s m #[Value.ref b] below meth c 7 G Qm kc ks 40 L [.int v] σ := by
  subst hv
  have hi : (nI k).toInt = (k : Int) := nI_toInt (by omega)
  exact J_tabIn F dW_40 (by rw [hi]; omega) (by rw [hi]; omega) (by rw [hi, show ((k : Int) - 0).toNat = k by omega]; exact ho) ht h
set_option maxRecDepth 20000 in
set_option maxHeartbeats 4000000 in
theorem S_all (hl : l.stackTraces = false) (A : LA p s m meth c G b Ln xs) (hin : ∀ c, c < 6 → vp_in (x4 + nI c) Ln) (hin0 : vp_in x4 Ln) : LStep p l e s m below meth c G b Qm x4 33 := by
  intro kc ks σ u hkc hks hC hR hs K
  obtain ⟨F, hX, hb, hg⟩ := id A
  refine J_aln F 4 dW_33 rfl rfl ?_
  refine J_il F 0 dW_34 rfl ?_
  refine J_sld F hX hb hg hin0 dW_36 ?_
  refine J_bi F (v := nI 31) dW_37 (by decide) ?_
  refine J_iand F dW_39 ?_
  refine J_top (fun v _ => ?_)
  by_cases c0 : v = nI 0
  · exact J_tabK F (off := 140) (tgt := 180) c0 (by decide) rfl (by decide) (S_feed hl A hin kc ks σ u hkc hks hC hR hs K)
  by_cases c1 : v = nI 1
  · exact J_tabK F (off := 213) (tgt := 253) c1 (by decide) rfl (by decide) (S_end hl A hin kc ks σ u hkc hks hC hR hs K)
  by_cases c2 : v = nI 2
  · exact J_tabK F (off := 238) (tgt := 278) c2 (by decide) rfl (by decide) (S_acts hl A hin kc ks σ u hkc hks hC hR hs K)
  by_cases c3 : v = nI 3
  · exact J_tabK F (off := 282) (tgt := 322) c3 (by decide) rfl (by decide) (S_fault hl A hin kc ks σ u hkc hks hC hR hs K)
  by_cases c4 : v = nI 4
  · exact J_tabK F (off := 295) (tgt := 335) c4 (by decide) rfl (by decide) (S_why hl A hin kc ks σ u hkc hks hC hR hs K)
  by_cases c5 : v = nI 5
  · exact J_tabK F (off := 308) (tgt := 348) c5 (by decide) rfl (by decide) (S_join hl A hin kc ks σ u hkc hks hC hR hs K)
  by_cases c6 : v = nI 6
  · exact J_tabK F (off := 400) (tgt := 440) c6 (by decide) rfl (by decide) (S_near hl A hin kc ks σ u hkc hks hC hR hs K)
  by_cases c7 : v = nI 7
  · exact J_tabK F (off := 468) (tgt := 508) c7 (by decide) rfl (by decide) (S_go hl A hin kc ks σ u hkc hks hC hR hs K)
  by_cases c8 : v = nI 8
  · exact J_tabK F (off := 536) (tgt := 576) c8 (by decide) rfl (by decide) (S_tidy hl A hin kc ks σ u hkc hks hC hR hs K)
  by_cases c9 : v = nI 9
  · exact J_tabK F (off := 580) (tgt := 620) c9 (by decide) rfl (by decide) (S_put hl A hin kc ks σ u hkc hks hC hR hs K)
  by_cases c10 : v = nI 10
  · exact J_tabK F (off := 648) (tgt := 688) c10 (by decide) rfl (by decide) (S_cut hl A hin kc ks σ u hkc hks hC hR hs K)
  by_cases c11 : v = nI 11
  · exact J_tabK F (off := 704) (tgt := 744) c11 (by decide) rfl (by decide) (S_mend hl A hin kc ks σ u hkc hks hC hR hs K)
  by_cases c12 : v = nI 12
  · exact J_tabK F (off := 717) (tgt := 757) c12 (by decide) rfl (by decide) (S_undo hl A hin kc ks σ u hkc hks hC hR hs K)
  by_cases c13 : v = nI 13
  · exact J_tabK F (off := 761) (tgt := 801) c13 (by decide) rfl (by decide) (S_node hl A hin kc ks σ u hkc hks hC hR hs K)
  by_cases c14 : v = nI 14
  · exact J_tabK F (off := 829) (tgt := 869) c14 (by decide) rfl (by decide) (S_held hl A hin kc ks σ u hkc hks hC hR hs K)
  by_cases c15 : v = nI 15
  · exact J_tabK F (off := 909) (tgt := 949) c15 (by decide) rfl (by decide) (S_zone hl A hin kc ks σ u hkc hks hC hR hs K)
  by_cases c16 : v = nI 16
  · exact J_tabK F (off := 989) (tgt := 1029) c16 (by decide) rfl (by decide) (S_box hl A hin kc ks σ u hkc hks hC hR hs K)
  by_cases c17 : v = nI 17
  · exact J_tabK F (off := 1057) (tgt := 1097) c17 (by decide) rfl (by decide) (S_cell hl A hin kc ks σ u hkc hks hC hR hs K)
  by_cases c18 : v = nI 18
  · exact J_tabK F (off := 1149) (tgt := 1189) c18 (by decide) rfl (by decide) (S_heir hl A hin kc ks σ u hkc hks hC hR hs K)
  by_cases c19 : v = nI 19
  · exact J_tabK F (off := 1229) (tgt := 1269) c19 (by decide) rfl (by decide) (S_key hl A hin kc ks σ u hkc hks hC hR hs K)
  by_cases c20 : v = nI 20
  · exact J_tabK F (off := 1297) (tgt := 1337) c20 (by decide) rfl (by decide) (S_point hl A hin kc ks σ u hkc hks hC hR hs K)
  by_cases c21 : v = nI 21
  · exact J_tabK F (off := 1377) (tgt := 1417) c21 (by decide) rfl (by decide) (S_way hl A hin kc ks σ u hkc hks hC hR hs K)
  by_cases c22 : v = nI 22
  · exact J_tabK F (off := 1481) (tgt := 1521) c22 (by decide) rfl (by decide) (S_seek hl A hin kc ks σ u hkc hks hC hR hs K)
  by_cases c23 : v = nI 23
  · exact J_tabK F (off := 1561) (tgt := 1601) c23 (by decide) rfl (by decide) (S_risk hl A hin kc ks σ u hkc hks hC hR hs K)
  by_cases c24 : v = nI 24
  · exact J_tabK F (off := 1617) (tgt := 1657) c24 (by decide) rfl (by decide) (S_order hl A hin kc ks σ u hkc hks hC hR hs K)
  by_cases c25 : v = nI 25
  · exact J_tabK F (off := 1685) (tgt := 1725) c25 (by decide) rfl (by decide) (S_reality hl A hin kc ks σ u hkc hks hC hR hs K)
  by_cases c26 : v = nI 26
  · exact J_tabK F (off := 1753) (tgt := 1793) c26 (by decide) rfl (by decide) (S_ways hl A hin kc ks σ u hkc hks hC hR hs K)
  by_cases c27 : v = nI 27
  · exact J_tabK F (off := 1821) (tgt := 1861) c27 (by decide) rfl (by decide) (S_friends hl A hin kc ks σ u hkc hks hC hR hs K)
  by_cases c28 : v = nI 28
  · exact J_tabK F (off := 1877) (tgt := 1917) c28 (by decide) rfl (by decide) (S_image hl A hin kc ks σ u hkc hks hC hR hs K)
  by_cases c29 : v = nI 29
  · exact J_tabK F (off := 1888) (tgt := 1928) c29 (by decide) rfl (by decide) (S_back hl A hin kc ks σ u hkc hks hC hR hs K)
  by_cases c30 : v = nI 30
  · exact J_tabK F (off := 1901) (tgt := 1941) c30 (by decide) rfl (by decide) (S_count hl A hin kc ks σ u hkc hks hC hR hs K)
  refine J_tabOut F (tgt := 1966) dW_40 (tab_out 0 30 (fun k _ hk => ?_)) (by decide) (J_widen (k := kc + 4) (n := ks + 24) (by omega) (by omega) (K σ u hC hR hs))
  rcases (show k = 0 ∨ k = 1 ∨ k = 2 ∨ k = 3 ∨ k = 4 ∨ k = 5 ∨ k = 6 ∨ k = 7 ∨ k = 8 ∨ k = 9 ∨ k = 10 ∨ k = 11 ∨ k = 12 ∨ k = 13 ∨ k = 14 ∨ k = 15 ∨ k = 16 ∨ k = 17 ∨ k = 18 ∨ k = 19 ∨ k = 20 ∨ k = 21 ∨ k = 22 ∨ k = 23 ∨ k = 24 ∨ k = 25 ∨ k = 26 ∨ k = 27 ∨ k = 28 ∨ k = 29 ∨ k = 30 by omega) with rfl | rfl | rfl | rfl | rfl | rfl | rfl | rfl | rfl | rfl | rfl | rfl | rfl | rfl | rfl | rfl | rfl | rfl | rfl | rfl | rfl | rfl | rfl | rfl | rfl | rfl | rfl | rfl | rfl | rfl | rfl <;> assumption
theorem sub6 {n j : Nat} (hn : n ≤ 3072) (hj : j < 2 ^ 31) (h : ¬ (nI n - nI 6) < nI j) : j + 6 ≤ n := by
  by_cases c : 6 ≤ n
  · rw [n_sub c, n_lt (by omega) hj] at h
    omega
  · exfalso
    apply h
    have h1 : (nI n - nI 6).toInt < 0 := by
      rcases (show n = 0 ∨ n = 1 ∨ n = 2 ∨ n = 3 ∨ n = 4 ∨ n = 5 by omega) with rfl | rfl | rfl | rfl | rfl | rfl <;> decide
    rw [Int32.lt_iff_toInt_lt, nI_toInt hj]
    omega
set_option maxRecDepth 20000 in
set_option maxHeartbeats 4000000 in
theorem L_loop (hl : l.stackTraces = false) (A : LA p s m meth c G b Ln xs) (hL : Ln ≤ 3072) : ∀ (d j : Nat) (σ : St) (u : AS), j + d = 512 → CR σ u → RR σ u → Sok u → J p l e room_1 s m #[Value.ref b] below meth c 7 G (lw_Z below #[Value.ref b] s) (259 + 4 * j) (159911 + 24 * j) 23 (Lw G b (nI (6 * j))) [] σ := by
  obtain ⟨F, hX, hb, hg⟩ := id A
  have hend : ∀ (j : Nat) (σ : St) (x : Int32), j ≤ 512 → J p l e room_1 s m #[Value.ref b] below meth c 7 G (lw_Z below #[Value.ref b] s) (259 + 4 * j) (159911 + 24 * j) 1972 (Lw G b x) [] σ := by
    intro j σ x hj
    refine J_ic F (v := 1) dW_1972 (by decide) ?_
    intro ls H locs hl hP hS
    refine W.widen (k := 601024) (n := 7293034) (by omega) (by omega) ?_
    refine va_forget (fun q hq => ?_) (lw_ret F.1 F.2.1 F.2.2.1 F.2.2.2.1 dW_1973)
    have h1 : gb G ≤ q.base := hS.2.2 q hq
    rw [← hg]
    exact h1
  have hhead : ∀ (j : Nat) (σ : St), j ≤ 512 → (6 * j + 6 ≤ Ln → J p l e room_1 s m #[Value.ref b] below meth c 7 G (lw_Z below #[Value.ref b] s) (259 + 4 * j) (159911 + 24 * j) 33 (Lw G b (nI (6 * j))) [] σ) → J p l e room_1 s m #[Value.ref b] below meth c 7 G (lw_Z below #[Value.ref b] s) (259 + 4 * j) (159911 + 24 * j) 23 (Lw G b (nI (6 * j))) [] σ := by
    intro j σ hj k
    refine J_il F 0 dW_23 rfl ?_
    refine J_aln F 4 dW_25 rfl rfl ?_
    refine J_scrlen F hX hb hg dW_26 ?_
    refine J_bi F (v := nI 6) dW_27 (by decide) ?_
    refine J_isub F dW_29 ?_
    refine J_cgt F (tgt := 1972) dW_30 (by decide) (fun _ => hend j σ _ hj) (fun h => ?_)
    exact k (sub6 hL (by omega) h)
  intro d
  induction d with
  | zero =>
    intro j σ u hj hC hR hs
    exact hhead j σ (by omega) (fun h => absurd h (by omega))
  | succ d ih =>
    intro j σ u hj hC hR hs
    refine hhead j σ (by omega) (fun h => ?_)
    refine S_all hl A (fun c hc => ?_) (n_in (by omega) (by omega)) (259 + 4 * j) (159911 + 24 * j) σ u (by omega) (by omega) hC hR hs (fun σ' u' hC' hR' hs' => ?_)
    · rw [n_add]
      exact n_in (by omega) (by omega)
    · refine J_iinc F (v := nI (6 * (j + 1))) (L' := Lw G b (nI (6 * (j + 1)))) 0 dW_1966 rfl (by rw [show Int32.ofInt 6 = nI 6 from rfl, n_add]; rfl) (by decide) rfl ?_
      refine J_goto F (tgt := 23) dW_1969 (by decide) ?_
      exact J_widen (k := 259 + 4 * (j + 1)) (n := 159911 + 24 * (j + 1)) (by omega) (by omega) (ih (j + 1) σ' u' (by omega) hC' hR' hs')
end LOOP
