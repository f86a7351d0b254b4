def L_law_c1234 (F : Nat) (L : Nat) (xs : Nat → Int32) (rc18 : Int32 → AH → Prop) (K : Int32 → AH → Prop) (x3 : Int32) (h : AH) : Prop := rc18 (x3 + (nI 4)) h
set_option maxHeartbeats 4000000 in
theorem bw_L_law_c1234 {l : Launch} {F : Nat} {L : Nat} {xs : Nat → Int32} {rc18 : Int32 → AH → Prop} {K : Int32 → AH → Prop} {x3 : Int32} {h : AH}  (hr18 : ∀ (x3 : Int32) (h : AH), rc18 x3 h → BW RL cL_law 4 (some .boolean) l room_1 (tbS L xs) 4 [.ref (NC + 3), .ref 0, .ref 56, .int x3] [] 18 h (Qi K)) (hM : L_law_c1234 F L xs rc18 K x3 h) : BW RL cL_law 4 (some .boolean) l room_1 (tbS L xs) 4 [.ref (NC + 3), .ref 0, .ref 56, .int x3] [] 1234 h (Qi K) := by
  unfold L_law_c1234 at hM
  refine B_iinc dL_law_1234 rfl k_ic_4 (Nat.le_of_ble_eq_true rfl) ?_
  refine B_goto (tgt := 18) dL_law_1237 rfl ?_
  exact B_wk (hr18 _ _ hM) (wk_1 (wk_1 (wk_1 (wk_1 wk_n))))
def L_law_c18 (F : Nat) (L : Nat) (xs : Nat → Int32) (K : Int32 → AH → Prop) (n : Nat) : Int32 → AH → Prop := Nat.rec (motive := fun _ => Int32 → AH → Prop) (fun _ _ => False) (fun _ rc18 x3 h => if ((Int32.ofNat L) - (nI 4)) < x3 then (K (nI 1) h) else (vp_in x3 L ∧ (if ((xs x3.toNatClampNeg) &&& (nI 63)) = (nI 0) then (vp_in (x3 + (nI 1)) L ∧ (vp_in (x3 + (nI 2)) L ∧ (P_X7_thing F (xs (x3 + (nI 1)).toNatClampNeg) (xs (x3 + (nI 2)).toNatClampNeg) h (fun (r2 : Int32) (h1 : AH) => vp_in (x3 + (nI 1)) L ∧ (vp_in (x3 + (nI 2)) L ∧ (P_X8_thing F (xs (x3 + (nI 1)).toNatClampNeg) (xs (x3 + (nI 2)).toNatClampNeg) h1 (fun (r4 : Int32) (h3 : AH) => if r2 = r4 then (L_law_c1234 F L xs rc18 K x3 h3) else (K (nI 0) h3)))))))) else (if ((xs x3.toNatClampNeg) &&& (nI 63)) = (nI 1) then (vp_in (x3 + (nI 1)) L ∧ (vp_in (x3 + (nI 2)) L ∧ (P_X7_thingOf F (xs (x3 + (nI 1)).toNatClampNeg) (xs (x3 + (nI 2)).toNatClampNeg) h (fun (r6 : Int32) (h5 : AH) => vp_in (x3 + (nI 1)) L ∧ (vp_in (x3 + (nI 2)) L ∧ (P_X8_thingOf F (xs (x3 + (nI 1)).toNatClampNeg) (xs (x3 + (nI 2)).toNatClampNeg) h5 (fun (r8 : Int32) (h7 : AH) => if r6 = r8 then (L_law_c1234 F L xs rc18 K x3 h7) else (K (nI 0) h7)))))))) else (if ((xs x3.toNatClampNeg) &&& (nI 63)) = (nI 2) then (vp_in (x3 + (nI 1)) L ∧ (vp_in (x3 + (nI 2)) L ∧ (vp_in (x3 + (nI 3)) L ∧ (P_X7_ask F (xs (x3 + (nI 1)).toNatClampNeg) (xs (x3 + (nI 2)).toNatClampNeg) (xs (x3 + (nI 3)).toNatClampNeg) h (fun (r10 : Int32) (h9 : AH) => vp_in (x3 + (nI 1)) L ∧ (vp_in (x3 + (nI 2)) L ∧ (vp_in (x3 + (nI 3)) L ∧ (P_X8_ask F (xs (x3 + (nI 1)).toNatClampNeg) (xs (x3 + (nI 2)).toNatClampNeg) (xs (x3 + (nI 3)).toNatClampNeg) h9 (fun (r12 : Int32) (h11 : AH) => if r10 = r12 then (L_law_c1234 F L xs rc18 K x3 h11) else (K (nI 0) h11)))))))))) else (if ((xs x3.toNatClampNeg) &&& (nI 63)) = (nI 3) then (vp_in (x3 + (nI 1)) L ∧ (vp_in (x3 + (nI 2)) L ∧ (vp_in (x3 + (nI 3)) L ∧ (P_X7_give F (xs (x3 + (nI 1)).toNatClampNeg) (xs (x3 + (nI 2)).toNatClampNeg) (xs (x3 + (nI 3)).toNatClampNeg) h (fun (r14 : Int32) (h13 : AH) => vp_in (x3 + (nI 1)) L ∧ (vp_in (x3 + (nI 2)) L ∧ (vp_in (x3 + (nI 3)) L ∧ (P_X8_give F (xs (x3 + (nI 1)).toNatClampNeg) (xs (x3 + (nI 2)).toNatClampNeg) (xs (x3 + (nI 3)).toNatClampNeg) h13 (fun (r16 : Int32) (h15 : AH) => if r14 = r16 then (L_law_c1234 F L xs rc18 K x3 h15) else (K (nI 0) h15)))))))))) else (if ((xs x3.toNatClampNeg) &&& (nI 63)) = (nI 4) then (vp_in (x3 + (nI 1)) L ∧ (P_X7_leaves F (xs (x3 + (nI 1)).toNatClampNeg) h (fun (r18 : Int32) (h17 : AH) => vp_in (x3 + (nI 1)) L ∧ (P_X8_leaves F (xs (x3 + (nI 1)).toNatClampNeg) h17 (fun (r20 : Int32) (h19 : AH) => if r18 = r20 then (L_law_c1234 F L xs rc18 K x3 h19) else (K (nI 0) h19)))))) else (if ((xs x3.toNatClampNeg) &&& (nI 63)) = (nI 5) then (vp_in (x3 + (nI 1)) L ∧ (P_X7_forgets F (xs (x3 + (nI 1)).toNatClampNeg) h (fun (r22 : Int32) (h21 : AH) => vp_in (x3 + (nI 1)) L ∧ (P_X8_forgets F (xs (x3 + (nI 1)).toNatClampNeg) h21 (fun (r24 : Int32) (h23 : AH) => if r22 = r24 then (L_law_c1234 F L xs rc18 K x3 h23) else (K (nI 0) h23)))))) else (if ((xs x3.toNatClampNeg) &&& (nI 63)) = (nI 6) then (P_X7_breaks F h (fun (r26 : Int32) (h25 : AH) => P_X8_breaks F h25 (fun (r28 : Int32) (h27 : AH) => if r26 = r28 then (L_law_c1234 F L xs rc18 K x3 h27) else (K (nI 0) h27)))) else (if ((xs x3.toNatClampNeg) &&& (nI 63)) = (nI 7) then (vp_in (x3 + (nI 1)) L ∧ (vp_in (x3 + (nI 2)) L ∧ (vp_in (x3 + (nI 3)) L ∧ (P_X7_held F (xs (x3 + (nI 1)).toNatClampNeg) (xs (x3 + (nI 2)).toNatClampNeg) (xs (x3 + (nI 3)).toNatClampNeg) h (fun (r30 : Int32) (h29 : AH) => vp_in (x3 + (nI 1)) L ∧ (vp_in (x3 + (nI 2)) L ∧ (vp_in (x3 + (nI 3)) L ∧ (P_X8_held F (xs (x3 + (nI 1)).toNatClampNeg) (xs (x3 + (nI 2)).toNatClampNeg) (xs (x3 + (nI 3)).toNatClampNeg) h29 (fun (r32 : Int32) (h31 : AH) => if r30 = r32 then (L_law_c1234 F L xs rc18 K x3 h31) else (K (nI 0) h31)))))))))) else (if ((xs x3.toNatClampNeg) &&& (nI 63)) = (nI 8) then (vp_in (x3 + (nI 1)) L ∧ (vp_in (x3 + (nI 2)) L ∧ (P_X7_holders F (xs (x3 + (nI 1)).toNatClampNeg) (xs (x3 + (nI 2)).toNatClampNeg) h (fun (r34 : Int32) (h33 : AH) => vp_in (x3 + (nI 1)) L ∧ (vp_in (x3 + (nI 2)) L ∧ (P_X8_holders F (xs (x3 + (nI 1)).toNatClampNeg) (xs (x3 + (nI 2)).toNatClampNeg) h33 (fun (r36 : Int32) (h35 : AH) => if r34 = r36 then (L_law_c1234 F L xs rc18 K x3 h35) else (K (nI 0) h35)))))))) else (if ((xs x3.toNatClampNeg) &&& (nI 63)) = (nI 9) then (vp_in (x3 + (nI 1)) L ∧ (P_X7_waits F (xs (x3 + (nI 1)).toNatClampNeg) h (fun (r38 : Int32) (h37 : AH) => vp_in (x3 + (nI 1)) L ∧ (P_X8_waits F (xs (x3 + (nI 1)).toNatClampNeg) h37 (fun (r40 : Int32) (h39 : AH) => if r38 = r40 then (L_law_c1234 F L xs rc18 K x3 h39) else (K (nI 0) h39)))))) else (if ((xs x3.toNatClampNeg) &&& (nI 63)) = (nI 10) then (vp_in (x3 + (nI 1)) L ∧ (P_X7_line F (xs (x3 + (nI 1)).toNatClampNeg) h (fun (r42 : Int32) (h41 : AH) => vp_in (x3 + (nI 1)) L ∧ (P_X8_line F (xs (x3 + (nI 1)).toNatClampNeg) h41 (fun (r44 : Int32) (h43 : AH) => if r42 = r44 then (L_law_c1234 F L xs rc18 K x3 h43) else (K (nI 0) h43)))))) else (if ((xs x3.toNatClampNeg) &&& (nI 63)) = (nI 11) then (vp_in (x3 + (nI 1)) L ∧ (P_X7_waitsFor F (xs (x3 + (nI 1)).toNatClampNeg) h (fun (r46 : Int32) (h45 : AH) => vp_in (x3 + (nI 1)) L ∧ (P_X8_waitsFor F (xs (x3 + (nI 1)).toNatClampNeg) h45 (fun (r48 : Int32) (h47 : AH) => if r46 = r48 then (L_law_c1234 F L xs rc18 K x3 h47) else (K (nI 0) h47)))))) else (if ((xs x3.toNatClampNeg) &&& (nI 63)) = (nI 12) then (vp_in (x3 + (nI 1)) L ∧ (P_X7_ring F (xs (x3 + (nI 1)).toNatClampNeg) h (fun (r50 : Int32) (h49 : AH) => vp_in (x3 + (nI 1)) L ∧ (P_X8_ring F (xs (x3 + (nI 1)).toNatClampNeg) h49 (fun (r52 : Int32) (h51 : AH) => if r50 = r52 then (L_law_c1234 F L xs rc18 K x3 h51) else (K (nI 0) h51)))))) else (if ((xs x3.toNatClampNeg) &&& (nI 63)) = (nI 13) then (vp_in (x3 + (nI 1)) L ∧ (P_X7_count F (xs (x3 + (nI 1)).toNatClampNeg) h (fun (r54 : Int32) (h53 : AH) => vp_in (x3 + (nI 1)) L ∧ (P_X8_count F (xs (x3 + (nI 1)).toNatClampNeg) h53 (fun (r56 : Int32) (h55 : AH) => if r54 = r56 then (L_law_c1234 F L xs rc18 K x3 h55) else (K (nI 0) h55)))))) else (if ((xs x3.toNatClampNeg) &&& (nI 63)) = (nI 14) then (vp_in (x3 + (nI 1)) L ∧ (vp_in (x3 + (nI 2)) L ∧ (vp_in (x3 + (nI 3)) L ∧ (P_X7_would F (xs (x3 + (nI 1)).toNatClampNeg) (xs (x3 + (nI 2)).toNatClampNeg) (xs (x3 + (nI 3)).toNatClampNeg) h (fun (r58 : Int32) (h57 : AH) => vp_in (x3 + (nI 1)) L ∧ (vp_in (x3 + (nI 2)) L ∧ (vp_in (x3 + (nI 3)) L ∧ (P_X8_would F (xs (x3 + (nI 1)).toNatClampNeg) (xs (x3 + (nI 2)).toNatClampNeg) (xs (x3 + (nI 3)).toNatClampNeg) h57 (fun (r60 : Int32) (h59 : AH) => if r58 = r60 then (L_law_c1234 F L xs rc18 K x3 h59) else (K (nI 0) h59)))))))))) else (if ((xs x3.toNatClampNeg) &&& (nI 63)) = (nI 15) then (vp_in (x3 + (nI 1)) L ∧ (vp_in (x3 + (nI 2)) L ∧ (vp_in (x3 + (nI 3)) L ∧ (P_X7_needs F (xs (x3 + (nI 1)).toNatClampNeg) (xs (x3 + (nI 2)).toNatClampNeg) (xs (x3 + (nI 3)).toNatClampNeg) h (fun (r62 : Int32) (h61 : AH) => vp_in (x3 + (nI 1)) L ∧ (vp_in (x3 + (nI 2)) L ∧ (vp_in (x3 + (nI 3)) L ∧ (P_X8_needs F (xs (x3 + (nI 1)).toNatClampNeg) (xs (x3 + (nI 2)).toNatClampNeg) (xs (x3 + (nI 3)).toNatClampNeg) h61 (fun (r64 : Int32) (h63 : AH) => if r62 = r64 then (L_law_c1234 F L xs rc18 K x3 h63) else (K (nI 0) h63)))))))))) else (if ((xs x3.toNatClampNeg) &&& (nI 63)) = (nI 16) then (vp_in (x3 + (nI 1)) L ∧ (vp_in (x3 + (nI 2)) L ∧ (P_X7_strongest F (xs (x3 + (nI 1)).toNatClampNeg) (xs (x3 + (nI 2)).toNatClampNeg) h (fun (r66 : Int32) (h65 : AH) => vp_in (x3 + (nI 1)) L ∧ (vp_in (x3 + (nI 2)) L ∧ (P_X8_strongest F (xs (x3 + (nI 1)).toNatClampNeg) (xs (x3 + (nI 2)).toNatClampNeg) h65 (fun (r68 : Int32) (h67 : AH) => if r66 = r68 then (L_law_c1234 F L xs rc18 K x3 h67) else (K (nI 0) h67)))))))) else (if ((xs x3.toNatClampNeg) &&& (nI 63)) = (nI 17) then (vp_in (x3 + (nI 1)) L ∧ (vp_in (x3 + (nI 2)) L ∧ (vp_in (x3 + (nI 3)) L ∧ (P_X7_plan F (xs (x3 + (nI 1)).toNatClampNeg) (xs (x3 + (nI 2)).toNatClampNeg) (xs (x3 + (nI 3)).toNatClampNeg) h (fun (r70 : Int32) (h69 : AH) => vp_in (x3 + (nI 1)) L ∧ (vp_in (x3 + (nI 2)) L ∧ (vp_in (x3 + (nI 3)) L ∧ (P_X8_plan F (xs (x3 + (nI 1)).toNatClampNeg) (xs (x3 + (nI 2)).toNatClampNeg) (xs (x3 + (nI 3)).toNatClampNeg) h69 (fun (r72 : Int32) (h71 : AH) => if r70 = r72 then (L_law_c1234 F L xs rc18 K x3 h71) else (K (nI 0) h71)))))))))) else (if ((xs x3.toNatClampNeg) &&& (nI 63)) = (nI 18) then (vp_in (x3 + (nI 1)) L ∧ (P_X7_plays F (xs (x3 + (nI 1)).toNatClampNeg) h (fun (r74 : Int32) (h73 : AH) => vp_in (x3 + (nI 1)) L ∧ (P_X8_plays F (xs (x3 + (nI 1)).toNatClampNeg) h73 (fun (r76 : Int32) (h75 : AH) => if r74 = r76 then (L_law_c1234 F L xs rc18 K x3 h75) else (K (nI 0) h75)))))) else (if ((xs x3.toNatClampNeg) &&& (nI 63)) = (nI 19) then (vp_in (x3 + (nI 1)) L ∧ (vp_in (x3 + (nI 2)) L ∧ (vp_in (x3 + (nI 3)) L ∧ (P_X7_lots F (xs (x3 + (nI 1)).toNatClampNeg) (xs (x3 + (nI 2)).toNatClampNeg) (xs (x3 + (nI 3)).toNatClampNeg) h (fun (r78 : Int32) (h77 : AH) => vp_in (x3 + (nI 1)) L ∧ (vp_in (x3 + (nI 2)) L ∧ (vp_in (x3 + (nI 3)) L ∧ (P_X8_lots F (xs (x3 + (nI 1)).toNatClampNeg) (xs (x3 + (nI 2)).toNatClampNeg) (xs (x3 + (nI 3)).toNatClampNeg) h77 (fun (r80 : Int32) (h79 : AH) => if r78 = r80 then (L_law_c1234 F L xs rc18 K x3 h79) else (K (nI 0) h79)))))))))) else (if ((xs x3.toNatClampNeg) &&& (nI 63)) = (nI 20) then (vp_in (x3 + (nI 1)) L ∧ (P_X7_weighs F (xs (x3 + (nI 1)).toNatClampNeg) h (fun (r82 : Int32) (h81 : AH) => vp_in (x3 + (nI 1)) L ∧ (P_X8_weighs F (xs (x3 + (nI 1)).toNatClampNeg) h81 (fun (r84 : Int32) (h83 : AH) => if r82 = r84 then (L_law_c1234 F L xs rc18 K x3 h83) else (K (nI 0) h83)))))) else (if ((xs x3.toNatClampNeg) &&& (nI 63)) = (nI 21) then (vp_in (x3 + (nI 1)) L ∧ (vp_in (x3 + (nI 2)) L ∧ (vp_in (x3 + (nI 3)) L ∧ (P_X7_plunges F (xs (x3 + (nI 1)).toNatClampNeg) (xs (x3 + (nI 2)).toNatClampNeg) (xs (x3 + (nI 3)).toNatClampNeg) h (fun (r86 : Int32) (h85 : AH) => vp_in (x3 + (nI 1)) L ∧ (vp_in (x3 + (nI 2)) L ∧ (vp_in (x3 + (nI 3)) L ∧ (P_X8_plunges F (xs (x3 + (nI 1)).toNatClampNeg) (xs (x3 + (nI 2)).toNatClampNeg) (xs (x3 + (nI 3)).toNatClampNeg) h85 (fun (r88 : Int32) (h87 : AH) => if r86 = r88 then (L_law_c1234 F L xs rc18 K x3 h87) else (K (nI 0) h87)))))))))) else (if ((xs x3.toNatClampNeg) &&& (nI 63)) = (nI 22) then (vp_in (x3 + (nI 1)) L ∧ (vp_in (x3 + (nI 2)) L ∧ (P_X7_bell F (xs (x3 + (nI 1)).toNatClampNeg) (xs (x3 + (nI 2)).toNatClampNeg) h (fun (r90 : Int32) (h89 : AH) => vp_in (x3 + (nI 1)) L ∧ (vp_in (x3 + (nI 2)) L ∧ (P_X8_bell F (xs (x3 + (nI 1)).toNatClampNeg) (xs (x3 + (nI 2)).toNatClampNeg) h89 (fun (r92 : Int32) (h91 : AH) => if r90 = r92 then (L_law_c1234 F L xs rc18 K x3 h91) else (K (nI 0) h91)))))))) else (if ((xs x3.toNatClampNeg) &&& (nI 63)) = (nI 23) then (vp_in (x3 + (nI 1)) L ∧ (vp_in (x3 + (nI 2)) L ∧ (P_X7_gate F (xs (x3 + (nI 1)).toNatClampNeg) (xs (x3 + (nI 2)).toNatClampNeg) h (fun (r94 : Int32) (h93 : AH) => vp_in (x3 + (nI 1)) L ∧ (vp_in (x3 + (nI 2)) L ∧ (P_X8_gate F (xs (x3 + (nI 1)).toNatClampNeg) (xs (x3 + (nI 2)).toNatClampNeg) h93 (fun (r96 : Int32) (h95 : AH) => if r94 = r96 then (L_law_c1234 F L xs rc18 K x3 h95) else (K (nI 0) h95)))))))) else (if ((xs x3.toNatClampNeg) &&& (nI 63)) = (nI 24) then (vp_in (x3 + (nI 1)) L ∧ (P_X7_feed F (xs (x3 + (nI 1)).toNatClampNeg) h (fun (r98 : Int32) (h97 : AH) => vp_in (x3 + (nI 1)) L ∧ (P_X8_feed F (xs (x3 + (nI 1)).toNatClampNeg) h97 (fun (r100 : Int32) (h99 : AH) => if r98 = r100 then (L_law_c1234 F L xs rc18 K x3 h99) else (K (nI 0) h99)))))) else (if ((xs x3.toNatClampNeg) &&& (nI 63)) = (nI 25) then (P_X7_reads F h (fun (r102 : Int32) (h101 : AH) => P_X8_reads F h101 (fun (r104 : Int32) (h103 : AH) => if r102 = r104 then (L_law_c1234 F L xs rc18 K x3 h103) else (K (nI 0) h103)))) else (if ((xs x3.toNatClampNeg) &&& (nI 63)) = (nI 26) then (P_X7_spells F h (fun (r106 : Int32) (h105 : AH) => P_X8_spells F h105 (fun (r108 : Int32) (h107 : AH) => if r106 = r108 then (L_law_c1234 F L xs rc18 K x3 h107) else (K (nI 0) h107)))) else (if ((xs x3.toNatClampNeg) &&& (nI 63)) = (nI 27) then (vp_in (x3 + (nI 1)) L ∧ (P_X7_paper F (xs (x3 + (nI 1)).toNatClampNeg) h (fun (r110 : Int32) (h109 : AH) => vp_in (x3 + (nI 1)) L ∧ (P_X8_paper F (xs (x3 + (nI 1)).toNatClampNeg) h109 (fun (r112 : Int32) (h111 : AH) => if r110 = r112 then (L_law_c1234 F L xs rc18 K x3 h111) else (K (nI 0) h111)))))) else (if ((xs x3.toNatClampNeg) &&& (nI 63)) = (nI 28) then (vp_in (x3 + (nI 1)) L ∧ (vp_in (x3 + (nI 2)) L ∧ (P_X7_list F (xs (x3 + (nI 1)).toNatClampNeg) (xs (x3 + (nI 2)).toNatClampNeg) h (fun (r114 : Int32) (h113 : AH) => vp_in (x3 + (nI 1)) L ∧ (vp_in (x3 + (nI 2)) L ∧ (P_X8_list F (xs (x3 + (nI 1)).toNatClampNeg) (xs (x3 + (nI 2)).toNatClampNeg) h113 (fun (r116 : Int32) (h115 : AH) => if r114 = r116 then (L_law_c1234 F L xs rc18 K x3 h115) else (K (nI 0) h115)))))))) else (if ((xs x3.toNatClampNeg) &&& (nI 63)) = (nI 29) then (vp_in (x3 + (nI 1)) L ∧ (vp_in (x3 + (nI 2)) L ∧ (vp_in (x3 + (nI 3)) L ∧ (P_X7_set F (xs (x3 + (nI 1)).toNatClampNeg) (xs (x3 + (nI 2)).toNatClampNeg) (xs (x3 + (nI 3)).toNatClampNeg) h (fun (r118 : Int32) (h117 : AH) => vp_in (x3 + (nI 1)) L ∧ (vp_in (x3 + (nI 2)) L ∧ (vp_in (x3 + (nI 3)) L ∧ (P_X8_set F (xs (x3 + (nI 1)).toNatClampNeg) (xs (x3 + (nI 2)).toNatClampNeg) (xs (x3 + (nI 3)).toNatClampNeg) h117 (fun (r120 : Int32) (h119 : AH) => if r118 = r120 then (L_law_c1234 F L xs rc18 K x3 h119) else (K (nI 0) h119)))))))))) else (if ((xs x3.toNatClampNeg) &&& (nI 63)) = (nI 30) then (vp_in (x3 + (nI 1)) L ∧ (vp_in (x3 + (nI 2)) L ∧ (P_X7_get F (xs (x3 + (nI 1)).toNatClampNeg) (xs (x3 + (nI 2)).toNatClampNeg) h (fun (r122 : Int64) (h121 : AH) => vp_in (x3 + (nI 1)) L ∧ (vp_in (x3 + (nI 2)) L ∧ (P_X8_get F (xs (x3 + (nI 1)).toNatClampNeg) (xs (x3 + (nI 2)).toNatClampNeg) h121 (fun (r124 : Int64) (h123 : AH) => if (lg_cmp r122 r124) = (nI 0) then (L_law_c1234 F L xs rc18 K x3 h123) else (K (nI 0) h123)))))))) else (if ((xs x3.toNatClampNeg) &&& (nI 63)) = (nI 31) then (vp_in (x3 + (nI 1)) L ∧ (vp_in (x3 + (nI 2)) L ∧ (P_X7_does F (xs (x3 + (nI 1)).toNatClampNeg) (xs (x3 + (nI 2)).toNatClampNeg) h (fun (r126 : Int32) (h125 : AH) => vp_in (x3 + (nI 1)) L ∧ (vp_in (x3 + (nI 2)) L ∧ (P_X8_does_ F (xs (x3 + (nI 1)).toNatClampNeg) (xs (x3 + (nI 2)).toNatClampNeg) h125 (fun (r128 : Int32) (h127 : AH) => if r126 = r128 then (L_law_c1234 F L xs rc18 K x3 h127) else (K (nI 0) h127)))))))) else (if ((xs x3.toNatClampNeg) &&& (nI 63)) = (nI 32) then (vp_in (x3 + (nI 1)) L ∧ (vp_in (x3 + (nI 2)) L ∧ (vp_in (x3 + (nI 3)) L ∧ (P_X7_into F (xs (x3 + (nI 1)).toNatClampNeg) (xs (x3 + (nI 2)).toNatClampNeg) (xs (x3 + (nI 3)).toNatClampNeg) h (fun (r130 : Int32) (h129 : AH) => vp_in (x3 + (nI 1)) L ∧ (vp_in (x3 + (nI 2)) L ∧ (vp_in (x3 + (nI 3)) L ∧ (P_X8_into F (xs (x3 + (nI 1)).toNatClampNeg) (xs (x3 + (nI 2)).toNatClampNeg) (xs (x3 + (nI 3)).toNatClampNeg) h129 (fun (r132 : Int32) (h131 : AH) => if r130 = r132 then (L_law_c1234 F L xs rc18 K x3 h131) else (K (nI 0) h131)))))))))) else (if ((xs x3.toNatClampNeg) &&& (nI 63)) = (nI 33) then (P_X7_image F h (fun (r134 : Int32) (h133 : AH) => P_X8_image F h133 (fun (r136 : Int32) (h135 : AH) => if r134 = r136 then (L_law_c1234 F L xs rc18 K x3 h135) else (K (nI 0) h135)))) else (if ((xs x3.toNatClampNeg) &&& (nI 63)) = (nI 34) then (P_X7_back F h (fun (r138 : Int32) (h137 : AH) => P_X8_back F h137 (fun (r140 : Int32) (h139 : AH) => if r138 = r140 then (L_law_c1234 F L xs rc18 K x3 h139) else (K (nI 0) h139)))) else (L_law_c1234 F L xs rc18 K x3 h)))))))))))))))))))))))))))))))))))))) n
theorem L_law_c18_s {F : Nat} {L : Nat} {xs : Nat → Int32} {K : Int32 → AH → Prop} {n : Nat} {x3 : Int32} {h : AH} : L_law_c18 F L xs K (n + 1) x3 h = (if ((Int32.ofNat L) - (nI 4)) < x3 then (K (nI 1) h) else (vp_in x3 L ∧ (if ((xs x3.toNatClampNeg) &&& (nI 63)) = (nI 0) then (vp_in (x3 + (nI 1)) L ∧ (vp_in (x3 + (nI 2)) L ∧ (P_X7_thing F (xs (x3 + (nI 1)).toNatClampNeg) (xs (x3 + (nI 2)).toNatClampNeg) h (fun (r2 : Int32) (h1 : AH) => vp_in (x3 + (nI 1)) L ∧ (vp_in (x3 + (nI 2)) L ∧ (P_X8_thing F (xs (x3 + (nI 1)).toNatClampNeg) (xs (x3 + (nI 2)).toNatClampNeg) h1 (fun (r4 : Int32) (h3 : AH) => if r2 = r4 then (L_law_c1234 F L xs (L_law_c18 F L xs K n) K x3 h3) else (K (nI 0) h3)))))))) else (if ((xs x3.toNatClampNeg) &&& (nI 63)) = (nI 1) then (vp_in (x3 + (nI 1)) L ∧ (vp_in (x3 + (nI 2)) L ∧ (P_X7_thingOf F (xs (x3 + (nI 1)).toNatClampNeg) (xs (x3 + (nI 2)).toNatClampNeg) h (fun (r6 : Int32) (h5 : AH) => vp_in (x3 + (nI 1)) L ∧ (vp_in (x3 + (nI 2)) L ∧ (P_X8_thingOf F (xs (x3 + (nI 1)).toNatClampNeg) (xs (x3 + (nI 2)).toNatClampNeg) h5 (fun (r8 : Int32) (h7 : AH) => if r6 = r8 then (L_law_c1234 F L xs (L_law_c18 F L xs K n) K x3 h7) else (K (nI 0) h7)))))))) else (if ((xs x3.toNatClampNeg) &&& (nI 63)) = (nI 2) then (vp_in (x3 + (nI 1)) L ∧ (vp_in (x3 + (nI 2)) L ∧ (vp_in (x3 + (nI 3)) L ∧ (P_X7_ask F (xs (x3 + (nI 1)).toNatClampNeg) (xs (x3 + (nI 2)).toNatClampNeg) (xs (x3 + (nI 3)).toNatClampNeg) h (fun (r10 : Int32) (h9 : AH) => vp_in (x3 + (nI 1)) L ∧ (vp_in (x3 + (nI 2)) L ∧ (vp_in (x3 + (nI 3)) L ∧ (P_X8_ask F (xs (x3 + (nI 1)).toNatClampNeg) (xs (x3 + (nI 2)).toNatClampNeg) (xs (x3 + (nI 3)).toNatClampNeg) h9 (fun (r12 : Int32) (h11 : AH) => if r10 = r12 then (L_law_c1234 F L xs (L_law_c18 F L xs K n) K x3 h11) else (K (nI 0) h11)))))))))) else (if ((xs x3.toNatClampNeg) &&& (nI 63)) = (nI 3) then (vp_in (x3 + (nI 1)) L ∧ (vp_in (x3 + (nI 2)) L ∧ (vp_in (x3 + (nI 3)) L ∧ (P_X7_give F (xs (x3 + (nI 1)).toNatClampNeg) (xs (x3 + (nI 2)).toNatClampNeg) (xs (x3 + (nI 3)).toNatClampNeg) h (fun (r14 : Int32) (h13 : AH) => vp_in (x3 + (nI 1)) L ∧ (vp_in (x3 + (nI 2)) L ∧ (vp_in (x3 + (nI 3)) L ∧ (P_X8_give F (xs (x3 + (nI 1)).toNatClampNeg) (xs (x3 + (nI 2)).toNatClampNeg) (xs (x3 + (nI 3)).toNatClampNeg) h13 (fun (r16 : Int32) (h15 : AH) => if r14 = r16 then (L_law_c1234 F L xs (L_law_c18 F L xs K n) K x3 h15) else (K (nI 0) h15)))))))))) else (if ((xs x3.toNatClampNeg) &&& (nI 63)) = (nI 4) then (vp_in (x3 + (nI 1)) L ∧ (P_X7_leaves F (xs (x3 + (nI 1)).toNatClampNeg) h (fun (r18 : Int32) (h17 : AH) => vp_in (x3 + (nI 1)) L ∧ (P_X8_leaves F (xs (x3 + (nI 1)).toNatClampNeg) h17 (fun (r20 : Int32) (h19 : AH) => if r18 = r20 then (L_law_c1234 F L xs (L_law_c18 F L xs K n) K x3 h19) else (K (nI 0) h19)))))) else (if ((xs x3.toNatClampNeg) &&& (nI 63)) = (nI 5) then (vp_in (x3 + (nI 1)) L ∧ (P_X7_forgets F (xs (x3 + (nI 1)).toNatClampNeg) h (fun (r22 : Int32) (h21 : AH) => vp_in (x3 + (nI 1)) L ∧ (P_X8_forgets F (xs (x3 + (nI 1)).toNatClampNeg) h21 (fun (r24 : Int32) (h23 : AH) => if r22 = r24 then (L_law_c1234 F L xs (L_law_c18 F L xs K n) K x3 h23) else (K (nI 0) h23)))))) else (if ((xs x3.toNatClampNeg) &&& (nI 63)) = (nI 6) then (P_X7_breaks F h (fun (r26 : Int32) (h25 : AH) => P_X8_breaks F h25 (fun (r28 : Int32) (h27 : AH) => if r26 = r28 then (L_law_c1234 F L xs (L_law_c18 F L xs K n) K x3 h27) else (K (nI 0) h27)))) else (if ((xs x3.toNatClampNeg) &&& (nI 63)) = (nI 7) then (vp_in (x3 + (nI 1)) L ∧ (vp_in (x3 + (nI 2)) L ∧ (vp_in (x3 + (nI 3)) L ∧ (P_X7_held F (xs (x3 + (nI 1)).toNatClampNeg) (xs (x3 + (nI 2)).toNatClampNeg) (xs (x3 + (nI 3)).toNatClampNeg) h (fun (r30 : Int32) (h29 : AH) => vp_in (x3 + (nI 1)) L ∧ (vp_in (x3 + (nI 2)) L ∧ (vp_in (x3 + (nI 3)) L ∧ (P_X8_held F (xs (x3 + (nI 1)).toNatClampNeg) (xs (x3 + (nI 2)).toNatClampNeg) (xs (x3 + (nI 3)).toNatClampNeg) h29 (fun (r32 : Int32) (h31 : AH) => if r30 = r32 then (L_law_c1234 F L xs (L_law_c18 F L xs K n) K x3 h31) else (K (nI 0) h31)))))))))) else (if ((xs x3.toNatClampNeg) &&& (nI 63)) = (nI 8) then (vp_in (x3 + (nI 1)) L ∧ (vp_in (x3 + (nI 2)) L ∧ (P_X7_holders F (xs (x3 + (nI 1)).toNatClampNeg) (xs (x3 + (nI 2)).toNatClampNeg) h (fun (r34 : Int32) (h33 : AH) => vp_in (x3 + (nI 1)) L ∧ (vp_in (x3 + (nI 2)) L ∧ (P_X8_holders F (xs (x3 + (nI 1)).toNatClampNeg) (xs (x3 + (nI 2)).toNatClampNeg) h33 (fun (r36 : Int32) (h35 : AH) => if r34 = r36 then (L_law_c1234 F L xs (L_law_c18 F L xs K n) K x3 h35) else (K (nI 0) h35)))))))) else (if ((xs x3.toNatClampNeg) &&& (nI 63)) = (nI 9) then (vp_in (x3 + (nI 1)) L ∧ (P_X7_waits F (xs (x3 + (nI 1)).toNatClampNeg) h (fun (r38 : Int32) (h37 : AH) => vp_in (x3 + (nI 1)) L ∧ (P_X8_waits F (xs (x3 + (nI 1)).toNatClampNeg) h37 (fun (r40 : Int32) (h39 : AH) => if r38 = r40 then (L_law_c1234 F L xs (L_law_c18 F L xs K n) K x3 h39) else (K (nI 0) h39)))))) else (if ((xs x3.toNatClampNeg) &&& (nI 63)) = (nI 10) then (vp_in (x3 + (nI 1)) L ∧ (P_X7_line F (xs (x3 + (nI 1)).toNatClampNeg) h (fun (r42 : Int32) (h41 : AH) => vp_in (x3 + (nI 1)) L ∧ (P_X8_line F (xs (x3 + (nI 1)).toNatClampNeg) h41 (fun (r44 : Int32) (h43 : AH) => if r42 = r44 then (L_law_c1234 F L xs (L_law_c18 F L xs K n) K x3 h43) else (K (nI 0) h43)))))) else (if ((xs x3.toNatClampNeg) &&& (nI 63)) = (nI 11) then (vp_in (x3 + (nI 1)) L ∧ (P_X7_waitsFor F (xs (x3 + (nI 1)).toNatClampNeg) h (fun (r46 : Int32) (h45 : AH) => vp_in (x3 + (nI 1)) L ∧ (P_X8_waitsFor F (xs (x3 + (nI 1)).toNatClampNeg) h45 (fun (r48 : Int32) (h47 : AH) => if r46 = r48 then (L_law_c1234 F L xs (L_law_c18 F L xs K n) K x3 h47) else (K (nI 0) h47)))))) else (if ((xs x3.toNatClampNeg) &&& (nI 63)) = (nI 12) then (vp_in (x3 + (nI 1)) L ∧ (P_X7_ring F (xs (x3 + (nI 1)).toNatClampNeg) h (fun (r50 : Int32) (h49 : AH) => vp_in (x3 + (nI 1)) L ∧ (P_X8_ring F (xs (x3 + (nI 1)).toNatClampNeg) h49 (fun (r52 : Int32) (h51 : AH) => if r50 = r52 then (L_law_c1234 F L xs (L_law_c18 F L xs K n) K x3 h51) else (K (nI 0) h51)))))) else (if ((xs x3.toNatClampNeg) &&& (nI 63)) = (nI 13) then (vp_in (x3 + (nI 1)) L ∧ (P_X7_count F (xs (x3 + (nI 1)).toNatClampNeg) h (fun (r54 : Int32) (h53 : AH) => vp_in (x3 + (nI 1)) L ∧ (P_X8_count F (xs (x3 + (nI 1)).toNatClampNeg) h53 (fun (r56 : Int32) (h55 : AH) => if r54 = r56 then (L_law_c1234 F L xs (L_law_c18 F L xs K n) K x3 h55) else (K (nI 0) h55)))))) else (if ((xs x3.toNatClampNeg) &&& (nI 63)) = (nI 14) then (vp_in (x3 + (nI 1)) L ∧ (vp_in (x3 + (nI 2)) L ∧ (vp_in (x3 + (nI 3)) L ∧ (P_X7_would F (xs (x3 + (nI 1)).toNatClampNeg) (xs (x3 + (nI 2)).toNatClampNeg) (xs (x3 + (nI 3)).toNatClampNeg) h (fun (r58 : Int32) (h57 : AH) => vp_in (x3 + (nI 1)) L ∧ (vp_in (x3 + (nI 2)) L ∧ (vp_in (x3 + (nI 3)) L ∧ (P_X8_would F (xs (x3 + (nI 1)).toNatClampNeg) (xs (x3 + (nI 2)).toNatClampNeg) (xs (x3 + (nI 3)).toNatClampNeg) h57 (fun (r60 : Int32) (h59 : AH) => if r58 = r60 then (L_law_c1234 F L xs (L_law_c18 F L xs K n) K x3 h59) else (K (nI 0) h59)))))))))) else (if ((xs x3.toNatClampNeg) &&& (nI 63)) = (nI 15) then (vp_in (x3 + (nI 1)) L ∧ (vp_in (x3 + (nI 2)) L ∧ (vp_in (x3 + (nI 3)) L ∧ (P_X7_needs F (xs (x3 + (nI 1)).toNatClampNeg) (xs (x3 + (nI 2)).toNatClampNeg) (xs (x3 + (nI 3)).toNatClampNeg) h (fun (r62 : Int32) (h61 : AH) => vp_in (x3 + (nI 1)) L ∧ (vp_in (x3 + (nI 2)) L ∧ (vp_in (x3 + (nI 3)) L ∧ (P_X8_needs F (xs (x3 + (nI 1)).toNatClampNeg) (xs (x3 + (nI 2)).toNatClampNeg) (xs (x3 + (nI 3)).toNatClampNeg) h61 (fun (r64 : Int32) (h63 : AH) => if r62 = r64 then (L_law_c1234 F L xs (L_law_c18 F L xs K n) K x3 h63) else (K (nI 0) h63)))))))))) else (if ((xs x3.toNatClampNeg) &&& (nI 63)) = (nI 16) then (vp_in (x3 + (nI 1)) L ∧ (vp_in (x3 + (nI 2)) L ∧ (P_X7_strongest F (xs (x3 + (nI 1)).toNatClampNeg) (xs (x3 + (nI 2)).toNatClampNeg) h (fun (r66 : Int32) (h65 : AH) => vp_in (x3 + (nI 1)) L ∧ (vp_in (x3 + (nI 2)) L ∧ (P_X8_strongest F (xs (x3 + (nI 1)).toNatClampNeg) (xs (x3 + (nI 2)).toNatClampNeg) h65 (fun (r68 : Int32) (h67 : AH) => if r66 = r68 then (L_law_c1234 F L xs (L_law_c18 F L xs K n) K x3 h67) else (K (nI 0) h67)))))))) else (if ((xs x3.toNatClampNeg) &&& (nI 63)) = (nI 17) then (vp_in (x3 + (nI 1)) L ∧ (vp_in (x3 + (nI 2)) L ∧ (vp_in (x3 + (nI 3)) L ∧ (P_X7_plan F (xs (x3 + (nI 1)).toNatClampNeg) (xs (x3 + (nI 2)).toNatClampNeg) (xs (x3 + (nI 3)).toNatClampNeg) h (fun (r70 : Int32) (h69 : AH) => vp_in (x3 + (nI 1)) L ∧ (vp_in (x3 + (nI 2)) L ∧ (vp_in (x3 + (nI 3)) L ∧ (P_X8_plan F (xs (x3 + (nI 1)).toNatClampNeg) (xs (x3 + (nI 2)).toNatClampNeg) (xs (x3 + (nI 3)).toNatClampNeg) h69 (fun (r72 : Int32) (h71 : AH) => if r70 = r72 then (L_law_c1234 F L xs (L_law_c18 F L xs K n) K x3 h71) else (K (nI 0) h71)))))))))) else (if ((xs x3.toNatClampNeg) &&& (nI 63)) = (nI 18) then (vp_in (x3 + (nI 1)) L ∧ (P_X7_plays F (xs (x3 + (nI 1)).toNatClampNeg) h (fun (r74 : Int32) (h73 : AH) => vp_in (x3 + (nI 1)) L ∧ (P_X8_plays F (xs (x3 + (nI 1)).toNatClampNeg) h73 (fun (r76 : Int32) (h75 : AH) => if r74 = r76 then (L_law_c1234 F L xs (L_law_c18 F L xs K n) K x3 h75) else (K (nI 0) h75)))))) else (if ((xs x3.toNatClampNeg) &&& (nI 63)) = (nI 19) then (vp_in (x3 + (nI 1)) L ∧ (vp_in (x3 + (nI 2)) L ∧ (vp_in (x3 + (nI 3)) L ∧ (P_X7_lots F (xs (x3 + (nI 1)).toNatClampNeg) (xs (x3 + (nI 2)).toNatClampNeg) (xs (x3 + (nI 3)).toNatClampNeg) h (fun (r78 : Int32) (h77 : AH) => vp_in (x3 + (nI 1)) L ∧ (vp_in (x3 + (nI 2)) L ∧ (vp_in (x3 + (nI 3)) L ∧ (P_X8_lots F (xs (x3 + (nI 1)).toNatClampNeg) (xs (x3 + (nI 2)).toNatClampNeg) (xs (x3 + (nI 3)).toNatClampNeg) h77 (fun (r80 : Int32) (h79 : AH) => if r78 = r80 then (L_law_c1234 F L xs (L_law_c18 F L xs K n) K x3 h79) else (K (nI 0) h79)))))))))) else (if ((xs x3.toNatClampNeg) &&& (nI 63)) = (nI 20) then (vp_in (x3 + (nI 1)) L ∧ (P_X7_weighs F (xs (x3 + (nI 1)).toNatClampNeg) h (fun (r82 : Int32) (h81 : AH) => vp_in (x3 + (nI 1)) L ∧ (P_X8_weighs F (xs (x3 + (nI 1)).toNatClampNeg) h81 (fun (r84 : Int32) (h83 : AH) => if r82 = r84 then (L_law_c1234 F L xs (L_law_c18 F L xs K n) K x3 h83) else (K (nI 0) h83)))))) else (if ((xs x3.toNatClampNeg) &&& (nI 63)) = (nI 21) then (vp_in (x3 + (nI 1)) L ∧ (vp_in (x3 + (nI 2)) L ∧ (vp_in (x3 + (nI 3)) L ∧ (P_X7_plunges F (xs (x3 + (nI 1)).toNatClampNeg) (xs (x3 + (nI 2)).toNatClampNeg) (xs (x3 + (nI 3)).toNatClampNeg) h (fun (r86 : Int32) (h85 : AH) => vp_in (x3 + (nI 1)) L ∧ (vp_in (x3 + (nI 2)) L ∧ (vp_in (x3 + (nI 3)) L ∧ (P_X8_plunges F (xs (x3 + (nI 1)).toNatClampNeg) (xs (x3 + (nI 2)).toNatClampNeg) (xs (x3 + (nI 3)).toNatClampNeg) h85 (fun (r88 : Int32) (h87 : AH) => if r86 = r88 then (L_law_c1234 F L xs (L_law_c18 F L xs K n) K x3 h87) else (K (nI 0) h87)))))))))) else (if ((xs x3.toNatClampNeg) &&& (nI 63)) = (nI 22) then (vp_in (x3 + (nI 1)) L ∧ (vp_in (x3 + (nI 2)) L ∧ (P_X7_bell F (xs (x3 + (nI 1)).toNatClampNeg) (xs (x3 + (nI 2)).toNatClampNeg) h (fun (r90 : Int32) (h89 : AH) => vp_in (x3 + (nI 1)) L ∧ (vp_in (x3 + (nI 2)) L ∧ (P_X8_bell F (xs (x3 + (nI 1)).toNatClampNeg) (xs (x3 + (nI 2)).toNatClampNeg) h89 (fun (r92 : Int32) (h91 : AH) => if r90 = r92 then (L_law_c1234 F L xs (L_law_c18 F L xs K n) K x3 h91) else (K (nI 0) h91)))))))) else (if ((xs x3.toNatClampNeg) &&& (nI 63)) = (nI 23) then (vp_in (x3 + (nI 1)) L ∧ (vp_in (x3 + (nI 2)) L ∧ (P_X7_gate F (xs (x3 + (nI 1)).toNatClampNeg) (xs (x3 + (nI 2)).toNatClampNeg) h (fun (r94 : Int32) (h93 : AH) => vp_in (x3 + (nI 1)) L ∧ (vp_in (x3 + (nI 2)) L ∧ (P_X8_gate F (xs (x3 + (nI 1)).toNatClampNeg) (xs (x3 + (nI 2)).toNatClampNeg) h93 (fun (r96 : Int32) (h95 : AH) => if r94 = r96 then (L_law_c1234 F L xs (L_law_c18 F L xs K n) K x3 h95) else (K (nI 0) h95)))))))) else (if ((xs x3.toNatClampNeg) &&& (nI 63)) = (nI 24) then (vp_in (x3 + (nI 1)) L ∧ (P_X7_feed F (xs (x3 + (nI 1)).toNatClampNeg) h (fun (r98 : Int32) (h97 : AH) => vp_in (x3 + (nI 1)) L ∧ (P_X8_feed F (xs (x3 + (nI 1)).toNatClampNeg) h97 (fun (r100 : Int32) (h99 : AH) => if r98 = r100 then (L_law_c1234 F L xs (L_law_c18 F L xs K n) K x3 h99) else (K (nI 0) h99)))))) else (if ((xs x3.toNatClampNeg) &&& (nI 63)) = (nI 25) then (P_X7_reads F h (fun (r102 : Int32) (h101 : AH) => P_X8_reads F h101 (fun (r104 : Int32) (h103 : AH) => if r102 = r104 then (L_law_c1234 F L xs (L_law_c18 F L xs K n) K x3 h103) else (K (nI 0) h103)))) else (if ((xs x3.toNatClampNeg) &&& (nI 63)) = (nI 26) then (P_X7_spells F h (fun (r106 : Int32) (h105 : AH) => P_X8_spells F h105 (fun (r108 : Int32) (h107 : AH) => if r106 = r108 then (L_law_c1234 F L xs (L_law_c18 F L xs K n) K x3 h107) else (K (nI 0) h107)))) else (if ((xs x3.toNatClampNeg) &&& (nI 63)) = (nI 27) then (vp_in (x3 + (nI 1)) L ∧ (P_X7_paper F (xs (x3 + (nI 1)).toNatClampNeg) h (fun (r110 : Int32) (h109 : AH) => vp_in (x3 + (nI 1)) L ∧ (P_X8_paper F (xs (x3 + (nI 1)).toNatClampNeg) h109 (fun (r112 : Int32) (h111 : AH) => if r110 = r112 then (L_law_c1234 F L xs (L_law_c18 F L xs K n) K x3 h111) else (K (nI 0) h111)))))) else (if ((xs x3.toNatClampNeg) &&& (nI 63)) = (nI 28) then (vp_in (x3 + (nI 1)) L ∧ (vp_in (x3 + (nI 2)) L ∧ (P_X7_list F (xs (x3 + (nI 1)).toNatClampNeg) (xs (x3 + (nI 2)).toNatClampNeg) h (fun (r114 : Int32) (h113 : AH) => vp_in (x3 + (nI 1)) L ∧ (vp_in (x3 + (nI 2)) L ∧ (P_X8_list F (xs (x3 + (nI 1)).toNatClampNeg) (xs (x3 + (nI 2)).toNatClampNeg) h113 (fun (r116 : Int32) (h115 : AH) => if r114 = r116 then (L_law_c1234 F L xs (L_law_c18 F L xs K n) K x3 h115) else (K (nI 0) h115)))))))) else (if ((xs x3.toNatClampNeg) &&& (nI 63)) = (nI 29) then (vp_in (x3 + (nI 1)) L ∧ (vp_in (x3 + (nI 2)) L ∧ (vp_in (x3 + (nI 3)) L ∧ (P_X7_set F (xs (x3 + (nI 1)).toNatClampNeg) (xs (x3 + (nI 2)).toNatClampNeg) (xs (x3 + (nI 3)).toNatClampNeg) h (fun (r118 : Int32) (h117 : AH) => vp_in (x3 + (nI 1)) L ∧ (vp_in (x3 + (nI 2)) L ∧ (vp_in (x3 + (nI 3)) L ∧ (P_X8_set F (xs (x3 + (nI 1)).toNatClampNeg) (xs (x3 + (nI 2)).toNatClampNeg) (xs (x3 + (nI 3)).toNatClampNeg) h117 (fun (r120 : Int32) (h119 : AH) => if r118 = r120 then (L_law_c1234 F L xs (L_law_c18 F L xs K n) K x3 h119) else (K (nI 0) h119)))))))))) else (if ((xs x3.toNatClampNeg) &&& (nI 63)) = (nI 30) then (vp_in (x3 + (nI 1)) L ∧ (vp_in (x3 + (nI 2)) L ∧ (P_X7_get F (xs (x3 + (nI 1)).toNatClampNeg) (xs (x3 + (nI 2)).toNatClampNeg) h (fun (r122 : Int64) (h121 : AH) => vp_in (x3 + (nI 1)) L ∧ (vp_in (x3 + (nI 2)) L ∧ (P_X8_get F (xs (x3 + (nI 1)).toNatClampNeg) (xs (x3 + (nI 2)).toNatClampNeg) h121 (fun (r124 : Int64) (h123 : AH) => if (lg_cmp r122 r124) = (nI 0) then (L_law_c1234 F L xs (L_law_c18 F L xs K n) K x3 h123) else (K (nI 0) h123)))))))) else (if ((xs x3.toNatClampNeg) &&& (nI 63)) = (nI 31) then (vp_in (x3 + (nI 1)) L ∧ (vp_in (x3 + (nI 2)) L ∧ (P_X7_does F (xs (x3 + (nI 1)).toNatClampNeg) (xs (x3 + (nI 2)).toNatClampNeg) h (fun (r126 : Int32) (h125 : AH) => vp_in (x3 + (nI 1)) L ∧ (vp_in (x3 + (nI 2)) L ∧ (P_X8_does_ F (xs (x3 + (nI 1)).toNatClampNeg) (xs (x3 + (nI 2)).toNatClampNeg) h125 (fun (r128 : Int32) (h127 : AH) => if r126 = r128 then (L_law_c1234 F L xs (L_law_c18 F L xs K n) K x3 h127) else (K (nI 0) h127)))))))) else (if ((xs x3.toNatClampNeg) &&& (nI 63)) = (nI 32) then (vp_in (x3 + (nI 1)) L ∧ (vp_in (x3 + (nI 2)) L ∧ (vp_in (x3 + (nI 3)) L ∧ (P_X7_into F (xs (x3 + (nI 1)).toNatClampNeg) (xs (x3 + (nI 2)).toNatClampNeg) (xs (x3 + (nI 3)).toNatClampNeg) h (fun (r130 : Int32) (h129 : AH) => vp_in (x3 + (nI 1)) L ∧ (vp_in (x3 + (nI 2)) L ∧ (vp_in (x3 + (nI 3)) L ∧ (P_X8_into F (xs (x3 + (nI 1)).toNatClampNeg) (xs (x3 + (nI 2)).toNatClampNeg) (xs (x3 + (nI 3)).toNatClampNeg) h129 (fun (r132 : Int32) (h131 : AH) => if r130 = r132 then (L_law_c1234 F L xs (L_law_c18 F L xs K n) K x3 h131) else (K (nI 0) h131)))))))))) else (if ((xs x3.toNatClampNeg) &&& (nI 63)) = (nI 33) then (P_X7_image F h (fun (r134 : Int32) (h133 : AH) => P_X8_image F h133 (fun (r136 : Int32) (h135 : AH) => if r134 = r136 then (L_law_c1234 F L xs (L_law_c18 F L xs K n) K x3 h135) else (K (nI 0) h135)))) else (if ((xs x3.toNatClampNeg) &&& (nI 63)) = (nI 34) then (P_X7_back F h (fun (r138 : Int32) (h137 : AH) => P_X8_back F h137 (fun (r140 : Int32) (h139 : AH) => if r138 = r140 then (L_law_c1234 F L xs (L_law_c18 F L xs K n) K x3 h139) else (K (nI 0) h139)))) else (L_law_c1234 F L xs (L_law_c18 F L xs K n) K x3 h)))))))))))))))))))))))))))))))))))))) := rfl
set_option maxHeartbeats 4000000 in
theorem bw_L_law_c18 {l : Launch} {F : Nat} {L : Nat} {xs : Nat → Int32} {K : Int32 → AH → Prop}  : ∀ (n : Nat) (x3 : Int32) (h : AH), L_law_c18 F L xs K n x3 h → BW RL cL_law 4 (some .boolean) l room_1 (tbS L xs) 4 [.ref (NC + 3), .ref 0, .ref 56, .int x3] [] 18 h (Qi K) := by
  intro n
  induction n with
  | zero =>
    intro x3 h hM
    exact hM.elim
  | succ n hr18 =>
    intro x3 h hM
    rw [L_law_c18_s] at hM
    refine B_iload_n dL_law_18 rfl ?_
    refine B_aload_n dL_law_19 rfl ?_
    refine B_tlen (t := 3) (by decide) rfl dL_law_20 ?_
    refine B_iconst dL_law_21 k_ic_4 ?_
    refine B_isub dL_law_22 ?_
    refine B_icmp_gt dL_law_23 hM (tgt := 1240) rfl (fun hM => ?_) (fun hM => ?_)
    · refine B_iconst dL_law_1240 k_ic_1 ?_
      exact B_iret ⟨_, rfl, hM⟩ zB_1 dL_law_1241
    · refine B_aload_n dL_law_26 rfl ?_
      refine B_iload_n dL_law_27 rfl ?_
      refine B_tald (t := 3) (by decide) hM dL_law_28 (fun hM => ?_)
      refine B_bipush dL_law_29 k_bi_63 ?_
      refine B_iand dL_law_31 ?_
      refine ite_p hM (fun hc0 hM => ?_) (fun hc0 hM => ?_)
      · refine B_tin hc0 (by decide) (by decide) rfl dL_law_32 (tgt := 188) rfl ?_
        refine B_aload_n dL_law_188 rfl ?_
        refine B_aload_n dL_law_189 rfl ?_
        refine B_iload_n dL_law_190 rfl ?_
        refine B_iconst dL_law_191 k_ic_1 ?_
        refine B_iadd dL_law_192 ?_
        refine B_tald (t := 3) (by decide) hM dL_law_193 (fun hM => ?_)
        refine B_aload_n dL_law_194 rfl ?_
        refine B_iload_n dL_law_195 rfl ?_
        refine B_iconst dL_law_196 k_ic_2 ?_
        refine B_iadd dL_law_197 ?_
        refine B_tald (t := 3) (by decide) hM dL_law_198 (fun hM => ?_)
        refine B_cV2i (c_X7_thing (d := 60) (Nat.le_of_ble_eq_true rfl)  hM) csV_L_13 (sc_0) vc_7 rfl hpS (Nat.le_of_ble_eq_true rfl) (Nat.le_of_ble_eq_true rfl) (Nat.le_of_ble_eq_true rfl) dL_law_199 (fun r2 h1 hM => ?_)
        refine B_aload_n dL_law_202 rfl ?_
        refine B_aload_n dL_law_203 rfl ?_
        refine B_iload_n dL_law_204 rfl ?_
        refine B_iconst dL_law_205 k_ic_1 ?_
        refine B_iadd dL_law_206 ?_
        refine B_tald (t := 3) (by decide) hM dL_law_207 (fun hM => ?_)
        refine B_aload_n dL_law_208 rfl ?_
        refine B_iload_n dL_law_209 rfl ?_
        refine B_iconst dL_law_210 k_ic_2 ?_
        refine B_iadd dL_law_211 ?_
        refine B_tald (t := 3) (by decide) hM dL_law_212 (fun hM => ?_)
        refine B_cV2i (c_X8_thing (d := 60) (Nat.le_of_ble_eq_true rfl)  hM) csV_L_17 (sc_56) vc_8 rfl hpS (Nat.le_of_ble_eq_true rfl) (Nat.le_of_ble_eq_true rfl) (Nat.le_of_ble_eq_true rfl) dL_law_213 (fun r4 h3 hM => ?_)
        refine B_icmp_eq dL_law_216 hM (tgt := 1234) rfl (fun hM => ?_) (fun hM => ?_)
        · exact B_wk (bw_L_law_c1234  hr18 hM) (wk_1 (wk_1 (wk_1 (wk_1 wk_n))))
        · refine B_iconst dL_law_219 k_ic_0 ?_
          exact B_iret ⟨_, rfl, hM⟩ zB_0 dL_law_220
      refine ite_p hM (fun hc1 hM => ?_) (fun hc1 hM => ?_)
      · refine B_tin hc1 (by decide) (by decide) rfl dL_law_32 (tgt := 221) rfl ?_
        refine B_aload_n dL_law_221 rfl ?_
        refine B_aload_n dL_law_222 rfl ?_
        refine B_iload_n dL_law_223 rfl ?_
        refine B_iconst dL_law_224 k_ic_1 ?_
        refine B_iadd dL_law_225 ?_
        refine B_tald (t := 3) (by decide) hM dL_law_226 (fun hM => ?_)
        refine B_aload_n dL_law_227 rfl ?_
        refine B_iload_n dL_law_228 rfl ?_
        refine B_iconst dL_law_229 k_ic_2 ?_
        refine B_iadd dL_law_230 ?_
        refine B_tald (t := 3) (by decide) hM dL_law_231 (fun hM => ?_)
        refine B_cV2i (c_X7_thingOf (d := 60) (Nat.le_of_ble_eq_true rfl)  hM) csV_L_18 (sc_0) vc_7 rfl hpS (Nat.le_of_ble_eq_true rfl) (Nat.le_of_ble_eq_true rfl) (Nat.le_of_ble_eq_true rfl) dL_law_232 (fun r6 h5 hM => ?_)
        refine B_aload_n dL_law_235 rfl ?_
        refine B_aload_n dL_law_236 rfl ?_
        refine B_iload_n dL_law_237 rfl ?_
        refine B_iconst dL_law_238 k_ic_1 ?_
        refine B_iadd dL_law_239 ?_
        refine B_tald (t := 3) (by decide) hM dL_law_240 (fun hM => ?_)
        refine B_aload_n dL_law_241 rfl ?_
        refine B_iload_n dL_law_242 rfl ?_
        refine B_iconst dL_law_243 k_ic_2 ?_
        refine B_iadd dL_law_244 ?_
        refine B_tald (t := 3) (by decide) hM dL_law_245 (fun hM => ?_)
        refine B_cV2i (c_X8_thingOf (d := 60) (Nat.le_of_ble_eq_true rfl)  hM) csV_L_21 (sc_56) vc_8 rfl hpS (Nat.le_of_ble_eq_true rfl) (Nat.le_of_ble_eq_true rfl) (Nat.le_of_ble_eq_true rfl) dL_law_246 (fun r8 h7 hM => ?_)
        refine B_icmp_eq dL_law_249 hM (tgt := 1234) rfl (fun hM => ?_) (fun hM => ?_)
        · exact B_wk (bw_L_law_c1234  hr18 hM) (wk_1 (wk_1 (wk_1 (wk_1 wk_n))))
        · refine B_iconst dL_law_252 k_ic_0 ?_
          exact B_iret ⟨_, rfl, hM⟩ zB_0 dL_law_253
      refine ite_p hM (fun hc2 hM => ?_) (fun hc2 hM => ?_)
      · refine B_tin hc2 (by decide) (by decide) rfl dL_law_32 (tgt := 254) rfl ?_
        refine B_aload_n dL_law_254 rfl ?_
        refine B_aload_n dL_law_255 rfl ?_
        refine B_iload_n dL_law_256 rfl ?_
        refine B_iconst dL_law_257 k_ic_1 ?_
        refine B_iadd dL_law_258 ?_
        refine B_tald (t := 3) (by decide) hM dL_law_259 (fun hM => ?_)
        refine B_aload_n dL_law_260 rfl ?_
        refine B_iload_n dL_law_261 rfl ?_
        refine B_iconst dL_law_262 k_ic_2 ?_
        refine B_iadd dL_law_263 ?_
        refine B_tald (t := 3) (by decide) hM dL_law_264 (fun hM => ?_)
        refine B_aload_n dL_law_265 rfl ?_
        refine B_iload_n dL_law_266 rfl ?_
        refine B_iconst dL_law_267 k_ic_3 ?_
        refine B_iadd dL_law_268 ?_
        refine B_tald (t := 3) (by decide) hM dL_law_269 (fun hM => ?_)
        refine B_cV3i (c_X7_ask (d := 60) (Nat.le_of_ble_eq_true rfl)  hM) csV_L_22 (sc_0) vc_7 rfl hpS (Nat.le_of_ble_eq_true rfl) (Nat.le_of_ble_eq_true rfl) (Nat.le_of_ble_eq_true rfl) dL_law_270 (fun r10 h9 hM => ?_)
        refine B_aload_n dL_law_273 rfl ?_
        refine B_aload_n dL_law_274 rfl ?_
        refine B_iload_n dL_law_275 rfl ?_
        refine B_iconst dL_law_276 k_ic_1 ?_
        refine B_iadd dL_law_277 ?_
        refine B_tald (t := 3) (by decide) hM dL_law_278 (fun hM => ?_)
        refine B_aload_n dL_law_279 rfl ?_
        refine B_iload_n dL_law_280 rfl ?_
        refine B_iconst dL_law_281 k_ic_2 ?_
        refine B_iadd dL_law_282 ?_
        refine B_tald (t := 3) (by decide) hM dL_law_283 (fun hM => ?_)
        refine B_aload_n dL_law_284 rfl ?_
        refine B_iload_n dL_law_285 rfl ?_
        refine B_iconst dL_law_286 k_ic_3 ?_
        refine B_iadd dL_law_287 ?_
        refine B_tald (t := 3) (by decide) hM dL_law_288 (fun hM => ?_)
        refine B_cV3i (c_X8_ask (d := 60) (Nat.le_of_ble_eq_true rfl)  hM) csV_L_26 (sc_56) vc_8 rfl hpS (Nat.le_of_ble_eq_true rfl) (Nat.le_of_ble_eq_true rfl) (Nat.le_of_ble_eq_true rfl) dL_law_289 (fun r12 h11 hM => ?_)
        refine B_icmp_eq dL_law_292 hM (tgt := 1234) rfl (fun hM => ?_) (fun hM => ?_)
        · exact B_wk (bw_L_law_c1234  hr18 hM) (wk_1 (wk_1 (wk_1 (wk_1 wk_n))))
        · refine B_iconst dL_law_295 k_ic_0 ?_
          exact B_iret ⟨_, rfl, hM⟩ zB_0 dL_law_296
      refine ite_p hM (fun hc3 hM => ?_) (fun hc3 hM => ?_)
      · refine B_tin hc3 (by decide) (by decide) rfl dL_law_32 (tgt := 297) rfl ?_
        refine B_aload_n dL_law_297 rfl ?_
        refine B_aload_n dL_law_298 rfl ?_
        refine B_iload_n dL_law_299 rfl ?_
        refine B_iconst dL_law_300 k_ic_1 ?_
        refine B_iadd dL_law_301 ?_
        refine B_tald (t := 3) (by decide) hM dL_law_302 (fun hM => ?_)
        refine B_aload_n dL_law_303 rfl ?_
        refine B_iload_n dL_law_304 rfl ?_
        refine B_iconst dL_law_305 k_ic_2 ?_
        refine B_iadd dL_law_306 ?_
        refine B_tald (t := 3) (by decide) hM dL_law_307 (fun hM => ?_)
        refine B_aload_n dL_law_308 rfl ?_
        refine B_iload_n dL_law_309 rfl ?_
        refine B_iconst dL_law_310 k_ic_3 ?_
        refine B_iadd dL_law_311 ?_
        refine B_tald (t := 3) (by decide) hM dL_law_312 (fun hM => ?_)
        refine B_cV3i (c_X7_give (d := 60) (Nat.le_of_ble_eq_true rfl)  hM) csV_L_27 (sc_0) vc_7 rfl hpS (Nat.le_of_ble_eq_true rfl) (Nat.le_of_ble_eq_true rfl) (Nat.le_of_ble_eq_true rfl) dL_law_313 (fun r14 h13 hM => ?_)
        refine B_aload_n dL_law_316 rfl ?_
        refine B_aload_n dL_law_317 rfl ?_
        refine B_iload_n dL_law_318 rfl ?_
        refine B_iconst dL_law_319 k_ic_1 ?_
        refine B_iadd dL_law_320 ?_
        refine B_tald (t := 3) (by decide) hM dL_law_321 (fun hM => ?_)
        refine B_aload_n dL_law_322 rfl ?_
        refine B_iload_n dL_law_323 rfl ?_
        refine B_iconst dL_law_324 k_ic_2 ?_
        refine B_iadd dL_law_325 ?_
        refine B_tald (t := 3) (by decide) hM dL_law_326 (fun hM => ?_)
        refine B_aload_n dL_law_327 rfl ?_
        refine B_iload_n dL_law_328 rfl ?_
        refine B_iconst dL_law_329 k_ic_3 ?_
        refine B_iadd dL_law_330 ?_
        refine B_tald (t := 3) (by decide) hM dL_law_331 (fun hM => ?_)
        refine B_cV3i (c_X8_give (d := 60) (Nat.le_of_ble_eq_true rfl)  hM) csV_L_30 (sc_56) vc_8 rfl hpS (Nat.le_of_ble_eq_true rfl) (Nat.le_of_ble_eq_true rfl) (Nat.le_of_ble_eq_true rfl) dL_law_332 (fun r16 h15 hM => ?_)
        refine B_icmp_eq dL_law_335 hM (tgt := 1234) rfl (fun hM => ?_) (fun hM => ?_)
        · exact B_wk (bw_L_law_c1234  hr18 hM) (wk_1 (wk_1 (wk_1 (wk_1 wk_n))))
        · refine B_iconst dL_law_338 k_ic_0 ?_
          exact B_iret ⟨_, rfl, hM⟩ zB_0 dL_law_339
      refine ite_p hM (fun hc4 hM => ?_) (fun hc4 hM => ?_)
      · refine B_tin hc4 (by decide) (by decide) rfl dL_law_32 (tgt := 340) rfl ?_
        refine B_aload_n dL_law_340 rfl ?_
        refine B_aload_n dL_law_341 rfl ?_
        refine B_iload_n dL_law_342 rfl ?_
        refine B_iconst dL_law_343 k_ic_1 ?_
        refine B_iadd dL_law_344 ?_
        refine B_tald (t := 3) (by decide) hM dL_law_345 (fun hM => ?_)
        refine B_cV1i (c_X7_leaves (d := 60) (Nat.le_of_ble_eq_true rfl)  hM) csV_L_31 (sc_0) vc_7 rfl hpS (Nat.le_of_ble_eq_true rfl) (Nat.le_of_ble_eq_true rfl) (Nat.le_of_ble_eq_true rfl) dL_law_346 (fun r18 h17 hM => ?_)
        refine B_aload_n dL_law_349 rfl ?_
        refine B_aload_n dL_law_350 rfl ?_
        refine B_iload_n dL_law_351 rfl ?_
        refine B_iconst dL_law_352 k_ic_1 ?_
        refine B_iadd dL_law_353 ?_
        refine B_tald (t := 3) (by decide) hM dL_law_354 (fun hM => ?_)
        refine B_cV1i (c_X8_leaves (d := 60) (Nat.le_of_ble_eq_true rfl)  hM) csV_L_35 (sc_56) vc_8 rfl hpS (Nat.le_of_ble_eq_true rfl) (Nat.le_of_ble_eq_true rfl) (Nat.le_of_ble_eq_true rfl) dL_law_355 (fun r20 h19 hM => ?_)
        refine B_icmp_eq dL_law_358 hM (tgt := 1234) rfl (fun hM => ?_) (fun hM => ?_)
        · exact B_wk (bw_L_law_c1234  hr18 hM) (wk_1 (wk_1 (wk_1 (wk_1 wk_n))))
        · refine B_iconst dL_law_361 k_ic_0 ?_
          exact B_iret ⟨_, rfl, hM⟩ zB_0 dL_law_362
      refine ite_p hM (fun hc5 hM => ?_) (fun hc5 hM => ?_)
      · refine B_tin hc5 (by decide) (by decide) rfl dL_law_32 (tgt := 363) rfl ?_
        refine B_aload_n dL_law_363 rfl ?_
        refine B_aload_n dL_law_364 rfl ?_
        refine B_iload_n dL_law_365 rfl ?_
        refine B_iconst dL_law_366 k_ic_1 ?_
        refine B_iadd dL_law_367 ?_
        refine B_tald (t := 3) (by decide) hM dL_law_368 (fun hM => ?_)
        refine B_cV1i (c_X7_forgets (d := 60) (Nat.le_of_ble_eq_true rfl)  hM) csV_L_36 (sc_0) vc_7 rfl hpS (Nat.le_of_ble_eq_true rfl) (Nat.le_of_ble_eq_true rfl) (Nat.le_of_ble_eq_true rfl) dL_law_369 (fun r22 h21 hM => ?_)
        refine B_aload_n dL_law_372 rfl ?_
        refine B_aload_n dL_law_373 rfl ?_
        refine B_iload_n dL_law_374 rfl ?_
        refine B_iconst dL_law_375 k_ic_1 ?_
        refine B_iadd dL_law_376 ?_
        refine B_tald (t := 3) (by decide) hM dL_law_377 (fun hM => ?_)
        refine B_cV1i (c_X8_forgets (d := 60) (Nat.le_of_ble_eq_true rfl)  hM) csV_L_39 (sc_56) vc_8 rfl hpS (Nat.le_of_ble_eq_true rfl) (Nat.le_of_ble_eq_true rfl) (Nat.le_of_ble_eq_true rfl) dL_law_378 (fun r24 h23 hM => ?_)
        refine B_icmp_eq dL_law_381 hM (tgt := 1234) rfl (fun hM => ?_) (fun hM => ?_)
        · exact B_wk (bw_L_law_c1234  hr18 hM) (wk_1 (wk_1 (wk_1 (wk_1 wk_n))))
        · refine B_iconst dL_law_384 k_ic_0 ?_
          exact B_iret ⟨_, rfl, hM⟩ zB_0 dL_law_385
      refine ite_p hM (fun hc6 hM => ?_) (fun hc6 hM => ?_)
      · refine B_tin hc6 (by decide) (by decide) rfl dL_law_32 (tgt := 386) rfl ?_
        refine B_aload_n dL_law_386 rfl ?_
        refine B_cV0i (c_X7_breaks (d := 60) (Nat.le_of_ble_eq_true rfl)  hM) csV_L_40 (sc_0) vc_7 rfl hpS (Nat.le_of_ble_eq_true rfl) (Nat.le_of_ble_eq_true rfl) (Nat.le_of_ble_eq_true rfl) dL_law_387 (fun r26 h25 hM => ?_)
        refine B_aload_n dL_law_390 rfl ?_
        refine B_cV0i (c_X8_breaks (d := 60) (Nat.le_of_ble_eq_true rfl)  hM) csV_L_44 (sc_56) vc_8 rfl hpS (Nat.le_of_ble_eq_true rfl) (Nat.le_of_ble_eq_true rfl) (Nat.le_of_ble_eq_true rfl) dL_law_391 (fun r28 h27 hM => ?_)
        refine B_icmp_eq dL_law_394 hM (tgt := 1234) rfl (fun hM => ?_) (fun hM => ?_)
        · exact B_wk (bw_L_law_c1234  hr18 hM) (wk_1 (wk_1 (wk_1 (wk_1 wk_n))))
        · refine B_iconst dL_law_397 k_ic_0 ?_
          exact B_iret ⟨_, rfl, hM⟩ zB_0 dL_law_398
      refine ite_p hM (fun hc7 hM => ?_) (fun hc7 hM => ?_)
      · refine B_tin hc7 (by decide) (by decide) rfl dL_law_32 (tgt := 399) rfl ?_
        refine B_aload_n dL_law_399 rfl ?_
        refine B_aload_n dL_law_400 rfl ?_
        refine B_iload_n dL_law_401 rfl ?_
        refine B_iconst dL_law_402 k_ic_1 ?_
        refine B_iadd dL_law_403 ?_
        refine B_tald (t := 3) (by decide) hM dL_law_404 (fun hM => ?_)
        refine B_aload_n dL_law_405 rfl ?_
        refine B_iload_n dL_law_406 rfl ?_
        refine B_iconst dL_law_407 k_ic_2 ?_
        refine B_iadd dL_law_408 ?_
        refine B_tald (t := 3) (by decide) hM dL_law_409 (fun hM => ?_)
        refine B_aload_n dL_law_410 rfl ?_
        refine B_iload_n dL_law_411 rfl ?_
        refine B_iconst dL_law_412 k_ic_3 ?_
        refine B_iadd dL_law_413 ?_
        refine B_tald (t := 3) (by decide) hM dL_law_414 (fun hM => ?_)
        refine B_cV3i (c_X7_held (d := 60) (Nat.le_of_ble_eq_true rfl)  hM) csV_L_45 (sc_0) vc_7 rfl hpS (Nat.le_of_ble_eq_true rfl) (Nat.le_of_ble_eq_true rfl) (Nat.le_of_ble_eq_true rfl) dL_law_415 (fun r30 h29 hM => ?_)
        refine B_aload_n dL_law_418 rfl ?_
        refine B_aload_n dL_law_419 rfl ?_
        refine B_iload_n dL_law_420 rfl ?_
        refine B_iconst dL_law_421 k_ic_1 ?_
        refine B_iadd dL_law_422 ?_
        refine B_tald (t := 3) (by decide) hM dL_law_423 (fun hM => ?_)
        refine B_aload_n dL_law_424 rfl ?_
        refine B_iload_n dL_law_425 rfl ?_
        refine B_iconst dL_law_426 k_ic_2 ?_
        refine B_iadd dL_law_427 ?_
        refine B_tald (t := 3) (by decide) hM dL_law_428 (fun hM => ?_)
        refine B_aload_n dL_law_429 rfl ?_
        refine B_iload_n dL_law_430 rfl ?_
        refine B_iconst dL_law_431 k_ic_3 ?_
        refine B_iadd dL_law_432 ?_
        refine B_tald (t := 3) (by decide) hM dL_law_433 (fun hM => ?_)
        refine B_cV3i (c_X8_held (d := 60) (Nat.le_of_ble_eq_true rfl)  hM) csV_L_48 (sc_56) vc_8 rfl hpS (Nat.le_of_ble_eq_true rfl) (Nat.le_of_ble_eq_true rfl) (Nat.le_of_ble_eq_true rfl) dL_law_434 (fun r32 h31 hM => ?_)
        refine B_icmp_eq dL_law_437 hM (tgt := 1234) rfl (fun hM => ?_) (fun hM => ?_)
        · exact B_wk (bw_L_law_c1234  hr18 hM) (wk_1 (wk_1 (wk_1 (wk_1 wk_n))))
        · refine B_iconst dL_law_440 k_ic_0 ?_
          exact B_iret ⟨_, rfl, hM⟩ zB_0 dL_law_441
      refine ite_p hM (fun hc8 hM => ?_) (fun hc8 hM => ?_)
      · refine B_tin hc8 (by decide) (by decide) rfl dL_law_32 (tgt := 442) rfl ?_
        refine B_aload_n dL_law_442 rfl ?_
        refine B_aload_n dL_law_443 rfl ?_
        refine B_iload_n dL_law_444 rfl ?_
        refine B_iconst dL_law_445 k_ic_1 ?_
        refine B_iadd dL_law_446 ?_
        refine B_tald (t := 3) (by decide) hM dL_law_447 (fun hM => ?_)
        refine B_aload_n dL_law_448 rfl ?_
        refine B_iload_n dL_law_449 rfl ?_
        refine B_iconst dL_law_450 k_ic_2 ?_
        refine B_iadd dL_law_451 ?_
        refine B_tald (t := 3) (by decide) hM dL_law_452 (fun hM => ?_)
        refine B_cV2i (c_X7_holders (d := 60) (Nat.le_of_ble_eq_true rfl)  hM) csV_L_49 (sc_0) vc_7 rfl hpS (Nat.le_of_ble_eq_true rfl) (Nat.le_of_ble_eq_true rfl) (Nat.le_of_ble_eq_true rfl) dL_law_453 (fun r34 h33 hM => ?_)
        refine B_aload_n dL_law_456 rfl ?_
        refine B_aload_n dL_law_457 rfl ?_
        refine B_iload_n dL_law_458 rfl ?_
        refine B_iconst dL_law_459 k_ic_1 ?_
        refine B_iadd dL_law_460 ?_
        refine B_tald (t := 3) (by decide) hM dL_law_461 (fun hM => ?_)
        refine B_aload_n dL_law_462 rfl ?_
        refine B_iload_n dL_law_463 rfl ?_
        refine B_iconst dL_law_464 k_ic_2 ?_
        refine B_iadd dL_law_465 ?_
        refine B_tald (t := 3) (by decide) hM dL_law_466 (fun hM => ?_)
        refine B_cV2i (c_X8_holders (d := 60) (Nat.le_of_ble_eq_true rfl)  hM) csV_L_52 (sc_56) vc_8 rfl hpS (Nat.le_of_ble_eq_true rfl) (Nat.le_of_ble_eq_true rfl) (Nat.le_of_ble_eq_true rfl) dL_law_467 (fun r36 h35 hM => ?_)
        refine B_icmp_eq dL_law_470 hM (tgt := 1234) rfl (fun hM => ?_) (fun hM => ?_)
        · exact B_wk (bw_L_law_c1234  hr18 hM) (wk_1 (wk_1 (wk_1 (wk_1 wk_n))))
        · refine B_iconst dL_law_473 k_ic_0 ?_
          exact B_iret ⟨_, rfl, hM⟩ zB_0 dL_law_474
      refine ite_p hM (fun hc9 hM => ?_) (fun hc9 hM => ?_)
      · refine B_tin hc9 (by decide) (by decide) rfl dL_law_32 (tgt := 475) rfl ?_
        refine B_aload_n dL_law_475 rfl ?_
        refine B_aload_n dL_law_476 rfl ?_
        refine B_iload_n dL_law_477 rfl ?_
        refine B_iconst dL_law_478 k_ic_1 ?_
        refine B_iadd dL_law_479 ?_
        refine B_tald (t := 3) (by decide) hM dL_law_480 (fun hM => ?_)
        refine B_cV1i (c_X7_waits (d := 60) (Nat.le_of_ble_eq_true rfl)  hM) csV_L_53 (sc_0) vc_7 rfl hpS (Nat.le_of_ble_eq_true rfl) (Nat.le_of_ble_eq_true rfl) (Nat.le_of_ble_eq_true rfl) dL_law_481 (fun r38 h37 hM => ?_)
        refine B_aload_n dL_law_484 rfl ?_
        refine B_aload_n dL_law_485 rfl ?_
        refine B_iload_n dL_law_486 rfl ?_
        refine B_iconst dL_law_487 k_ic_1 ?_
        refine B_iadd dL_law_488 ?_
        refine B_tald (t := 3) (by decide) hM dL_law_489 (fun hM => ?_)
        refine B_cV1i (c_X8_waits (d := 60) (Nat.le_of_ble_eq_true rfl)  hM) csV_L_56 (sc_56) vc_8 rfl hpS (Nat.le_of_ble_eq_true rfl) (Nat.le_of_ble_eq_true rfl) (Nat.le_of_ble_eq_true rfl) dL_law_490 (fun r40 h39 hM => ?_)
        refine B_icmp_eq dL_law_493 hM (tgt := 1234) rfl (fun hM => ?_) (fun hM => ?_)
        · exact B_wk (bw_L_law_c1234  hr18 hM) (wk_1 (wk_1 (wk_1 (wk_1 wk_n))))
        · refine B_iconst dL_law_496 k_ic_0 ?_
          exact B_iret ⟨_, rfl, hM⟩ zB_0 dL_law_497
      refine ite_p hM (fun hc10 hM => ?_) (fun hc10 hM => ?_)
      · refine B_tin hc10 (by decide) (by decide) rfl dL_law_32 (tgt := 498) rfl ?_
        refine B_aload_n dL_law_498 rfl ?_
        refine B_aload_n dL_law_499 rfl ?_
        refine B_iload_n dL_law_500 rfl ?_
        refine B_iconst dL_law_501 k_ic_1 ?_
        refine B_iadd dL_law_502 ?_
        refine B_tald (t := 3) (by decide) hM dL_law_503 (fun hM => ?_)
        refine B_cV1i (c_X7_line (d := 60) (Nat.le_of_ble_eq_true rfl)  hM) csV_L_57 (sc_0) vc_7 rfl hpS (Nat.le_of_ble_eq_true rfl) (Nat.le_of_ble_eq_true rfl) (Nat.le_of_ble_eq_true rfl) dL_law_504 (fun r42 h41 hM => ?_)
        refine B_aload_n dL_law_507 rfl ?_
        refine B_aload_n dL_law_508 rfl ?_
        refine B_iload_n dL_law_509 rfl ?_
        refine B_iconst dL_law_510 k_ic_1 ?_
        refine B_iadd dL_law_511 ?_
        refine B_tald (t := 3) (by decide) hM dL_law_512 (fun hM => ?_)
        refine B_cV1i (c_X8_line (d := 60) (Nat.le_of_ble_eq_true rfl)  hM) csV_L_60 (sc_56) vc_8 rfl hpS (Nat.le_of_ble_eq_true rfl) (Nat.le_of_ble_eq_true rfl) (Nat.le_of_ble_eq_true rfl) dL_law_513 (fun r44 h43 hM => ?_)
        refine B_icmp_eq dL_law_516 hM (tgt := 1234) rfl (fun hM => ?_) (fun hM => ?_)
        · exact B_wk (bw_L_law_c1234  hr18 hM) (wk_1 (wk_1 (wk_1 (wk_1 wk_n))))
        · refine B_iconst dL_law_519 k_ic_0 ?_
          exact B_iret ⟨_, rfl, hM⟩ zB_0 dL_law_520
      refine ite_p hM (fun hc11 hM => ?_) (fun hc11 hM => ?_)
      · refine B_tin hc11 (by decide) (by decide) rfl dL_law_32 (tgt := 521) rfl ?_
        refine B_aload_n dL_law_521 rfl ?_
        refine B_aload_n dL_law_522 rfl ?_
        refine B_iload_n dL_law_523 rfl ?_
        refine B_iconst dL_law_524 k_ic_1 ?_
        refine B_iadd dL_law_525 ?_
        refine B_tald (t := 3) (by decide) hM dL_law_526 (fun hM => ?_)
        refine B_cV1i (c_X7_waitsFor (d := 60) (Nat.le_of_ble_eq_true rfl)  hM) csV_L_61 (sc_0) vc_7 rfl hpS (Nat.le_of_ble_eq_true rfl) (Nat.le_of_ble_eq_true rfl) (Nat.le_of_ble_eq_true rfl) dL_law_527 (fun r46 h45 hM => ?_)
        refine B_aload_n dL_law_530 rfl ?_
        refine B_aload_n dL_law_531 rfl ?_
        refine B_iload_n dL_law_532 rfl ?_
        refine B_iconst dL_law_533 k_ic_1 ?_
        refine B_iadd dL_law_534 ?_
        refine B_tald (t := 3) (by decide) hM dL_law_535 (fun hM => ?_)
        refine B_cV1i (c_X8_waitsFor (d := 60) (Nat.le_of_ble_eq_true rfl)  hM) csV_L_64 (sc_56) vc_8 rfl hpS (Nat.le_of_ble_eq_true rfl) (Nat.le_of_ble_eq_true rfl) (Nat.le_of_ble_eq_true rfl) dL_law_536 (fun r48 h47 hM => ?_)
        refine B_icmp_eq dL_law_539 hM (tgt := 1234) rfl (fun hM => ?_) (fun hM => ?_)
        · exact B_wk (bw_L_law_c1234  hr18 hM) (wk_1 (wk_1 (wk_1 (wk_1 wk_n))))
        · refine B_iconst dL_law_542 k_ic_0 ?_
          exact B_iret ⟨_, rfl, hM⟩ zB_0 dL_law_543
      refine ite_p hM (fun hc12 hM => ?_) (fun hc12 hM => ?_)
      · refine B_tin hc12 (by decide) (by decide) rfl dL_law_32 (tgt := 544) rfl ?_
        refine B_aload_n dL_law_544 rfl ?_
        refine B_aload_n dL_law_545 rfl ?_
        refine B_iload_n dL_law_546 rfl ?_
        refine B_iconst dL_law_547 k_ic_1 ?_
        refine B_iadd dL_law_548 ?_
        refine B_tald (t := 3) (by decide) hM dL_law_549 (fun hM => ?_)
        refine B_cV1i (c_X7_ring (d := 60) (Nat.le_of_ble_eq_true rfl)  hM) csV_L_65 (sc_0) vc_7 rfl hpS (Nat.le_of_ble_eq_true rfl) (Nat.le_of_ble_eq_true rfl) (Nat.le_of_ble_eq_true rfl) dL_law_550 (fun r50 h49 hM => ?_)
        refine B_aload_n dL_law_553 rfl ?_
        refine B_aload_n dL_law_554 rfl ?_
        refine B_iload_n dL_law_555 rfl ?_
        refine B_iconst dL_law_556 k_ic_1 ?_
        refine B_iadd dL_law_557 ?_
        refine B_tald (t := 3) (by decide) hM dL_law_558 (fun hM => ?_)
        refine B_cV1i (c_X8_ring (d := 60) (Nat.le_of_ble_eq_true rfl)  hM) csV_L_68 (sc_56) vc_8 rfl hpS (Nat.le_of_ble_eq_true rfl) (Nat.le_of_ble_eq_true rfl) (Nat.le_of_ble_eq_true rfl) dL_law_559 (fun r52 h51 hM => ?_)
        refine B_icmp_eq dL_law_562 hM (tgt := 1234) rfl (fun hM => ?_) (fun hM => ?_)
        · exact B_wk (bw_L_law_c1234  hr18 hM) (wk_1 (wk_1 (wk_1 (wk_1 wk_n))))
        · refine B_iconst dL_law_565 k_ic_0 ?_
          exact B_iret ⟨_, rfl, hM⟩ zB_0 dL_law_566
      refine ite_p hM (fun hc13 hM => ?_) (fun hc13 hM => ?_)
      · refine B_tin hc13 (by decide) (by decide) rfl dL_law_32 (tgt := 567) rfl ?_
        refine B_aload_n dL_law_567 rfl ?_
        refine B_aload_n dL_law_568 rfl ?_
        refine B_iload_n dL_law_569 rfl ?_
        refine B_iconst dL_law_570 k_ic_1 ?_
        refine B_iadd dL_law_571 ?_
        refine B_tald (t := 3) (by decide) hM dL_law_572 (fun hM => ?_)
        refine B_cV1i (c_X7_count (d := 60) (Nat.le_of_ble_eq_true rfl)  hM) csV_L_69 (sc_0) vc_7 rfl hpS (Nat.le_of_ble_eq_true rfl) (Nat.le_of_ble_eq_true rfl) (Nat.le_of_ble_eq_true rfl) dL_law_573 (fun r54 h53 hM => ?_)
        refine B_aload_n dL_law_576 rfl ?_
        refine B_aload_n dL_law_577 rfl ?_
        refine B_iload_n dL_law_578 rfl ?_
        refine B_iconst dL_law_579 k_ic_1 ?_
        refine B_iadd dL_law_580 ?_
        refine B_tald (t := 3) (by decide) hM dL_law_581 (fun hM => ?_)
        refine B_cV1i (c_X8_count (d := 60) (Nat.le_of_ble_eq_true rfl)  hM) csV_L_72 (sc_56) vc_8 rfl hpS (Nat.le_of_ble_eq_true rfl) (Nat.le_of_ble_eq_true rfl) (Nat.le_of_ble_eq_true rfl) dL_law_582 (fun r56 h55 hM => ?_)
        refine B_icmp_eq dL_law_585 hM (tgt := 1234) rfl (fun hM => ?_) (fun hM => ?_)
        · exact B_wk (bw_L_law_c1234  hr18 hM) (wk_1 (wk_1 (wk_1 (wk_1 wk_n))))
        · refine B_iconst dL_law_588 k_ic_0 ?_
          exact B_iret ⟨_, rfl, hM⟩ zB_0 dL_law_589
      refine ite_p hM (fun hc14 hM => ?_) (fun hc14 hM => ?_)
      · refine B_tin hc14 (by decide) (by decide) rfl dL_law_32 (tgt := 590) rfl ?_
        refine B_aload_n dL_law_590 rfl ?_
        refine B_aload_n dL_law_591 rfl ?_
        refine B_iload_n dL_law_592 rfl ?_
        refine B_iconst dL_law_593 k_ic_1 ?_
        refine B_iadd dL_law_594 ?_
        refine B_tald (t := 3) (by decide) hM dL_law_595 (fun hM => ?_)
        refine B_aload_n dL_law_596 rfl ?_
        refine B_iload_n dL_law_597 rfl ?_
        refine B_iconst dL_law_598 k_ic_2 ?_
        refine B_iadd dL_law_599 ?_
        refine B_tald (t := 3) (by decide) hM dL_law_600 (fun hM => ?_)
        refine B_aload_n dL_law_601 rfl ?_
        refine B_iload_n dL_law_602 rfl ?_
        refine B_iconst dL_law_603 k_ic_3 ?_
        refine B_iadd dL_law_604 ?_
        refine B_tald (t := 3) (by decide) hM dL_law_605 (fun hM => ?_)
        refine B_cV3i (c_X7_would (d := 60) (Nat.le_of_ble_eq_true rfl)  hM) csV_L_73 (sc_0) vc_7 rfl hpS (Nat.le_of_ble_eq_true rfl) (Nat.le_of_ble_eq_true rfl) (Nat.le_of_ble_eq_true rfl) dL_law_606 (fun r58 h57 hM => ?_)
        refine B_aload_n dL_law_609 rfl ?_
        refine B_aload_n dL_law_610 rfl ?_
        refine B_iload_n dL_law_611 rfl ?_
        refine B_iconst dL_law_612 k_ic_1 ?_
        refine B_iadd dL_law_613 ?_
        refine B_tald (t := 3) (by decide) hM dL_law_614 (fun hM => ?_)
        refine B_aload_n dL_law_615 rfl ?_
        refine B_iload_n dL_law_616 rfl ?_
        refine B_iconst dL_law_617 k_ic_2 ?_
        refine B_iadd dL_law_618 ?_
        refine B_tald (t := 3) (by decide) hM dL_law_619 (fun hM => ?_)
        refine B_aload_n dL_law_620 rfl ?_
        refine B_iload_n dL_law_621 rfl ?_
        refine B_iconst dL_law_622 k_ic_3 ?_
        refine B_iadd dL_law_623 ?_
        refine B_tald (t := 3) (by decide) hM dL_law_624 (fun hM => ?_)
        refine B_cV3i (c_X8_would (d := 60) (Nat.le_of_ble_eq_true rfl)  hM) csV_L_76 (sc_56) vc_8 rfl hpS (Nat.le_of_ble_eq_true rfl) (Nat.le_of_ble_eq_true rfl) (Nat.le_of_ble_eq_true rfl) dL_law_625 (fun r60 h59 hM => ?_)
        refine B_icmp_eq dL_law_628 hM (tgt := 1234) rfl (fun hM => ?_) (fun hM => ?_)
        · exact B_wk (bw_L_law_c1234  hr18 hM) (wk_1 (wk_1 (wk_1 (wk_1 wk_n))))
        · refine B_iconst dL_law_631 k_ic_0 ?_
          exact B_iret ⟨_, rfl, hM⟩ zB_0 dL_law_632
      refine ite_p hM (fun hc15 hM => ?_) (fun hc15 hM => ?_)
      · refine B_tin hc15 (by decide) (by decide) rfl dL_law_32 (tgt := 633) rfl ?_
        refine B_aload_n dL_law_633 rfl ?_
        refine B_aload_n dL_law_634 rfl ?_
        refine B_iload_n dL_law_635 rfl ?_
        refine B_iconst dL_law_636 k_ic_1 ?_
        refine B_iadd dL_law_637 ?_
        refine B_tald (t := 3) (by decide) hM dL_law_638 (fun hM => ?_)
        refine B_aload_n dL_law_639 rfl ?_
        refine B_iload_n dL_law_640 rfl ?_
        refine B_iconst dL_law_641 k_ic_2 ?_
        refine B_iadd dL_law_642 ?_
        refine B_tald (t := 3) (by decide) hM dL_law_643 (fun hM => ?_)
        refine B_aload_n dL_law_644 rfl ?_
        refine B_iload_n dL_law_645 rfl ?_
        refine B_iconst dL_law_646 k_ic_3 ?_
        refine B_iadd dL_law_647 ?_
        refine B_tald (t := 3) (by decide) hM dL_law_648 (fun hM => ?_)
        refine B_cV3i (c_X7_needs (d := 60) (Nat.le_of_ble_eq_true rfl)  hM) csV_L_77 (sc_0) vc_7 rfl hpS (Nat.le_of_ble_eq_true rfl) (Nat.le_of_ble_eq_true rfl) (Nat.le_of_ble_eq_true rfl) dL_law_649 (fun r62 h61 hM => ?_)
        refine B_aload_n dL_law_652 rfl ?_
        refine B_aload_n dL_law_653 rfl ?_
        refine B_iload_n dL_law_654 rfl ?_
        refine B_iconst dL_law_655 k_ic_1 ?_
        refine B_iadd dL_law_656 ?_
        refine B_tald (t := 3) (by decide) hM dL_law_657 (fun hM => ?_)
        refine B_aload_n dL_law_658 rfl ?_
        refine B_iload_n dL_law_659 rfl ?_
        refine B_iconst dL_law_660 k_ic_2 ?_
        refine B_iadd dL_law_661 ?_
        refine B_tald (t := 3) (by decide) hM dL_law_662 (fun hM => ?_)
        refine B_aload_n dL_law_663 rfl ?_
        refine B_iload_n dL_law_664 rfl ?_
        refine B_iconst dL_law_665 k_ic_3 ?_
        refine B_iadd dL_law_666 ?_
        refine B_tald (t := 3) (by decide) hM dL_law_667 (fun hM => ?_)
        refine B_cV3i (c_X8_needs (d := 60) (Nat.le_of_ble_eq_true rfl)  hM) csV_L_80 (sc_56) vc_8 rfl hpS (Nat.le_of_ble_eq_true rfl) (Nat.le_of_ble_eq_true rfl) (Nat.le_of_ble_eq_true rfl) dL_law_668 (fun r64 h63 hM => ?_)
        refine B_icmp_eq dL_law_671 hM (tgt := 1234) rfl (fun hM => ?_) (fun hM => ?_)
        · exact B_wk (bw_L_law_c1234  hr18 hM) (wk_1 (wk_1 (wk_1 (wk_1 wk_n))))
        · refine B_iconst dL_law_674 k_ic_0 ?_
          exact B_iret ⟨_, rfl, hM⟩ zB_0 dL_law_675
      refine ite_p hM (fun hc16 hM => ?_) (fun hc16 hM => ?_)
      · refine B_tin hc16 (by decide) (by decide) rfl dL_law_32 (tgt := 676) rfl ?_
        refine B_aload_n dL_law_676 rfl ?_
        refine B_aload_n dL_law_677 rfl ?_
        refine B_iload_n dL_law_678 rfl ?_
        refine B_iconst dL_law_679 k_ic_1 ?_
        refine B_iadd dL_law_680 ?_
        refine B_tald (t := 3) (by decide) hM dL_law_681 (fun hM => ?_)
        refine B_aload_n dL_law_682 rfl ?_
        refine B_iload_n dL_law_683 rfl ?_
        refine B_iconst dL_law_684 k_ic_2 ?_
        refine B_iadd dL_law_685 ?_
        refine B_tald (t := 3) (by decide) hM dL_law_686 (fun hM => ?_)
        refine B_cV2i (c_X7_strongest (d := 60) (Nat.le_of_ble_eq_true rfl)  hM) csV_L_81 (sc_0) vc_7 rfl hpS (Nat.le_of_ble_eq_true rfl) (Nat.le_of_ble_eq_true rfl) (Nat.le_of_ble_eq_true rfl) dL_law_687 (fun r66 h65 hM => ?_)
        refine B_aload_n dL_law_690 rfl ?_
        refine B_aload_n dL_law_691 rfl ?_
        refine B_iload_n dL_law_692 rfl ?_
        refine B_iconst dL_law_693 k_ic_1 ?_
        refine B_iadd dL_law_694 ?_
        refine B_tald (t := 3) (by decide) hM dL_law_695 (fun hM => ?_)
        refine B_aload_n dL_law_696 rfl ?_
        refine B_iload_n dL_law_697 rfl ?_
        refine B_iconst dL_law_698 k_ic_2 ?_
        refine B_iadd dL_law_699 ?_
        refine B_tald (t := 3) (by decide) hM dL_law_700 (fun hM => ?_)
        refine B_cV2i (c_X8_strongest (d := 60) (Nat.le_of_ble_eq_true rfl)  hM) csV_L_84 (sc_56) vc_8 rfl hpS (Nat.le_of_ble_eq_true rfl) (Nat.le_of_ble_eq_true rfl) (Nat.le_of_ble_eq_true rfl) dL_law_701 (fun r68 h67 hM => ?_)
        refine B_icmp_eq dL_law_704 hM (tgt := 1234) rfl (fun hM => ?_) (fun hM => ?_)
        · exact B_wk (bw_L_law_c1234  hr18 hM) (wk_1 (wk_1 (wk_1 (wk_1 wk_n))))
        · refine B_iconst dL_law_707 k_ic_0 ?_
          exact B_iret ⟨_, rfl, hM⟩ zB_0 dL_law_708
      refine ite_p hM (fun hc17 hM => ?_) (fun hc17 hM => ?_)
      · refine B_tin hc17 (by decide) (by decide) rfl dL_law_32 (tgt := 709) rfl ?_
        refine B_aload_n dL_law_709 rfl ?_
        refine B_aload_n dL_law_710 rfl ?_
        refine B_iload_n dL_law_711 rfl ?_
        refine B_iconst dL_law_712 k_ic_1 ?_
        refine B_iadd dL_law_713 ?_
        refine B_tald (t := 3) (by decide) hM dL_law_714 (fun hM => ?_)
        refine B_aload_n dL_law_715 rfl ?_
        refine B_iload_n dL_law_716 rfl ?_
        refine B_iconst dL_law_717 k_ic_2 ?_
        refine B_iadd dL_law_718 ?_
        refine B_tald (t := 3) (by decide) hM dL_law_719 (fun hM => ?_)
        refine B_aload_n dL_law_720 rfl ?_
        refine B_iload_n dL_law_721 rfl ?_
        refine B_iconst dL_law_722 k_ic_3 ?_
        refine B_iadd dL_law_723 ?_
        refine B_tald (t := 3) (by decide) hM dL_law_724 (fun hM => ?_)
        refine B_cV3i (c_X7_plan (d := 60) (Nat.le_of_ble_eq_true rfl)  hM) csV_L_85 (sc_0) vc_7 rfl hpS (Nat.le_of_ble_eq_true rfl) (Nat.le_of_ble_eq_true rfl) (Nat.le_of_ble_eq_true rfl) dL_law_725 (fun r70 h69 hM => ?_)
        refine B_aload_n dL_law_728 rfl ?_
        refine B_aload_n dL_law_729 rfl ?_
        refine B_iload_n dL_law_730 rfl ?_
        refine B_iconst dL_law_731 k_ic_1 ?_
        refine B_iadd dL_law_732 ?_
        refine B_tald (t := 3) (by decide) hM dL_law_733 (fun hM => ?_)
        refine B_aload_n dL_law_734 rfl ?_
        refine B_iload_n dL_law_735 rfl ?_
        refine B_iconst dL_law_736 k_ic_2 ?_
        refine B_iadd dL_law_737 ?_
        refine B_tald (t := 3) (by decide) hM dL_law_738 (fun hM => ?_)
        refine B_aload_n dL_law_739 rfl ?_
        refine B_iload_n dL_law_740 rfl ?_
        refine B_iconst dL_law_741 k_ic_3 ?_
        refine B_iadd dL_law_742 ?_
        refine B_tald (t := 3) (by decide) hM dL_law_743 (fun hM => ?_)
        refine B_cV3i (c_X8_plan (d := 60) (Nat.le_of_ble_eq_true rfl)  hM) csV_L_88 (sc_56) vc_8 rfl hpS (Nat.le_of_ble_eq_true rfl) (Nat.le_of_ble_eq_true rfl) (Nat.le_of_ble_eq_true rfl) dL_law_744 (fun r72 h71 hM => ?_)
        refine B_icmp_eq dL_law_747 hM (tgt := 1234) rfl (fun hM => ?_) (fun hM => ?_)
        · exact B_wk (bw_L_law_c1234  hr18 hM) (wk_1 (wk_1 (wk_1 (wk_1 wk_n))))
        · refine B_iconst dL_law_750 k_ic_0 ?_
          exact B_iret ⟨_, rfl, hM⟩ zB_0 dL_law_751
      refine ite_p hM (fun hc18 hM => ?_) (fun hc18 hM => ?_)
      · refine B_tin hc18 (by decide) (by decide) rfl dL_law_32 (tgt := 752) rfl ?_
        refine B_aload_n dL_law_752 rfl ?_
        refine B_aload_n dL_law_753 rfl ?_
        refine B_iload_n dL_law_754 rfl ?_
        refine B_iconst dL_law_755 k_ic_1 ?_
        refine B_iadd dL_law_756 ?_
        refine B_tald (t := 3) (by decide) hM dL_law_757 (fun hM => ?_)
        refine B_cV1i (c_X7_plays (d := 60) (Nat.le_of_ble_eq_true rfl)  hM) csV_L_89 (sc_0) vc_7 rfl hpS (Nat.le_of_ble_eq_true rfl) (Nat.le_of_ble_eq_true rfl) (Nat.le_of_ble_eq_true rfl) dL_law_758 (fun r74 h73 hM => ?_)
        refine B_aload_n dL_law_761 rfl ?_
        refine B_aload_n dL_law_762 rfl ?_
        refine B_iload_n dL_law_763 rfl ?_
        refine B_iconst dL_law_764 k_ic_1 ?_
        refine B_iadd dL_law_765 ?_
        refine B_tald (t := 3) (by decide) hM dL_law_766 (fun hM => ?_)
        refine B_cV1i (c_X8_plays (d := 60) (Nat.le_of_ble_eq_true rfl)  hM) csV_L_92 (sc_56) vc_8 rfl hpS (Nat.le_of_ble_eq_true rfl) (Nat.le_of_ble_eq_true rfl) (Nat.le_of_ble_eq_true rfl) dL_law_767 (fun r76 h75 hM => ?_)
        refine B_icmp_eq dL_law_770 hM (tgt := 1234) rfl (fun hM => ?_) (fun hM => ?_)
        · exact B_wk (bw_L_law_c1234  hr18 hM) (wk_1 (wk_1 (wk_1 (wk_1 wk_n))))
        · refine B_iconst dL_law_773 k_ic_0 ?_
          exact B_iret ⟨_, rfl, hM⟩ zB_0 dL_law_774
      refine ite_p hM (fun hc19 hM => ?_) (fun hc19 hM => ?_)
      · refine B_tin hc19 (by decide) (by decide) rfl dL_law_32 (tgt := 775) rfl ?_
        refine B_aload_n dL_law_775 rfl ?_
        refine B_aload_n dL_law_776 rfl ?_
        refine B_iload_n dL_law_777 rfl ?_
        refine B_iconst dL_law_778 k_ic_1 ?_
        refine B_iadd dL_law_779 ?_
        refine B_tald (t := 3) (by decide) hM dL_law_780 (fun hM => ?_)
        refine B_aload_n dL_law_781 rfl ?_
        refine B_iload_n dL_law_782 rfl ?_
        refine B_iconst dL_law_783 k_ic_2 ?_
        refine B_iadd dL_law_784 ?_
        refine B_tald (t := 3) (by decide) hM dL_law_785 (fun hM => ?_)
        refine B_aload_n dL_law_786 rfl ?_
        refine B_iload_n dL_law_787 rfl ?_
        refine B_iconst dL_law_788 k_ic_3 ?_
        refine B_iadd dL_law_789 ?_
        refine B_tald (t := 3) (by decide) hM dL_law_790 (fun hM => ?_)
        refine B_cV3i (c_X7_lots (d := 60) (Nat.le_of_ble_eq_true rfl)  hM) csV_L_93 (sc_0) vc_7 rfl hpS (Nat.le_of_ble_eq_true rfl) (Nat.le_of_ble_eq_true rfl) (Nat.le_of_ble_eq_true rfl) dL_law_791 (fun r78 h77 hM => ?_)
        refine B_aload_n dL_law_794 rfl ?_
        refine B_aload_n dL_law_795 rfl ?_
        refine B_iload_n dL_law_796 rfl ?_
        refine B_iconst dL_law_797 k_ic_1 ?_
        refine B_iadd dL_law_798 ?_
        refine B_tald (t := 3) (by decide) hM dL_law_799 (fun hM => ?_)
        refine B_aload_n dL_law_800 rfl ?_
        refine B_iload_n dL_law_801 rfl ?_
        refine B_iconst dL_law_802 k_ic_2 ?_
        refine B_iadd dL_law_803 ?_
        refine B_tald (t := 3) (by decide) hM dL_law_804 (fun hM => ?_)
        refine B_aload_n dL_law_805 rfl ?_
        refine B_iload_n dL_law_806 rfl ?_
        refine B_iconst dL_law_807 k_ic_3 ?_
        refine B_iadd dL_law_808 ?_
        refine B_tald (t := 3) (by decide) hM dL_law_809 (fun hM => ?_)
        refine B_cV3i (c_X8_lots (d := 60) (Nat.le_of_ble_eq_true rfl)  hM) csV_L_96 (sc_56) vc_8 rfl hpS (Nat.le_of_ble_eq_true rfl) (Nat.le_of_ble_eq_true rfl) (Nat.le_of_ble_eq_true rfl) dL_law_810 (fun r80 h79 hM => ?_)
        refine B_icmp_eq dL_law_813 hM (tgt := 1234) rfl (fun hM => ?_) (fun hM => ?_)
        · exact B_wk (bw_L_law_c1234  hr18 hM) (wk_1 (wk_1 (wk_1 (wk_1 wk_n))))
        · refine B_iconst dL_law_816 k_ic_0 ?_
          exact B_iret ⟨_, rfl, hM⟩ zB_0 dL_law_817
      refine ite_p hM (fun hc20 hM => ?_) (fun hc20 hM => ?_)
      · refine B_tin hc20 (by decide) (by decide) rfl dL_law_32 (tgt := 818) rfl ?_
        refine B_aload_n dL_law_818 rfl ?_
        refine B_aload_n dL_law_819 rfl ?_
        refine B_iload_n dL_law_820 rfl ?_
        refine B_iconst dL_law_821 k_ic_1 ?_
        refine B_iadd dL_law_822 ?_
        refine B_tald (t := 3) (by decide) hM dL_law_823 (fun hM => ?_)
        refine B_cV1i (c_X7_weighs (d := 60) (Nat.le_of_ble_eq_true rfl)  hM) csV_L_97 (sc_0) vc_7 rfl hpS (Nat.le_of_ble_eq_true rfl) (Nat.le_of_ble_eq_true rfl) (Nat.le_of_ble_eq_true rfl) dL_law_824 (fun r82 h81 hM => ?_)
        refine B_aload_n dL_law_827 rfl ?_
        refine B_aload_n dL_law_828 rfl ?_
        refine B_iload_n dL_law_829 rfl ?_
        refine B_iconst dL_law_830 k_ic_1 ?_
        refine B_iadd dL_law_831 ?_
        refine B_tald (t := 3) (by decide) hM dL_law_832 (fun hM => ?_)
        refine B_cV1i (c_X8_weighs (d := 60) (Nat.le_of_ble_eq_true rfl)  hM) csV_L_100 (sc_56) vc_8 rfl hpS (Nat.le_of_ble_eq_true rfl) (Nat.le_of_ble_eq_true rfl) (Nat.le_of_ble_eq_true rfl) dL_law_833 (fun r84 h83 hM => ?_)
        refine B_icmp_eq dL_law_836 hM (tgt := 1234) rfl (fun hM => ?_) (fun hM => ?_)
        · exact B_wk (bw_L_law_c1234  hr18 hM) (wk_1 (wk_1 (wk_1 (wk_1 wk_n))))
        · refine B_iconst dL_law_839 k_ic_0 ?_
          exact B_iret ⟨_, rfl, hM⟩ zB_0 dL_law_840
      refine ite_p hM (fun hc21 hM => ?_) (fun hc21 hM => ?_)
      · refine B_tin hc21 (by decide) (by decide) rfl dL_law_32 (tgt := 841) rfl ?_
        refine B_aload_n dL_law_841 rfl ?_
        refine B_aload_n dL_law_842 rfl ?_
        refine B_iload_n dL_law_843 rfl ?_
        refine B_iconst dL_law_844 k_ic_1 ?_
        refine B_iadd dL_law_845 ?_
        refine B_tald (t := 3) (by decide) hM dL_law_846 (fun hM => ?_)
        refine B_aload_n dL_law_847 rfl ?_
        refine B_iload_n dL_law_848 rfl ?_
        refine B_iconst dL_law_849 k_ic_2 ?_
        refine B_iadd dL_law_850 ?_
        refine B_tald (t := 3) (by decide) hM dL_law_851 (fun hM => ?_)
        refine B_aload_n dL_law_852 rfl ?_
        refine B_iload_n dL_law_853 rfl ?_
        refine B_iconst dL_law_854 k_ic_3 ?_
        refine B_iadd dL_law_855 ?_
        refine B_tald (t := 3) (by decide) hM dL_law_856 (fun hM => ?_)
        refine B_cV3i (c_X7_plunges (d := 60) (Nat.le_of_ble_eq_true rfl)  hM) csV_L_101 (sc_0) vc_7 rfl hpS (Nat.le_of_ble_eq_true rfl) (Nat.le_of_ble_eq_true rfl) (Nat.le_of_ble_eq_true rfl) dL_law_857 (fun r86 h85 hM => ?_)
        refine B_aload_n dL_law_860 rfl ?_
        refine B_aload_n dL_law_861 rfl ?_
        refine B_iload_n dL_law_862 rfl ?_
        refine B_iconst dL_law_863 k_ic_1 ?_
        refine B_iadd dL_law_864 ?_
        refine B_tald (t := 3) (by decide) hM dL_law_865 (fun hM => ?_)
        refine B_aload_n dL_law_866 rfl ?_
        refine B_iload_n dL_law_867 rfl ?_
        refine B_iconst dL_law_868 k_ic_2 ?_
        refine B_iadd dL_law_869 ?_
        refine B_tald (t := 3) (by decide) hM dL_law_870 (fun hM => ?_)
        refine B_aload_n dL_law_871 rfl ?_
        refine B_iload_n dL_law_872 rfl ?_
        refine B_iconst dL_law_873 k_ic_3 ?_
        refine B_iadd dL_law_874 ?_
        refine B_tald (t := 3) (by decide) hM dL_law_875 (fun hM => ?_)
        refine B_cV3i (c_X8_plunges (d := 60) (Nat.le_of_ble_eq_true rfl)  hM) csV_L_104 (sc_56) vc_8 rfl hpS (Nat.le_of_ble_eq_true rfl) (Nat.le_of_ble_eq_true rfl) (Nat.le_of_ble_eq_true rfl) dL_law_876 (fun r88 h87 hM => ?_)
        refine B_icmp_eq dL_law_879 hM (tgt := 1234) rfl (fun hM => ?_) (fun hM => ?_)
        · exact B_wk (bw_L_law_c1234  hr18 hM) (wk_1 (wk_1 (wk_1 (wk_1 wk_n))))
        · refine B_iconst dL_law_882 k_ic_0 ?_
          exact B_iret ⟨_, rfl, hM⟩ zB_0 dL_law_883
      refine ite_p hM (fun hc22 hM => ?_) (fun hc22 hM => ?_)
      · refine B_tin hc22 (by decide) (by decide) rfl dL_law_32 (tgt := 884) rfl ?_
        refine B_aload_n dL_law_884 rfl ?_
        refine B_aload_n dL_law_885 rfl ?_
        refine B_iload_n dL_law_886 rfl ?_
        refine B_iconst dL_law_887 k_ic_1 ?_
        refine B_iadd dL_law_888 ?_
        refine B_tald (t := 3) (by decide) hM dL_law_889 (fun hM => ?_)
        refine B_aload_n dL_law_890 rfl ?_
        refine B_iload_n dL_law_891 rfl ?_
        refine B_iconst dL_law_892 k_ic_2 ?_
        refine B_iadd dL_law_893 ?_
        refine B_tald (t := 3) (by decide) hM dL_law_894 (fun hM => ?_)
        refine B_cV2i (c_X7_bell (d := 60) (Nat.le_of_ble_eq_true rfl)  hM) csV_L_105 (sc_0) vc_7 rfl hpS (Nat.le_of_ble_eq_true rfl) (Nat.le_of_ble_eq_true rfl) (Nat.le_of_ble_eq_true rfl) dL_law_895 (fun r90 h89 hM => ?_)
        refine B_aload_n dL_law_898 rfl ?_
        refine B_aload_n dL_law_899 rfl ?_
        refine B_iload_n dL_law_900 rfl ?_
        refine B_iconst dL_law_901 k_ic_1 ?_
        refine B_iadd dL_law_902 ?_
        refine B_tald (t := 3) (by decide) hM dL_law_903 (fun hM => ?_)
        refine B_aload_n dL_law_904 rfl ?_
        refine B_iload_n dL_law_905 rfl ?_
        refine B_iconst dL_law_906 k_ic_2 ?_
        refine B_iadd dL_law_907 ?_
        refine B_tald (t := 3) (by decide) hM dL_law_908 (fun hM => ?_)
        refine B_cV2i (c_X8_bell (d := 60) (Nat.le_of_ble_eq_true rfl)  hM) csV_L_108 (sc_56) vc_8 rfl hpS (Nat.le_of_ble_eq_true rfl) (Nat.le_of_ble_eq_true rfl) (Nat.le_of_ble_eq_true rfl) dL_law_909 (fun r92 h91 hM => ?_)
        refine B_icmp_eq dL_law_912 hM (tgt := 1234) rfl (fun hM => ?_) (fun hM => ?_)
        · exact B_wk (bw_L_law_c1234  hr18 hM) (wk_1 (wk_1 (wk_1 (wk_1 wk_n))))
        · refine B_iconst dL_law_915 k_ic_0 ?_
          exact B_iret ⟨_, rfl, hM⟩ zB_0 dL_law_916
      refine ite_p hM (fun hc23 hM => ?_) (fun hc23 hM => ?_)
      · refine B_tin hc23 (by decide) (by decide) rfl dL_law_32 (tgt := 917) rfl ?_
        refine B_aload_n dL_law_917 rfl ?_
        refine B_aload_n dL_law_918 rfl ?_
        refine B_iload_n dL_law_919 rfl ?_
        refine B_iconst dL_law_920 k_ic_1 ?_
        refine B_iadd dL_law_921 ?_
        refine B_tald (t := 3) (by decide) hM dL_law_922 (fun hM => ?_)
        refine B_aload_n dL_law_923 rfl ?_
        refine B_iload_n dL_law_924 rfl ?_
        refine B_iconst dL_law_925 k_ic_2 ?_
        refine B_iadd dL_law_926 ?_
        refine B_tald (t := 3) (by decide) hM dL_law_927 (fun hM => ?_)
        refine B_cV2i (c_X7_gate (d := 60) (Nat.le_of_ble_eq_true rfl)  hM) csV_L_109 (sc_0) vc_7 rfl hpS (Nat.le_of_ble_eq_true rfl) (Nat.le_of_ble_eq_true rfl) (Nat.le_of_ble_eq_true rfl) dL_law_928 (fun r94 h93 hM => ?_)
        refine B_aload_n dL_law_931 rfl ?_
        refine B_aload_n dL_law_932 rfl ?_
        refine B_iload_n dL_law_933 rfl ?_
        refine B_iconst dL_law_934 k_ic_1 ?_
        refine B_iadd dL_law_935 ?_
        refine B_tald (t := 3) (by decide) hM dL_law_936 (fun hM => ?_)
        refine B_aload_n dL_law_937 rfl ?_
        refine B_iload_n dL_law_938 rfl ?_
        refine B_iconst dL_law_939 k_ic_2 ?_
        refine B_iadd dL_law_940 ?_
        refine B_tald (t := 3) (by decide) hM dL_law_941 (fun hM => ?_)
        refine B_cV2i (c_X8_gate (d := 60) (Nat.le_of_ble_eq_true rfl)  hM) csV_L_112 (sc_56) vc_8 rfl hpS (Nat.le_of_ble_eq_true rfl) (Nat.le_of_ble_eq_true rfl) (Nat.le_of_ble_eq_true rfl) dL_law_942 (fun r96 h95 hM => ?_)
        refine B_icmp_eq dL_law_945 hM (tgt := 1234) rfl (fun hM => ?_) (fun hM => ?_)
        · exact B_wk (bw_L_law_c1234  hr18 hM) (wk_1 (wk_1 (wk_1 (wk_1 wk_n))))
        · refine B_iconst dL_law_948 k_ic_0 ?_
          exact B_iret ⟨_, rfl, hM⟩ zB_0 dL_law_949
      refine ite_p hM (fun hc24 hM => ?_) (fun hc24 hM => ?_)
      · refine B_tin hc24 (by decide) (by decide) rfl dL_law_32 (tgt := 950) rfl ?_
        refine B_aload_n dL_law_950 rfl ?_
        refine B_aload_n dL_law_951 rfl ?_
        refine B_iload_n dL_law_952 rfl ?_
        refine B_iconst dL_law_953 k_ic_1 ?_
        refine B_iadd dL_law_954 ?_
        refine B_tald (t := 3) (by decide) hM dL_law_955 (fun hM => ?_)
        refine B_cV1i (c_X7_feed (d := 60) (Nat.le_of_ble_eq_true rfl)  hM) csV_L_113 (sc_0) vc_7 rfl hpS (Nat.le_of_ble_eq_true rfl) (Nat.le_of_ble_eq_true rfl) (Nat.le_of_ble_eq_true rfl) dL_law_956 (fun r98 h97 hM => ?_)
        refine B_aload_n dL_law_959 rfl ?_
        refine B_aload_n dL_law_960 rfl ?_
        refine B_iload_n dL_law_961 rfl ?_
        refine B_iconst dL_law_962 k_ic_1 ?_
        refine B_iadd dL_law_963 ?_
        refine B_tald (t := 3) (by decide) hM dL_law_964 (fun hM => ?_)
        refine B_cV1i (c_X8_feed (d := 60) (Nat.le_of_ble_eq_true rfl)  hM) csV_L_116 (sc_56) vc_8 rfl hpS (Nat.le_of_ble_eq_true rfl) (Nat.le_of_ble_eq_true rfl) (Nat.le_of_ble_eq_true rfl) dL_law_965 (fun r100 h99 hM => ?_)
        refine B_icmp_eq dL_law_968 hM (tgt := 1234) rfl (fun hM => ?_) (fun hM => ?_)
        · exact B_wk (bw_L_law_c1234  hr18 hM) (wk_1 (wk_1 (wk_1 (wk_1 wk_n))))
        · refine B_iconst dL_law_971 k_ic_0 ?_
          exact B_iret ⟨_, rfl, hM⟩ zB_0 dL_law_972
      refine ite_p hM (fun hc25 hM => ?_) (fun hc25 hM => ?_)
      · refine B_tin hc25 (by decide) (by decide) rfl dL_law_32 (tgt := 973) rfl ?_
        refine B_aload_n dL_law_973 rfl ?_
        refine B_cV0i (c_X7_reads (d := 60) (Nat.le_of_ble_eq_true rfl)  hM) csV_L_117 (sc_0) vc_7 rfl hpS (Nat.le_of_ble_eq_true rfl) (Nat.le_of_ble_eq_true rfl) (Nat.le_of_ble_eq_true rfl) dL_law_974 (fun r102 h101 hM => ?_)
        refine B_aload_n dL_law_977 rfl ?_
        refine B_cV0i (c_X8_reads (d := 60) (Nat.le_of_ble_eq_true rfl)  hM) csV_L_120 (sc_56) vc_8 rfl hpS (Nat.le_of_ble_eq_true rfl) (Nat.le_of_ble_eq_true rfl) (Nat.le_of_ble_eq_true rfl) dL_law_978 (fun r104 h103 hM => ?_)
        refine B_icmp_eq dL_law_981 hM (tgt := 1234) rfl (fun hM => ?_) (fun hM => ?_)
        · exact B_wk (bw_L_law_c1234  hr18 hM) (wk_1 (wk_1 (wk_1 (wk_1 wk_n))))
        · refine B_iconst dL_law_984 k_ic_0 ?_
          exact B_iret ⟨_, rfl, hM⟩ zB_0 dL_law_985
      refine ite_p hM (fun hc26 hM => ?_) (fun hc26 hM => ?_)
      · refine B_tin hc26 (by decide) (by decide) rfl dL_law_32 (tgt := 986) rfl ?_
        refine B_aload_n dL_law_986 rfl ?_
        refine B_cV0i (c_X7_spells (d := 60) (Nat.le_of_ble_eq_true rfl)  hM) csV_L_121 (sc_0) vc_7 rfl hpS (Nat.le_of_ble_eq_true rfl) (Nat.le_of_ble_eq_true rfl) (Nat.le_of_ble_eq_true rfl) dL_law_987 (fun r106 h105 hM => ?_)
        refine B_aload_n dL_law_990 rfl ?_
        refine B_cV0i (c_X8_spells (d := 60) (Nat.le_of_ble_eq_true rfl)  hM) csV_L_124 (sc_56) vc_8 rfl hpS (Nat.le_of_ble_eq_true rfl) (Nat.le_of_ble_eq_true rfl) (Nat.le_of_ble_eq_true rfl) dL_law_991 (fun r108 h107 hM => ?_)
        refine B_icmp_eq dL_law_994 hM (tgt := 1234) rfl (fun hM => ?_) (fun hM => ?_)
        · exact B_wk (bw_L_law_c1234  hr18 hM) (wk_1 (wk_1 (wk_1 (wk_1 wk_n))))
        · refine B_iconst dL_law_997 k_ic_0 ?_
          exact B_iret ⟨_, rfl, hM⟩ zB_0 dL_law_998
      refine ite_p hM (fun hc27 hM => ?_) (fun hc27 hM => ?_)
      · refine B_tin hc27 (by decide) (by decide) rfl dL_law_32 (tgt := 999) rfl ?_
        refine B_aload_n dL_law_999 rfl ?_
        refine B_aload_n dL_law_1000 rfl ?_
        refine B_iload_n dL_law_1001 rfl ?_
        refine B_iconst dL_law_1002 k_ic_1 ?_
        refine B_iadd dL_law_1003 ?_
        refine B_tald (t := 3) (by decide) hM dL_law_1004 (fun hM => ?_)
        refine B_cV1i (c_X7_paper (d := 60) (Nat.le_of_ble_eq_true rfl)  hM) csV_L_125 (sc_0) vc_7 rfl hpS (Nat.le_of_ble_eq_true rfl) (Nat.le_of_ble_eq_true rfl) (Nat.le_of_ble_eq_true rfl) dL_law_1005 (fun r110 h109 hM => ?_)
        refine B_aload_n dL_law_1008 rfl ?_
        refine B_aload_n dL_law_1009 rfl ?_
        refine B_iload_n dL_law_1010 rfl ?_
        refine B_iconst dL_law_1011 k_ic_1 ?_
        refine B_iadd dL_law_1012 ?_
        refine B_tald (t := 3) (by decide) hM dL_law_1013 (fun hM => ?_)
        refine B_cV1i (c_X8_paper (d := 60) (Nat.le_of_ble_eq_true rfl)  hM) csV_L_128 (sc_56) vc_8 rfl hpS (Nat.le_of_ble_eq_true rfl) (Nat.le_of_ble_eq_true rfl) (Nat.le_of_ble_eq_true rfl) dL_law_1014 (fun r112 h111 hM => ?_)
        refine B_icmp_eq dL_law_1017 hM (tgt := 1234) rfl (fun hM => ?_) (fun hM => ?_)
        · exact B_wk (bw_L_law_c1234  hr18 hM) (wk_1 (wk_1 (wk_1 (wk_1 wk_n))))
        · refine B_iconst dL_law_1020 k_ic_0 ?_
          exact B_iret ⟨_, rfl, hM⟩ zB_0 dL_law_1021
      refine ite_p hM (fun hc28 hM => ?_) (fun hc28 hM => ?_)
      · refine B_tin hc28 (by decide) (by decide) rfl dL_law_32 (tgt := 1022) rfl ?_
        refine B_aload_n dL_law_1022 rfl ?_
        refine B_aload_n dL_law_1023 rfl ?_
        refine B_iload_n dL_law_1024 rfl ?_
        refine B_iconst dL_law_1025 k_ic_1 ?_
        refine B_iadd dL_law_1026 ?_
        refine B_tald (t := 3) (by decide) hM dL_law_1027 (fun hM => ?_)
        refine B_aload_n dL_law_1028 rfl ?_
        refine B_iload_n dL_law_1029 rfl ?_
        refine B_iconst dL_law_1030 k_ic_2 ?_
        refine B_iadd dL_law_1031 ?_
        refine B_tald (t := 3) (by decide) hM dL_law_1032 (fun hM => ?_)
        refine B_cV2i (c_X7_list (d := 60) (Nat.le_of_ble_eq_true rfl)  hM) csV_L_129 (sc_0) vc_7 rfl hpS (Nat.le_of_ble_eq_true rfl) (Nat.le_of_ble_eq_true rfl) (Nat.le_of_ble_eq_true rfl) dL_law_1033 (fun r114 h113 hM => ?_)
        refine B_aload_n dL_law_1036 rfl ?_
        refine B_aload_n dL_law_1037 rfl ?_
        refine B_iload_n dL_law_1038 rfl ?_
        refine B_iconst dL_law_1039 k_ic_1 ?_
        refine B_iadd dL_law_1040 ?_
        refine B_tald (t := 3) (by decide) hM dL_law_1041 (fun hM => ?_)
        refine B_aload_n dL_law_1042 rfl ?_
        refine B_iload_n dL_law_1043 rfl ?_
        refine B_iconst dL_law_1044 k_ic_2 ?_
        refine B_iadd dL_law_1045 ?_
        refine B_tald (t := 3) (by decide) hM dL_law_1046 (fun hM => ?_)
        refine B_cV2i (c_X8_list (d := 60) (Nat.le_of_ble_eq_true rfl)  hM) csV_L_132 (sc_56) vc_8 rfl hpS (Nat.le_of_ble_eq_true rfl) (Nat.le_of_ble_eq_true rfl) (Nat.le_of_ble_eq_true rfl) dL_law_1047 (fun r116 h115 hM => ?_)
        refine B_icmp_eq dL_law_1050 hM (tgt := 1234) rfl (fun hM => ?_) (fun hM => ?_)
        · exact B_wk (bw_L_law_c1234  hr18 hM) (wk_1 (wk_1 (wk_1 (wk_1 wk_n))))
        · refine B_iconst dL_law_1053 k_ic_0 ?_
          exact B_iret ⟨_, rfl, hM⟩ zB_0 dL_law_1054
      refine ite_p hM (fun hc29 hM => ?_) (fun hc29 hM => ?_)
      · refine B_tin hc29 (by decide) (by decide) rfl dL_law_32 (tgt := 1055) rfl ?_
        refine B_aload_n dL_law_1055 rfl ?_
        refine B_aload_n dL_law_1056 rfl ?_
        refine B_iload_n dL_law_1057 rfl ?_
        refine B_iconst dL_law_1058 k_ic_1 ?_
        refine B_iadd dL_law_1059 ?_
        refine B_tald (t := 3) (by decide) hM dL_law_1060 (fun hM => ?_)
        refine B_aload_n dL_law_1061 rfl ?_
        refine B_iload_n dL_law_1062 rfl ?_
        refine B_iconst dL_law_1063 k_ic_2 ?_
        refine B_iadd dL_law_1064 ?_
        refine B_tald (t := 3) (by decide) hM dL_law_1065 (fun hM => ?_)
        refine B_aload_n dL_law_1066 rfl ?_
        refine B_iload_n dL_law_1067 rfl ?_
        refine B_iconst dL_law_1068 k_ic_3 ?_
        refine B_iadd dL_law_1069 ?_
        refine B_tald (t := 3) (by decide) hM dL_law_1070 (fun hM => ?_)
        refine B_cV3i (c_X7_set (d := 60) (Nat.le_of_ble_eq_true rfl)  hM) csV_L_133 (sc_0) vc_7 rfl hpS (Nat.le_of_ble_eq_true rfl) (Nat.le_of_ble_eq_true rfl) (Nat.le_of_ble_eq_true rfl) dL_law_1071 (fun r118 h117 hM => ?_)
        refine B_aload_n dL_law_1074 rfl ?_
        refine B_aload_n dL_law_1075 rfl ?_
        refine B_iload_n dL_law_1076 rfl ?_
        refine B_iconst dL_law_1077 k_ic_1 ?_
        refine B_iadd dL_law_1078 ?_
        refine B_tald (t := 3) (by decide) hM dL_law_1079 (fun hM => ?_)
        refine B_aload_n dL_law_1080 rfl ?_
        refine B_iload_n dL_law_1081 rfl ?_
        refine B_iconst dL_law_1082 k_ic_2 ?_
        refine B_iadd dL_law_1083 ?_
        refine B_tald (t := 3) (by decide) hM dL_law_1084 (fun hM => ?_)
        refine B_aload_n dL_law_1085 rfl ?_
        refine B_iload_n dL_law_1086 rfl ?_
        refine B_iconst dL_law_1087 k_ic_3 ?_
        refine B_iadd dL_law_1088 ?_
        refine B_tald (t := 3) (by decide) hM dL_law_1089 (fun hM => ?_)
        refine B_cV3i (c_X8_set (d := 60) (Nat.le_of_ble_eq_true rfl)  hM) csV_L_136 (sc_56) vc_8 rfl hpS (Nat.le_of_ble_eq_true rfl) (Nat.le_of_ble_eq_true rfl) (Nat.le_of_ble_eq_true rfl) dL_law_1090 (fun r120 h119 hM => ?_)
        refine B_icmp_eq dL_law_1093 hM (tgt := 1234) rfl (fun hM => ?_) (fun hM => ?_)
        · exact B_wk (bw_L_law_c1234  hr18 hM) (wk_1 (wk_1 (wk_1 (wk_1 wk_n))))
        · refine B_iconst dL_law_1096 k_ic_0 ?_
          exact B_iret ⟨_, rfl, hM⟩ zB_0 dL_law_1097
      refine ite_p hM (fun hc30 hM => ?_) (fun hc30 hM => ?_)
      · refine B_tin hc30 (by decide) (by decide) rfl dL_law_32 (tgt := 1098) rfl ?_
        refine B_aload_n dL_law_1098 rfl ?_
        refine B_aload_n dL_law_1099 rfl ?_
        refine B_iload_n dL_law_1100 rfl ?_
        refine B_iconst dL_law_1101 k_ic_1 ?_
        refine B_iadd dL_law_1102 ?_
        refine B_tald (t := 3) (by decide) hM dL_law_1103 (fun hM => ?_)
        refine B_aload_n dL_law_1104 rfl ?_
        refine B_iload_n dL_law_1105 rfl ?_
        refine B_iconst dL_law_1106 k_ic_2 ?_
        refine B_iadd dL_law_1107 ?_
        refine B_tald (t := 3) (by decide) hM dL_law_1108 (fun hM => ?_)
        refine B_cV2l (c_X7_get (d := 60) (Nat.le_of_ble_eq_true rfl)  hM) csV_L_137 (sc_0) vc_7 rfl hpS (Nat.le_of_ble_eq_true rfl) (Nat.le_of_ble_eq_true rfl) (Nat.le_of_ble_eq_true rfl) dL_law_1109 (fun r122 h121 hM => ?_)
        refine B_aload_n dL_law_1112 rfl ?_
        refine B_aload_n dL_law_1113 rfl ?_
        refine B_iload_n dL_law_1114 rfl ?_
        refine B_iconst dL_law_1115 k_ic_1 ?_
        refine B_iadd dL_law_1116 ?_
        refine B_tald (t := 3) (by decide) hM dL_law_1117 (fun hM => ?_)
        refine B_aload_n dL_law_1118 rfl ?_
        refine B_iload_n dL_law_1119 rfl ?_
        refine B_iconst dL_law_1120 k_ic_2 ?_
        refine B_iadd dL_law_1121 ?_
        refine B_tald (t := 3) (by decide) hM dL_law_1122 (fun hM => ?_)
        refine B_cV2l (c_X8_get (d := 60) (Nat.le_of_ble_eq_true rfl)  hM) csV_L_141 (sc_56) vc_8 rfl hpS (Nat.le_of_ble_eq_true rfl) (Nat.le_of_ble_eq_true rfl) (Nat.le_of_ble_eq_true rfl) dL_law_1123 (fun r124 h123 hM => ?_)
        refine B_lcmp dL_law_1126 ?_
        refine B_if_eq dL_law_1127 hM (tgt := 1234) rfl (fun hM => ?_) (fun hM => ?_)
        · exact B_wk (bw_L_law_c1234  hr18 hM) (wk_1 (wk_1 (wk_1 (wk_1 wk_n))))
        · refine B_iconst dL_law_1130 k_ic_0 ?_
          exact B_iret ⟨_, rfl, hM⟩ zB_0 dL_law_1131
      refine ite_p hM (fun hc31 hM => ?_) (fun hc31 hM => ?_)
      · refine B_tin hc31 (by decide) (by decide) rfl dL_law_32 (tgt := 1132) rfl ?_
        refine B_aload_n dL_law_1132 rfl ?_
        refine B_aload_n dL_law_1133 rfl ?_
        refine B_iload_n dL_law_1134 rfl ?_
        refine B_iconst dL_law_1135 k_ic_1 ?_
        refine B_iadd dL_law_1136 ?_
        refine B_tald (t := 3) (by decide) hM dL_law_1137 (fun hM => ?_)
        refine B_aload_n dL_law_1138 rfl ?_
        refine B_iload_n dL_law_1139 rfl ?_
        refine B_iconst dL_law_1140 k_ic_2 ?_
        refine B_iadd dL_law_1141 ?_
        refine B_tald (t := 3) (by decide) hM dL_law_1142 (fun hM => ?_)
        refine B_cV2i (c_X7_does (d := 60) (Nat.le_of_ble_eq_true rfl)  hM) csV_L_142 (sc_0) vc_7 rfl hpS (Nat.le_of_ble_eq_true rfl) (Nat.le_of_ble_eq_true rfl) (Nat.le_of_ble_eq_true rfl) dL_law_1143 (fun r126 h125 hM => ?_)
        refine B_aload_n dL_law_1146 rfl ?_
        refine B_aload_n dL_law_1147 rfl ?_
        refine B_iload_n dL_law_1148 rfl ?_
        refine B_iconst dL_law_1149 k_ic_1 ?_
        refine B_iadd dL_law_1150 ?_
        refine B_tald (t := 3) (by decide) hM dL_law_1151 (fun hM => ?_)
        refine B_aload_n dL_law_1152 rfl ?_
        refine B_iload_n dL_law_1153 rfl ?_
        refine B_iconst dL_law_1154 k_ic_2 ?_
        refine B_iadd dL_law_1155 ?_
        refine B_tald (t := 3) (by decide) hM dL_law_1156 (fun hM => ?_)
        refine B_cV2i (c_X8_does_ (d := 60) (Nat.le_of_ble_eq_true rfl)  hM) csV_L_145 (sc_56) vc_8 rfl hpS (Nat.le_of_ble_eq_true rfl) (Nat.le_of_ble_eq_true rfl) (Nat.le_of_ble_eq_true rfl) dL_law_1157 (fun r128 h127 hM => ?_)
        refine B_icmp_eq dL_law_1160 hM (tgt := 1234) rfl (fun hM => ?_) (fun hM => ?_)
        · exact B_wk (bw_L_law_c1234  hr18 hM) (wk_1 (wk_1 (wk_1 (wk_1 wk_n))))
        · refine B_iconst dL_law_1163 k_ic_0 ?_
          exact B_iret ⟨_, rfl, hM⟩ zB_0 dL_law_1164
      refine ite_p hM (fun hc32 hM => ?_) (fun hc32 hM => ?_)
      · refine B_tin hc32 (by decide) (by decide) rfl dL_law_32 (tgt := 1165) rfl ?_
        refine B_aload_n dL_law_1165 rfl ?_
        refine B_aload_n dL_law_1166 rfl ?_
        refine B_iload_n dL_law_1167 rfl ?_
        refine B_iconst dL_law_1168 k_ic_1 ?_
        refine B_iadd dL_law_1169 ?_
        refine B_tald (t := 3) (by decide) hM dL_law_1170 (fun hM => ?_)
        refine B_aload_n dL_law_1171 rfl ?_
        refine B_iload_n dL_law_1172 rfl ?_
        refine B_iconst dL_law_1173 k_ic_2 ?_
        refine B_iadd dL_law_1174 ?_
        refine B_tald (t := 3) (by decide) hM dL_law_1175 (fun hM => ?_)
        refine B_aload_n dL_law_1176 rfl ?_
        refine B_iload_n dL_law_1177 rfl ?_
        refine B_iconst dL_law_1178 k_ic_3 ?_
        refine B_iadd dL_law_1179 ?_
        refine B_tald (t := 3) (by decide) hM dL_law_1180 (fun hM => ?_)
        refine B_cV3i (c_X7_into (d := 60) (Nat.le_of_ble_eq_true rfl)  hM) csV_L_146 (sc_0) vc_7 rfl hpS (Nat.le_of_ble_eq_true rfl) (Nat.le_of_ble_eq_true rfl) (Nat.le_of_ble_eq_true rfl) dL_law_1181 (fun r130 h129 hM => ?_)
        refine B_aload_n dL_law_1184 rfl ?_
        refine B_aload_n dL_law_1185 rfl ?_
        refine B_iload_n dL_law_1186 rfl ?_
        refine B_iconst dL_law_1187 k_ic_1 ?_
        refine B_iadd dL_law_1188 ?_
        refine B_tald (t := 3) (by decide) hM dL_law_1189 (fun hM => ?_)
        refine B_aload_n dL_law_1190 rfl ?_
        refine B_iload_n dL_law_1191 rfl ?_
        refine B_iconst dL_law_1192 k_ic_2 ?_
        refine B_iadd dL_law_1193 ?_
        refine B_tald (t := 3) (by decide) hM dL_law_1194 (fun hM => ?_)
        refine B_aload_n dL_law_1195 rfl ?_
        refine B_iload_n dL_law_1196 rfl ?_
        refine B_iconst dL_law_1197 k_ic_3 ?_
        refine B_iadd dL_law_1198 ?_
        refine B_tald (t := 3) (by decide) hM dL_law_1199 (fun hM => ?_)
        refine B_cV3i (c_X8_into (d := 60) (Nat.le_of_ble_eq_true rfl)  hM) csV_L_149 (sc_56) vc_8 rfl hpS (Nat.le_of_ble_eq_true rfl) (Nat.le_of_ble_eq_true rfl) (Nat.le_of_ble_eq_true rfl) dL_law_1200 (fun r132 h131 hM => ?_)
        refine B_icmp_eq dL_law_1203 hM (tgt := 1234) rfl (fun hM => ?_) (fun hM => ?_)
        · exact B_wk (bw_L_law_c1234  hr18 hM) (wk_1 (wk_1 (wk_1 (wk_1 wk_n))))
        · refine B_iconst dL_law_1206 k_ic_0 ?_
          exact B_iret ⟨_, rfl, hM⟩ zB_0 dL_law_1207
      refine ite_p hM (fun hc33 hM => ?_) (fun hc33 hM => ?_)
      · refine B_tin hc33 (by decide) (by decide) rfl dL_law_32 (tgt := 1208) rfl ?_
        refine B_aload_n dL_law_1208 rfl ?_
        refine B_cV0i (c_X7_image (d := 60) (Nat.le_of_ble_eq_true rfl)  hM) csV_L_150 (sc_0) vc_7 rfl hpS (Nat.le_of_ble_eq_true rfl) (Nat.le_of_ble_eq_true rfl) (Nat.le_of_ble_eq_true rfl) dL_law_1209 (fun r134 h133 hM => ?_)
        refine B_aload_n dL_law_1212 rfl ?_
        refine B_cV0i (c_X8_image (d := 60) (Nat.le_of_ble_eq_true rfl)  hM) csV_L_153 (sc_56) vc_8 rfl hpS (Nat.le_of_ble_eq_true rfl) (Nat.le_of_ble_eq_true rfl) (Nat.le_of_ble_eq_true rfl) dL_law_1213 (fun r136 h135 hM => ?_)
        refine B_icmp_eq dL_law_1216 hM (tgt := 1234) rfl (fun hM => ?_) (fun hM => ?_)
        · exact B_wk (bw_L_law_c1234  hr18 hM) (wk_1 (wk_1 (wk_1 (wk_1 wk_n))))
        · refine B_iconst dL_law_1219 k_ic_0 ?_
          exact B_iret ⟨_, rfl, hM⟩ zB_0 dL_law_1220
      refine ite_p hM (fun hc34 hM => ?_) (fun hc34 hM => ?_)
      · refine B_tin hc34 (by decide) (by decide) rfl dL_law_32 (tgt := 1221) rfl ?_
        refine B_aload_n dL_law_1221 rfl ?_
        refine B_cV0i (c_X7_back (d := 60) (Nat.le_of_ble_eq_true rfl)  hM) csV_L_154 (sc_0) vc_7 rfl hpS (Nat.le_of_ble_eq_true rfl) (Nat.le_of_ble_eq_true rfl) (Nat.le_of_ble_eq_true rfl) dL_law_1222 (fun r138 h137 hM => ?_)
        refine B_aload_n dL_law_1225 rfl ?_
        refine B_cV0i (c_X8_back (d := 60) (Nat.le_of_ble_eq_true rfl)  hM) csV_L_157 (sc_56) vc_8 rfl hpS (Nat.le_of_ble_eq_true rfl) (Nat.le_of_ble_eq_true rfl) (Nat.le_of_ble_eq_true rfl) dL_law_1226 (fun r140 h139 hM => ?_)
        refine B_icmp_eq dL_law_1229 hM (tgt := 1234) rfl (fun hM => ?_) (fun hM => ?_)
        · exact B_wk (bw_L_law_c1234  hr18 hM) (wk_1 (wk_1 (wk_1 (wk_1 wk_n))))
        · refine B_iconst dL_law_1232 k_ic_0 ?_
          exact B_iret ⟨_, rfl, hM⟩ zB_0 dL_law_1233
      refine B_tout (tsw_out2 (n := 35) (by decide) (lt_s (lt_s (lt_s (lt_s (lt_s (lt_s (lt_s (lt_s (lt_s (lt_s (lt_s (lt_s (lt_s (lt_s (lt_s (lt_s (lt_s (lt_s (lt_s (lt_s (lt_s (lt_s (lt_s (lt_s (lt_s (lt_s (lt_s (lt_s (lt_s (lt_s (lt_s (lt_s (lt_s (lt_s (lt_s lt_0 hc0) hc1) hc2) hc3) hc4) hc5) hc6) hc7) hc8) hc9) hc10) hc11) hc12) hc13) hc14) hc15) hc16) hc17) hc18) hc19) hc20) hc21) hc22) hc23) hc24) hc25) hc26) hc27) hc28) hc29) hc30) hc31) hc32) hc33) hc34) (by decide)) dL_law_32 (tgt := 1234) rfl ?_
      exact B_wk (bw_L_law_c1234  hr18 hM) (wk_1 (wk_1 (wk_1 (wk_1 wk_n))))
def P_L_law (F : Nat) (L : Nat) (xs : Nat → Int32) (h : AH) (K : Int32 → AH → Prop) : Prop := L_law_c18 F L xs K F (nI 0) h
set_option maxHeartbeats 4000000 in
theorem bw_L_law {l : Launch} {F : Nat} {L : Nat} {xs : Nat → Int32} {h : AH} {K : Int32 → AH → Prop} (hM : P_L_law F L xs h K) : BW RL cL_law 4 (some .boolean) l room_1 (tbS L xs) 4 [.ref (NC + 3), .ref 0, .ref 56, .null] [] 16 h (Qi K) := by
  unfold P_L_law at hM
  refine B_iconst dL_law_16 k_ic_0 ?_
  refine B_istore_n dL_law_17 (Nat.le_of_ble_eq_true rfl) ?_
  exact B_wk (bw_L_law_c18   _ _ _ hM) (wk_1 (wk_1 (wk_1 (wk_1 wk_n))))
