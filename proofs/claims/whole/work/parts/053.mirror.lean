def P_X7_askByLot (F : Nat) (h : AH) (K : Int32 → AH → Prop) : Prop := P_X2_below F (nI 6) h (fun (r2 : Int32) (h1 : AH) => P_X5_isWaiting F 13 r2 h1 (fun (r4 : Int32) (h3 : AH) => if r4 = (nI 0) then (P_X2_below F (h3 13 0) h3 (fun (r6 : Int32) (h5 : AH) => P_X2_below F (nI 3) h5 (fun (r8 : Int32) (h7 : AH) => vp_in r8 3 ∧ (P_X5_request F 13 r2 r6 (tAM r8.toNatClampNeg) h7 (fun (r10 : Int32) (h9 : AH) => K r10 h9))))) else (K (-5 : Int32) h3)))
set_option maxHeartbeats 4000000 in
theorem c_X7_askByLot {l : Launch} {d : Nat} {F : Nat} {h : AH} {K : Int32 → AH → Prop} (hd : 4 ≤ d) (hM : P_X7_askByLot F h K) : Ct l yX7_askByLot cX7_askByLot 3 (some .int) (rmD d) [.ref 0] h (Qi K) := by
  have hk1 : 1 ≤ d := by omega
  have hk_X2_below : 0 ≤ d - 1 := by omega
  have hk_X5_isWaiting : 0 ≤ d - 1 := by omega
  have hk_X5_request : 3 ≤ d - 1 := by omega
  refine Ct_ofBW (by decide) rfl (Nat.le_of_ble_eq_true rfl) ⟨rfl, rfl⟩ ?_
  show BW RX7 cX7_askByLot 3 (some .int) l (rmD d) tb0 3 [.ref 0, .null, .null] [] 0 h (Qi K)
  unfold P_X7_askByLot at hM
  refine B_aload_n dX7_askByLot_0 rfl ?_
  refine B_getR (sc_0) vc_7 (k := 5) (j := 39) rfl (by decide) inG7 ⟨rfl, rfl, rfl⟩ ww_fl_X7_38 dX7_askByLot_1 ?_
  refine B_bipush dX7_askByLot_4 k_bi_6 ?_
  refine B_cV1i (c_X2_below (d := d - 1) hk_X2_below  hM) csV_X7_230 (sc_39) vc_2 rfl hp0 (rm_f hk1) (rm_l hk1 (by decide)) (Nat.le_of_ble_eq_true rfl) dX7_askByLot_6 (fun r2 h1 hM => ?_)
  refine B_istore_n dX7_askByLot_9 (Nat.le_of_ble_eq_true rfl) ?_
  refine B_aload_n dX7_askByLot_10 rfl ?_
  refine B_getR (sc_0) vc_7 (k := 1) (j := 13) rfl (by decide) inG7 ⟨rfl, rfl, rfl⟩ ww_fl_X7_18 dX7_askByLot_11 ?_
  refine B_iload_n dX7_askByLot_14 rfl ?_
  refine B_cV1i (c_X5_isWaiting (d := d - 1) hk_X5_isWaiting isTbl_13 hM) csV_X7_111 (sc_13) vc_5 rfl hp0 (rm_f hk1) (rm_l hk1 (by decide)) (Nat.le_of_ble_eq_true rfl) dX7_askByLot_15 (fun r4 h3 hM => ?_)
  refine B_if_eq dX7_askByLot_18 hM (tgt := 24) rfl (fun hM => ?_) (fun hM => ?_)
  · refine B_aload_n dX7_askByLot_24 rfl ?_
    refine B_getR (sc_0) vc_7 (k := 5) (j := 39) rfl (by decide) inG7 ⟨rfl, rfl, rfl⟩ ww_fl_X7_38 dX7_askByLot_25 ?_
    refine B_aload_n dX7_askByLot_28 rfl ?_
    refine B_getR (sc_0) vc_7 (k := 1) (j := 13) rfl (by decide) inG7 ⟨rfl, rfl, rfl⟩ ww_fl_X7_18 dX7_askByLot_29 ?_
    refine B_getI (sc_13) vc_5 (k := 0) rfl (by decide) inG5 ⟨rfl, rfl, rfl⟩ ww_fl_X7_169 dX7_askByLot_32 ?_
    refine B_cV1i (c_X2_below (d := d - 1) hk_X2_below  hM) csV_X7_230 (sc_39) vc_2 rfl hp0 (rm_f hk1) (rm_l hk1 (by decide)) (Nat.le_of_ble_eq_true rfl) dX7_askByLot_35 (fun r6 h5 hM => ?_)
    refine B_istore_n dX7_askByLot_38 (Nat.le_of_ble_eq_true rfl) ?_
    refine B_aload_n dX7_askByLot_39 rfl ?_
    refine B_getR (sc_0) vc_7 (k := 1) (j := 13) rfl (by decide) inG7 ⟨rfl, rfl, rfl⟩ ww_fl_X7_18 dX7_askByLot_40 ?_
    refine B_iload_n dX7_askByLot_43 rfl ?_
    refine B_iload_n dX7_askByLot_44 rfl ?_
    refine B_gs2 rfl ww_fl_X7_203 dX7_askByLot_45 ?_
    refine B_aload_n dX7_askByLot_48 rfl ?_
    refine B_getR (sc_0) vc_7 (k := 5) (j := 39) rfl (by decide) inG7 ⟨rfl, rfl, rfl⟩ ww_fl_X7_38 dX7_askByLot_49 ?_
    refine B_gs2 rfl ww_fl_X7_203 dX7_askByLot_52 ?_
    refine B_tlen (t := 2) (v := (nI 3)) (by decide) rfl dX7_askByLot_55 ?_
    refine B_cV1i (c_X2_below (d := d - 1) hk_X2_below  hM) csV_X7_230 (sc_39) vc_2 rfl hp0 (rm_f hk1) (rm_l hk1 (by decide)) (Nat.le_of_ble_eq_true rfl) dX7_askByLot_56 (fun r8 h7 hM => ?_)
    refine B_tald (t := 2) (by decide) hM dX7_askByLot_59 (fun hM => ?_)
    refine B_cV3i (c_X5_request (d := d - 1) hk_X5_request isTbl_13 hM) csV_X7_98 (sc_13) vc_5 rfl hp0 (rm_f hk1) (rm_l hk1 (by decide)) (Nat.le_of_ble_eq_true rfl) dX7_askByLot_60 (fun r10 h9 hM => ?_)
    exact B_iret ⟨_, rfl, hM⟩ trivial dX7_askByLot_63
  · refine B_bipush dX7_askByLot_21 k_bi_m5 ?_
    exact B_iret ⟨_, rfl, hM⟩ trivial dX7_askByLot_23

def X7_lots_c77 (F : Nat) (rc60 : Int32 → Int32 → Int32 → Int32 → AH → Prop) (K : Int32 → AH → Prop) (x1 : Int32) (x3 : Int32) (x4 : Int32) (x5 : Int32) (h : AH) : Prop := rc60 x1 x3 x4 (x5 + (nI 1)) h
set_option maxHeartbeats 4000000 in
theorem bw_X7_lots_c77 {l : Launch} {d : Nat} {F : Nat} {rc60 : Int32 → Int32 → Int32 → Int32 → AH → Prop} {K : Int32 → AH → Prop} {x1 : Int32} {x3 : Int32} {x4 : Int32} {x5 : Int32} {h : AH} (hd : 5 ≤ d) (hr60 : ∀ (x1 : Int32) (x3 : Int32) (x4 : Int32) (x5 : Int32) (h : AH), rc60 x1 x3 x4 x5 h → BW RX7 cX7_lots 6 (some .int) l (rmD d) tb0 3 [.ref 0, .int x1, .null, .int x3, .int x4, .int x5] [] 60 h (Qi K)) (hM : X7_lots_c77 F rc60 K x1 x3 x4 x5 h) : BW RX7 cX7_lots 6 (some .int) l (rmD d) tb0 3 [.ref 0, .int x1, .null, .int x3, .int x4, .int x5] [] 77 h (Qi K) := by
  have hk1 : 1 ≤ d := by omega
  have hk_X5_copyFrom : 1 ≤ d - 1 := by omega
  have hk_X7_askByLot : 4 ≤ d - 1 := by omega
  unfold X7_lots_c77 at hM
  refine B_iinc dX7_lots_77 rfl k_ic_1 (Nat.le_of_ble_eq_true rfl) ?_
  refine B_goto (tgt := 60) dX7_lots_80 rfl ?_
  exact B_wk (hr60 _ _ _ _ _ hM) (wk_1 (wk_1 (wk_0 (wk_1 (wk_1 (wk_1 wk_n))))))
def X7_lots_c60 (F : Nat) (K : Int32 → AH → Prop) (n : Nat) : Int32 → Int32 → Int32 → Int32 → AH → Prop := Nat.rec (motive := fun _ => Int32 → Int32 → Int32 → Int32 → AH → Prop) (fun _ _ _ _ _ => False) (fun _ rc60 x1 x3 x4 x5 h => if x1 ≤ x5 then (if ¬ x3 = (nI 0) then (K (h 13 5) h) else (K x4 h)) else (P_X7_askByLot F h (fun (r2 : Int32) (h1 : AH) => if ¬ r2 = (nI 1) then (X7_lots_c77 F rc60 K x1 x3 x4 x5 h1) else (X7_lots_c77 F rc60 K x1 x3 (x4 + (nI 1)) x5 h1)))) n
theorem X7_lots_c60_s {F : Nat} {K : Int32 → AH → Prop} {n : Nat} {x1 : Int32} {x3 : Int32} {x4 : Int32} {x5 : Int32} {h : AH} : X7_lots_c60 F K (n + 1) x1 x3 x4 x5 h = (if x1 ≤ x5 then (if ¬ x3 = (nI 0) then (K (h 13 5) h) else (K x4 h)) else (P_X7_askByLot F h (fun (r2 : Int32) (h1 : AH) => if ¬ r2 = (nI 1) then (X7_lots_c77 F (X7_lots_c60 F K n) K x1 x3 x4 x5 h1) else (X7_lots_c77 F (X7_lots_c60 F K n) K x1 x3 (x4 + (nI 1)) x5 h1)))) := rfl
set_option maxHeartbeats 4000000 in
theorem bw_X7_lots_c60 {l : Launch} {d : Nat} {F : Nat} {K : Int32 → AH → Prop} (hd : 5 ≤ d) : ∀ (n : Nat) (x1 : Int32) (x3 : Int32) (x4 : Int32) (x5 : Int32) (h : AH), X7_lots_c60 F K n x1 x3 x4 x5 h → BW RX7 cX7_lots 6 (some .int) l (rmD d) tb0 3 [.ref 0, .int x1, .null, .int x3, .int x4, .int x5] [] 60 h (Qi K) := by
  have hk1 : 1 ≤ d := by omega
  have hk_X5_copyFrom : 1 ≤ d - 1 := by omega
  have hk_X7_askByLot : 4 ≤ d - 1 := by omega
  intro n
  induction n with
  | zero =>
    intro x1 x3 x4 x5 h hM
    exact hM.elim
  | succ n hr60 =>
    intro x1 x3 x4 x5 h hM
    rw [X7_lots_c60_s] at hM
    refine B_iload dX7_lots_60 rfl ?_
    refine B_iload_n dX7_lots_62 rfl ?_
    refine B_icmp_ge dX7_lots_63 hM (tgt := 83) rfl (fun hM => ?_) (fun hM => ?_)
    · refine B_iload_n dX7_lots_83 rfl ?_
      refine B_if_ne dX7_lots_84 hM (tgt := 92) rfl (fun hM => ?_) (fun hM => ?_)
      · refine B_aload_n dX7_lots_92 rfl ?_
        refine B_getR (sc_0) vc_7 (k := 1) (j := 13) rfl (by decide) inG7 ⟨rfl, rfl, rfl⟩ ww_fl_X7_18 dX7_lots_93 ?_
        refine B_getI (sc_13) vc_5 (k := 5) rfl (by decide) inG5 ⟨rfl, rfl, rfl⟩ ww_fl_X7_156 dX7_lots_96 ?_
        exact B_iret ⟨_, rfl, hM⟩ trivial dX7_lots_99
      · refine B_iload dX7_lots_87 rfl ?_
        refine B_goto (tgt := 99) dX7_lots_89 rfl ?_
        exact B_iret ⟨_, rfl, hM⟩ trivial dX7_lots_99
    · refine B_aload_n dX7_lots_66 rfl ?_
      refine B_cV0i (c_X7_askByLot (d := d - 1) hk_X7_askByLot  hM) csV_X7_227 (sc_0) vc_7 rfl hp0 (rm_f hk1) (rm_l hk1 (by decide)) (Nat.le_of_ble_eq_true rfl) dX7_lots_67 (fun r2 h1 hM => ?_)
      refine B_iconst dX7_lots_70 k_ic_1 ?_
      refine B_icmp_ne dX7_lots_71 hM (tgt := 77) rfl (fun hM => ?_) (fun hM => ?_)
      · exact B_wk (bw_X7_lots_c77 hd hr60 hM) (wk_1 (wk_1 (wk_0 (wk_1 (wk_1 (wk_1 wk_n))))))
      · refine B_iinc dX7_lots_74 rfl k_ic_1 (Nat.le_of_ble_eq_true rfl) ?_
        exact B_wk (bw_X7_lots_c77 hd hr60 hM) (wk_1 (wk_1 (wk_0 (wk_1 (wk_1 (wk_1 wk_n))))))
def P_X7_lots (F : Nat) (a1 : Int32) (a2 : Int32) (a3 : Int32) (h : AH) (K : Int32 → AH → Prop) : Prop := if a1 < (nI 1) then (K (-1 : Int32) h) else (if (nI 60) < a1 then (K (-1 : Int32) h) else (if a3 < (nI 0) then (K (-1 : Int32) h) else (if a3 ≤ (nI 1) then (if ¬ (h 1 0) = (nI 0) then (P_X5_copyFrom F 13 1 h (fun (h1 : AH) => (fun (h2 : AH) => X7_lots_c60 F K F a1 a3 (nI 0) (nI 0) h2) (up h1 39 0 a2))) else (K (-5 : Int32) h)) else (K (-1 : Int32) h))))
set_option maxHeartbeats 4000000 in
theorem c_X7_lots {l : Launch} {d : Nat} {F : Nat} {a1 : Int32} {a2 : Int32} {a3 : Int32} {h : AH} {K : Int32 → AH → Prop} (hd : 5 ≤ d) (hM : P_X7_lots F a1 a2 a3 h K) : Ct l yX7_lots cX7_lots 6 (some .int) (rmD d) [.ref 0, .int a1, .int a2, .int a3] h (Qi K) := by
  have hk1 : 1 ≤ d := by omega
  have hk_X5_copyFrom : 1 ≤ d - 1 := by omega
  have hk_X7_askByLot : 4 ≤ d - 1 := by omega
  refine Ct_ofBW (by decide) rfl (Nat.le_of_ble_eq_true rfl) ⟨rfl, rfl⟩ ?_
  show BW RX7 cX7_lots 6 (some .int) l (rmD d) tb0 3 [.ref 0, .int a1, .int a2, .int a3, .null, .null] [] 0 h (Qi K)
  unfold P_X7_lots at hM
  refine B_iload_n dX7_lots_0 rfl ?_
  refine B_iconst dX7_lots_1 k_ic_1 ?_
  refine B_icmp_lt dX7_lots_2 hM (tgt := 20) rfl (fun hM => ?_) (fun hM => ?_)
  · refine B_iconst dX7_lots_20 k_ic_m1 ?_
    exact B_iret ⟨_, rfl, hM⟩ trivial dX7_lots_21
  · refine B_iload_n dX7_lots_5 rfl ?_
    refine B_bipush dX7_lots_6 k_bi_60 ?_
    refine B_icmp_gt dX7_lots_8 hM (tgt := 20) rfl (fun hM => ?_) (fun hM => ?_)
    · refine B_iconst dX7_lots_20 k_ic_m1 ?_
      exact B_iret ⟨_, rfl, hM⟩ trivial dX7_lots_21
    · refine B_iload_n dX7_lots_11 rfl ?_
      refine B_if_lt dX7_lots_12 hM (tgt := 20) rfl (fun hM => ?_) (fun hM => ?_)
      · refine B_iconst dX7_lots_20 k_ic_m1 ?_
        exact B_iret ⟨_, rfl, hM⟩ trivial dX7_lots_21
      · refine B_iload_n dX7_lots_15 rfl ?_
        refine B_iconst dX7_lots_16 k_ic_1 ?_
        refine B_icmp_le dX7_lots_17 hM (tgt := 22) rfl (fun hM => ?_) (fun hM => ?_)
        · refine B_aload_n dX7_lots_22 rfl ?_
          refine B_getR (sc_0) vc_7 (k := 0) (j := 1) rfl (by decide) inG7 ⟨rfl, rfl, rfl⟩ ww_fl_X7_12 dX7_lots_23 ?_
          refine B_getI (sc_1) vc_5 (k := 0) rfl (by decide) inG5 ⟨rfl, rfl, rfl⟩ ww_fl_X7_169 dX7_lots_26 ?_
          refine B_if_ne dX7_lots_29 hM (tgt := 35) rfl (fun hM => ?_) (fun hM => ?_)
          · refine B_aload_n dX7_lots_35 rfl ?_
            refine B_getR (sc_0) vc_7 (k := 1) (j := 13) rfl (by decide) inG7 ⟨rfl, rfl, rfl⟩ ww_fl_X7_18 dX7_lots_36 ?_
            refine B_aload_n dX7_lots_39 rfl ?_
            refine B_getR (sc_0) vc_7 (k := 0) (j := 1) rfl (by decide) inG7 ⟨rfl, rfl, rfl⟩ ww_fl_X7_12 dX7_lots_40 ?_
            refine B_cV1v (c_X5_copyFrom (d := d - 1) hk_X5_copyFrom isTbl_13 isTbl_1 hM) csV_X7_192 (sc_13) vc_5 rfl hp0 (rm_f hk1) (rm_l hk1 (by decide)) (Nat.le_of_ble_eq_true rfl) dX7_lots_43 (fun h1 hM => ?_)
            refine B_aload_n dX7_lots_46 rfl ?_
            refine B_getR (sc_0) vc_7 (k := 5) (j := 39) rfl (by decide) inG7 ⟨rfl, rfl, rfl⟩ ww_fl_X7_38 dX7_lots_47 ?_
            refine B_iload_n dX7_lots_50 rfl ?_
            refine B_putI (fits_I _) (sc_39) vc_2 (k := 0) rfl (by decide) inG2 ⟨rfl, rfl, rfl⟩ tyX2 tyX2_ok nmX2 rfl rfl ww_fl_X7_224 dX7_lots_51 ?_
            refine B_iconst dX7_lots_54 k_ic_0 ?_
            refine B_istore dX7_lots_55 (Nat.le_of_ble_eq_true rfl) ?_
            refine B_iconst dX7_lots_57 k_ic_0 ?_
            refine B_istore dX7_lots_58 (Nat.le_of_ble_eq_true rfl) ?_
            exact B_wk (bw_X7_lots_c60 hd  _ _ _ _ _ _ hM) (wk_1 (wk_1 (wk_0 (wk_1 (wk_1 (wk_1 wk_n))))))
          · refine B_bipush dX7_lots_32 k_bi_m5 ?_
            exact B_iret ⟨_, rfl, hM⟩ trivial dX7_lots_34
        · refine B_iconst dX7_lots_20 k_ic_m1 ?_
          exact B_iret ⟨_, rfl, hM⟩ trivial dX7_lots_21

def P_X7_gateRefusal (F : Nat) (a1 : Int32) (h : AH) (K : Int32 → AH → Prop) : Prop := P_X5_isThing F 1 a1 h (fun (r2 : Int32) (h1 : AH) => if ¬ r2 = (nI 0) then (P_X5_isBare F 1 a1 h1 (fun (r4 : Int32) (h3 : AH) => if r4 = (nI 0) then (K (nI 0) h3) else (K (-11 : Int32) h3))) else (K (-1 : Int32) h1))
set_option maxHeartbeats 4000000 in
theorem c_X7_gateRefusal {l : Launch} {d : Nat} {F : Nat} {a1 : Int32} {h : AH} {K : Int32 → AH → Prop} (hd : 1 ≤ d) (hM : P_X7_gateRefusal F a1 h K) : Ct l yX7_gateRefusal cX7_gateRefusal 2 (some .int) (rmD d) [.ref 0, .int a1] h (Qi K) := by
  have hk1 : 1 ≤ d := by omega
  have hk_X5_isBare : 0 ≤ d - 1 := by omega
  have hk_X5_isThing : 0 ≤ d - 1 := by omega
  refine Ct_ofBW (by decide) rfl (Nat.le_of_ble_eq_true rfl) ⟨rfl, rfl⟩ ?_
  show BW RX7 cX7_gateRefusal 2 (some .int) l (rmD d) tb0 3 [.ref 0, .int a1] [] 0 h (Qi K)
  unfold P_X7_gateRefusal at hM
  refine B_aload_n dX7_gateRefusal_0 rfl ?_
  refine B_getR (sc_0) vc_7 (k := 0) (j := 1) rfl (by decide) inG7 ⟨rfl, rfl, rfl⟩ ww_fl_X7_12 dX7_gateRefusal_1 ?_
  refine B_iload_n dX7_gateRefusal_4 rfl ?_
  refine B_cV1i (c_X5_isThing (d := d - 1) hk_X5_isThing isTbl_1 hM) csV_X7_74 (sc_1) vc_5 rfl hp0 (rm_f hk1) (rm_l hk1 (by decide)) (Nat.le_of_ble_eq_true rfl) dX7_gateRefusal_5 (fun r2 h1 hM => ?_)
  refine B_if_ne dX7_gateRefusal_8 hM (tgt := 13) rfl (fun hM => ?_) (fun hM => ?_)
  · refine B_aload_n dX7_gateRefusal_13 rfl ?_
    refine B_getR (sc_0) vc_7 (k := 0) (j := 1) rfl (by decide) inG7 ⟨rfl, rfl, rfl⟩ ww_fl_X7_12 dX7_gateRefusal_14 ?_
    refine B_iload_n dX7_gateRefusal_17 rfl ?_
    refine B_cV1i (c_X5_isBare (d := d - 1) hk_X5_isBare isTbl_1 hM) csV_X7_246 (sc_1) vc_5 rfl hp0 (rm_f hk1) (rm_l hk1 (by decide)) (Nat.le_of_ble_eq_true rfl) dX7_gateRefusal_18 (fun r4 h3 hM => ?_)
    refine B_if_eq dX7_gateRefusal_21 hM (tgt := 29) rfl (fun hM => ?_) (fun hM => ?_)
    · refine B_iconst dX7_gateRefusal_29 k_ic_0 ?_
      exact B_iret ⟨_, rfl, hM⟩ trivial dX7_gateRefusal_30
    · refine B_bipush dX7_gateRefusal_24 k_bi_m11 ?_
      refine B_goto (tgt := 30) dX7_gateRefusal_26 rfl ?_
      exact B_iret ⟨_, rfl, hM⟩ trivial dX7_gateRefusal_30
  · refine B_iconst dX7_gateRefusal_11 k_ic_m1 ?_
    exact B_iret ⟨_, rfl, hM⟩ trivial dX7_gateRefusal_12

def X7_weighInside_c108 (F : Nat) (b : Nat) (self : Nat → Int32 → Int32 → Int32 → AH → (Int32 → AH → Prop) → Prop) (rc22 : Int32 → Int32 → Int32 → Int32 → Int32 → AH → Prop) (K : Int32 → AH → Prop) (x2 : Int32) (x3 : Int32) (x4 : Int32) (x5 : Int32) (x6 : Int32) (h : AH) : Prop := rc22 x2 x3 x4 x5 (x6 + (nI 1)) h
set_option maxHeartbeats 4000000 in
theorem bw_X7_weighInside_c108 {l : Launch} {d : Nat} {F : Nat} {b : Nat} {self : Nat → Int32 → Int32 → Int32 → AH → (Int32 → AH → Prop) → Prop} {rc22 : Int32 → Int32 → Int32 → Int32 → Int32 → AH → Prop} {K : Int32 → AH → Prop} {x2 : Int32} {x3 : Int32} {x4 : Int32} {x5 : Int32} {x6 : Int32} {h : AH} (hd : 2 ≤ d) (hb : isTbl b) (hs : ∀ (p0 : Nat) (q0 : Int32) (q1 : Int32) (q2 : Int32) (h : AH) (K : Int32 → AH → Prop) (_ : isTbl p0), self p0 q0 q1 q2 h K → Ct l yX7_weighInside cX7_weighInside 8 (some .int) (rmD (d - 1)) [.ref p0, .ref 40, .int q0, .int q1, .int q2] h (Qi K)) (hr22 : ∀ (x2 : Int32) (x3 : Int32) (x4 : Int32) (x5 : Int32) (x6 : Int32) (h : AH), rc22 x2 x3 x4 x5 x6 h → BW RX7 cX7_weighInside 8 (some .int) l (rmD d) tb0 3 [.ref b, .ref 40, .int x2, .int x3, .int x4, .int x5, .int x6, .null] [] 22 h (Qi K)) (hM : X7_weighInside_c108 F b self rc22 K x2 x3 x4 x5 x6 h) : BW RX7 cX7_weighInside 8 (some .int) l (rmD d) tb0 3 [.ref b, .ref 40, .int x2, .int x3, .int x4, .int x5, .int x6, .null] [] 108 h (Qi K) := by
  have hk1 : 1 ≤ d := by omega
  have hk_X0_enter : 1 ≤ d - 1 := by omega
  have hk_X0_leave : 0 ≤ d - 1 := by omega
  have hk_X5_countsAt : 0 ≤ d - 1 := by omega
  have hk_X5_isBare : 0 ≤ d - 1 := by omega
  unfold X7_weighInside_c108 at hM
  refine B_iinc dX7_weighInside_108 rfl k_ic_1 (Nat.le_of_ble_eq_true rfl) ?_
  refine B_goto (tgt := 22) dX7_weighInside_111 rfl ?_
  exact B_wk (hr22 _ _ _ _ _ _ hM) (wk_1 (wk_1 (wk_1 (wk_1 (wk_1 (wk_1 (wk_1 (wk_0 wk_n))))))))
def X7_weighInside_c22 (F : Nat) (b : Nat) (self : Nat → Int32 → Int32 → Int32 → AH → (Int32 → AH → Prop) → Prop) (K : Int32 → AH → Prop) (n : Nat) : Int32 → Int32 → Int32 → Int32 → Int32 → AH → Prop := Nat.rec (motive := fun _ => Int32 → Int32 → Int32 → Int32 → Int32 → AH → Prop) (fun _ _ _ _ _ _ => False) (fun _ rc22 x2 x3 x4 x5 x6 h => if (h b 0) ≤ x6 then (K x5 h) else (vp_in x6 12 ∧ (if (h (b + 1) x6.toNatClampNeg) = x3 then (P_X5_isBare F b x6 h (fun (r2 : Int32) (h1 : AH) => if r2 = (nI 0) then (P_X0_enter F x6 h1 (fun (h3 : AH) => P_X0_enter F x2 h3 (fun (h4 : AH) => self b x2 x6 (x4 + (nI 1)) h4 (fun (r6 : Int32) (h5 : AH) => P_X0_leave F x2 h5 (fun (h7 : AH) => P_X0_leave F x6 h7 (fun (h8 : AH) => if (nI 0) ≤ r6 then (X7_weighInside_c108 F b self rc22 K x2 x3 x4 (x5 + r6) x6 h8) else (K (-11 : Int32) h8))))))) else (K (-11 : Int32) h1))) else (X7_weighInside_c108 F b self rc22 K x2 x3 x4 x5 x6 h)))) n
theorem X7_weighInside_c22_s {F : Nat} {b : Nat} {self : Nat → Int32 → Int32 → Int32 → AH → (Int32 → AH → Prop) → Prop} {K : Int32 → AH → Prop} {n : Nat} {x2 : Int32} {x3 : Int32} {x4 : Int32} {x5 : Int32} {x6 : Int32} {h : AH} : X7_weighInside_c22 F b self K (n + 1) x2 x3 x4 x5 x6 h = (if (h b 0) ≤ x6 then (K x5 h) else (vp_in x6 12 ∧ (if (h (b + 1) x6.toNatClampNeg) = x3 then (P_X5_isBare F b x6 h (fun (r2 : Int32) (h1 : AH) => if r2 = (nI 0) then (P_X0_enter F x6 h1 (fun (h3 : AH) => P_X0_enter F x2 h3 (fun (h4 : AH) => self b x2 x6 (x4 + (nI 1)) h4 (fun (r6 : Int32) (h5 : AH) => P_X0_leave F x2 h5 (fun (h7 : AH) => P_X0_leave F x6 h7 (fun (h8 : AH) => if (nI 0) ≤ r6 then (X7_weighInside_c108 F b self (X7_weighInside_c22 F b self K n) K x2 x3 x4 (x5 + r6) x6 h8) else (K (-11 : Int32) h8))))))) else (K (-11 : Int32) h1))) else (X7_weighInside_c108 F b self (X7_weighInside_c22 F b self K n) K x2 x3 x4 x5 x6 h)))) := rfl
set_option maxHeartbeats 4000000 in
theorem bw_X7_weighInside_c22 {l : Launch} {d : Nat} {F : Nat} {b : Nat} {self : Nat → Int32 → Int32 → Int32 → AH → (Int32 → AH → Prop) → Prop} {K : Int32 → AH → Prop} (hd : 2 ≤ d) (hb : isTbl b) (hs : ∀ (p0 : Nat) (q0 : Int32) (q1 : Int32) (q2 : Int32) (h : AH) (K : Int32 → AH → Prop) (_ : isTbl p0), self p0 q0 q1 q2 h K → Ct l yX7_weighInside cX7_weighInside 8 (some .int) (rmD (d - 1)) [.ref p0, .ref 40, .int q0, .int q1, .int q2] h (Qi K)) : ∀ (n : Nat) (x2 : Int32) (x3 : Int32) (x4 : Int32) (x5 : Int32) (x6 : Int32) (h : AH), X7_weighInside_c22 F b self K n x2 x3 x4 x5 x6 h → BW RX7 cX7_weighInside 8 (some .int) l (rmD d) tb0 3 [.ref b, .ref 40, .int x2, .int x3, .int x4, .int x5, .int x6, .null] [] 22 h (Qi K) := by
  have hk1 : 1 ≤ d := by omega
  have hk_X0_enter : 1 ≤ d - 1 := by omega
  have hk_X0_leave : 0 ≤ d - 1 := by omega
  have hk_X5_countsAt : 0 ≤ d - 1 := by omega
  have hk_X5_isBare : 0 ≤ d - 1 := by omega
  intro n
  induction n with
  | zero =>
    intro x2 x3 x4 x5 x6 h hM
    exact hM.elim
  | succ n hr22 =>
    intro x2 x3 x4 x5 x6 h hM
    rw [X7_weighInside_c22_s] at hM
    refine B_iload dX7_weighInside_22 rfl ?_
    refine B_aload_n dX7_weighInside_24 rfl ?_
    refine B_getI (tb_0 hb) vc_5 (k := 0) rfl (by decide) inG5 ⟨rfl, rfl, rfl⟩ ww_fl_X7_169 dX7_weighInside_25 ?_
    refine B_icmp_ge dX7_weighInside_28 hM (tgt := 114) rfl (fun hM => ?_) (fun hM => ?_)
    · refine B_iload dX7_weighInside_114 rfl ?_
      exact B_iret ⟨_, rfl, hM⟩ trivial dX7_weighInside_116
    · refine B_aload_n dX7_weighInside_31 rfl ?_
      refine B_getR (tb_0 hb) vc_5 (k := 1) (j := (b + 1)) rfl (by decide) inG5 ⟨rfl, rfl, rfl⟩ ww_fl_X7_78 dX7_weighInside_32 ?_
      refine B_iload dX7_weighInside_35 rfl ?_
      refine B_iald (tb_1 hb) hM dX7_weighInside_37 (fun hM => ?_)
      refine B_iload_n dX7_weighInside_38 rfl ?_
      refine B_icmp_eq dX7_weighInside_39 hM (tgt := 45) rfl (fun hM => ?_) (fun hM => ?_)
      · refine B_aload_n dX7_weighInside_45 rfl ?_
        refine B_iload dX7_weighInside_46 rfl ?_
        refine B_cV1i (c_X5_isBare (d := d - 1) hk_X5_isBare hb hM) csV_X7_246 (tb_0 hb) vc_5 rfl hp0 (rm_f hk1) (rm_l hk1 (by decide)) (Nat.le_of_ble_eq_true rfl) dX7_weighInside_48 (fun r2 h1 hM => ?_)
        refine B_if_eq dX7_weighInside_51 hM (tgt := 57) rfl (fun hM => ?_) (fun hM => ?_)
        · refine B_aload_n dX7_weighInside_57 rfl ?_
          refine B_iload dX7_weighInside_58 rfl ?_
          refine B_cV1v (c_X0_enter (d := d - 1) hk_X0_enter  hM) csV_X7_236 (sc_40) vc_0 rfl hp0 (rm_f hk1) (rm_l hk1 (by decide)) (Nat.le_of_ble_eq_true rfl) dX7_weighInside_60 (fun h3 hM => ?_)
          refine B_aload_n dX7_weighInside_63 rfl ?_
          refine B_iload_n dX7_weighInside_64 rfl ?_
          refine B_cV1v (c_X0_enter (d := d - 1) hk_X0_enter  hM) csV_X7_236 (sc_40) vc_0 rfl hp0 (rm_f hk1) (rm_l hk1 (by decide)) (Nat.le_of_ble_eq_true rfl) dX7_weighInside_65 (fun h4 hM => ?_)
          refine B_aload_n dX7_weighInside_68 rfl ?_
          refine B_aload_n dX7_weighInside_69 rfl ?_
          refine B_iload_n dX7_weighInside_70 rfl ?_
          refine B_iload dX7_weighInside_71 rfl ?_
          refine B_iload dX7_weighInside_73 rfl ?_
          refine B_iconst dX7_weighInside_75 k_ic_1 ?_
          refine B_iadd dX7_weighInside_76 ?_
          refine B_cS5i (hs _ _ _ _ _ _ hb hM) csS_X7_239 hp0 (rm_f hk1) (rm_l hk1 (by decide)) (Nat.le_of_ble_eq_true rfl) dX7_weighInside_77 (fun r6 h5 hM => ?_)
          refine B_istore dX7_weighInside_80 (Nat.le_of_ble_eq_true rfl) ?_
          refine B_aload_n dX7_weighInside_82 rfl ?_
          refine B_iload_n dX7_weighInside_83 rfl ?_
          refine B_cV1v (c_X0_leave (d := d - 1) hk_X0_leave  hM) csV_X7_243 (sc_40) vc_0 rfl hp0 (rm_f hk1) (rm_l hk1 (by decide)) (Nat.le_of_ble_eq_true rfl) dX7_weighInside_84 (fun h7 hM => ?_)
          refine B_aload_n dX7_weighInside_87 rfl ?_
          refine B_iload dX7_weighInside_88 rfl ?_
          refine B_cV1v (c_X0_leave (d := d - 1) hk_X0_leave  hM) csV_X7_243 (sc_40) vc_0 rfl hp0 (rm_f hk1) (rm_l hk1 (by decide)) (Nat.le_of_ble_eq_true rfl) dX7_weighInside_90 (fun h8 hM => ?_)
          refine B_iload dX7_weighInside_93 rfl ?_
          refine B_if_ge dX7_weighInside_95 hM (tgt := 101) rfl (fun hM => ?_) (fun hM => ?_)
          · refine B_iload dX7_weighInside_101 rfl ?_
            refine B_iload dX7_weighInside_103 rfl ?_
            refine B_iadd dX7_weighInside_105 ?_
            refine B_istore dX7_weighInside_106 (Nat.le_of_ble_eq_true rfl) ?_
            exact B_wk (bw_X7_weighInside_c108 hd hb hs hr22 hM) (wk_1 (wk_1 (wk_1 (wk_1 (wk_1 (wk_1 (wk_1 (wk_0 wk_n))))))))
          · refine B_bipush dX7_weighInside_98 k_bi_m11 ?_
            exact B_iret ⟨_, rfl, hM⟩ trivial dX7_weighInside_100
        · refine B_bipush dX7_weighInside_54 k_bi_m11 ?_
          exact B_iret ⟨_, rfl, hM⟩ trivial dX7_weighInside_56
      · refine B_goto (tgt := 108) dX7_weighInside_42 rfl ?_
        exact B_wk (bw_X7_weighInside_c108 hd hb hs hr22 hM) (wk_1 (wk_1 (wk_1 (wk_1 (wk_1 (wk_1 (wk_1 (wk_0 wk_n))))))))
def Pb_X7_weighInside (F : Nat) (self : Nat → Int32 → Int32 → Int32 → AH → (Int32 → AH → Prop) → Prop) (b : Nat) (a1 : Int32) (a2 : Int32) (a3 : Int32) (h : AH) (K : Int32 → AH → Prop) : Prop := if a3 < (nI 12) then (P_X5_countsAt F b a2 h (fun (r2 : Int32) (h1 : AH) => X7_weighInside_c22 F b self K F a1 a2 a3 r2 (a2 + (nI 1)) h1)) else (K (-11 : Int32) h)
set_option maxHeartbeats 4000000 in
theorem cb_X7_weighInside {l : Launch} {d : Nat} {F : Nat} {b : Nat} {self : Nat → Int32 → Int32 → Int32 → AH → (Int32 → AH → Prop) → Prop} {a1 : Int32} {a2 : Int32} {a3 : Int32} {h : AH} {K : Int32 → AH → Prop} (hd : 2 ≤ d) (hb : isTbl b) (hs : ∀ (p0 : Nat) (q0 : Int32) (q1 : Int32) (q2 : Int32) (h : AH) (K : Int32 → AH → Prop) (_ : isTbl p0), self p0 q0 q1 q2 h K → Ct l yX7_weighInside cX7_weighInside 8 (some .int) (rmD (d - 1)) [.ref p0, .ref 40, .int q0, .int q1, .int q2] h (Qi K)) (hM : Pb_X7_weighInside F self b a1 a2 a3 h K) : Ct l yX7_weighInside cX7_weighInside 8 (some .int) (rmD d) [.ref b, .ref 40, .int a1, .int a2, .int a3] h (Qi K) := by
  have hk1 : 1 ≤ d := by omega
  have hk_X0_enter : 1 ≤ d - 1 := by omega
  have hk_X0_leave : 0 ≤ d - 1 := by omega
  have hk_X5_countsAt : 0 ≤ d - 1 := by omega
  have hk_X5_isBare : 0 ≤ d - 1 := by omega
  refine Ct_ofBW (by decide) rfl (Nat.le_of_ble_eq_true rfl) ⟨rfl, rfl⟩ ?_
  show BW RX7 cX7_weighInside 8 (some .int) l (rmD d) tb0 3 [.ref b, .ref 40, .int a1, .int a2, .int a3, .null, .null, .null] [] 0 h (Qi K)
  unfold Pb_X7_weighInside at hM
  refine B_iload dX7_weighInside_0 rfl ?_
  refine B_bipush dX7_weighInside_2 k_bi_12 ?_
  refine B_icmp_lt dX7_weighInside_4 hM (tgt := 10) rfl (fun hM => ?_) (fun hM => ?_)
  · refine B_aload_n dX7_weighInside_10 rfl ?_
    refine B_iload_n dX7_weighInside_11 rfl ?_
    refine B_cV1i (c_X5_countsAt (d := d - 1) hk_X5_countsAt hb hM) csV_X7_92 (tb_0 hb) vc_5 rfl hp0 (rm_f hk1) (rm_l hk1 (by decide)) (Nat.le_of_ble_eq_true rfl) dX7_weighInside_12 (fun r2 h1 hM => ?_)
    refine B_istore dX7_weighInside_15 (Nat.le_of_ble_eq_true rfl) ?_
    refine B_iload_n dX7_weighInside_17 rfl ?_
    refine B_iconst dX7_weighInside_18 k_ic_1 ?_
    refine B_iadd dX7_weighInside_19 ?_
    refine B_istore dX7_weighInside_20 (Nat.le_of_ble_eq_true rfl) ?_
    exact B_wk (bw_X7_weighInside_c22 hd hb hs  _ _ _ _ _ _ _ hM) (wk_1 (wk_1 (wk_1 (wk_1 (wk_1 (wk_1 (wk_1 (wk_0 wk_n))))))))
  · refine B_bipush dX7_weighInside_7 k_bi_m11 ?_
    exact B_iret ⟨_, rfl, hM⟩ trivial dX7_weighInside_9
def PR_X7_weighInside (F n : Nat) : Nat → Int32 → Int32 → Int32 → AH → (Int32 → AH → Prop) → Prop := Nat.rec (motive := fun _ => Nat → Int32 → Int32 → Int32 → AH → (Int32 → AH → Prop) → Prop) (fun _ _ _ _ _ _ => False) (fun _ ih => Pb_X7_weighInside F ih) n
theorem PR_X7_weighInside_s {F n : Nat} {b : Nat} {a1 : Int32} {a2 : Int32} {a3 : Int32} {h : AH} {K : Int32 → AH → Prop} : PR_X7_weighInside F (n + 1) b a1 a2 a3 h K = Pb_X7_weighInside F (PR_X7_weighInside F n) b a1 a2 a3 h K := rfl
theorem cr_X7_weighInside {l : Launch} {F : Nat} : ∀ (n d : Nat) (b : Nat) (a1 : Int32) (a2 : Int32) (a3 : Int32) (h : AH) (K : Int32 → AH → Prop) (_ : 2 + n ≤ d) (_ : isTbl b), PR_X7_weighInside F n b a1 a2 a3 h K → Ct l yX7_weighInside cX7_weighInside 8 (some .int) (rmD d) [.ref b, .ref 40, .int a1, .int a2, .int a3] h (Qi K) := by
  intro n
  induction n with
  | zero =>
    intro d b a1 a2 a3 h K hd hb hM
    exact hM.elim
  | succ n ih =>
    intro d b a1 a2 a3 h K hd hb hM
    rw [PR_X7_weighInside_s] at hM
    exact cb_X7_weighInside (by omega) hb (fun p0 q0 q1 q2 h K hp0 hM => ih (d - 1) p0 q0 q1 q2 h K (by omega) hp0 hM) hM
def P_X7_weighInside (F : Nat) (b : Nat) (a1 : Int32) (a2 : Int32) (a3 : Int32) (h : AH) (K : Int32 → AH → Prop) : Prop := PR_X7_weighInside F 16 b a1 a2 a3 h K
theorem c_X7_weighInside {l : Launch} {d F : Nat} {b : Nat} {a1 : Int32} {a2 : Int32} {a3 : Int32} {h : AH} {K : Int32 → AH → Prop} (hd : 2 + 16 ≤ d) (hb : isTbl b) (hM : P_X7_weighInside F b a1 a2 a3 h K) : Ct l yX7_weighInside cX7_weighInside 8 (some .int) (rmD d) [.ref b, .ref 40, .int a1, .int a2, .int a3] h (Qi K) := cr_X7_weighInside 16 d b a1 a2 a3 h K hd hb hM

def P_X7_weighs (F : Nat) (a1 : Int32) (h : AH) (K : Int32 → AH → Prop) : Prop := P_X7_gateRefusal F a1 h (fun (r2 : Int32) (h1 : AH) => if r2 = (nI 0) then (P_X0_enter F a1 h1 (fun (h3 : AH) => P_X7_weighInside F 1 a1 a1 (nI 0) h3 (fun (r5 : Int32) (h4 : AH) => P_X0_leave F a1 h4 (fun (h6 : AH) => K r5 h6)))) else (K r2 h1))
set_option maxHeartbeats 4000000 in
theorem c_X7_weighs {l : Launch} {d : Nat} {F : Nat} {a1 : Int32} {h : AH} {K : Int32 → AH → Prop} (hd : 19 ≤ d) (hM : P_X7_weighs F a1 h K) : Ct l yX7_weighs cX7_weighs 4 (some .int) (rmD d) [.ref 0, .int a1] h (Qi K) := by
  have hk1 : 1 ≤ d := by omega
  have hk_X0_enter : 1 ≤ d - 1 := by omega
  have hk_X0_leave : 0 ≤ d - 1 := by omega
  have hk_X7_gateRefusal : 1 ≤ d - 1 := by omega
  have hk_X7_weighInside : 18 ≤ d - 1 := by omega
  refine Ct_ofBW (by decide) rfl (Nat.le_of_ble_eq_true rfl) ⟨rfl, rfl⟩ ?_
  show BW RX7 cX7_weighs 4 (some .int) l (rmD d) tb0 3 [.ref 0, .int a1, .null, .null] [] 0 h (Qi K)
  unfold P_X7_weighs at hM
  refine B_aload_n dX7_weighs_0 rfl ?_
  refine B_iload_n dX7_weighs_1 rfl ?_
  refine B_cV1i (c_X7_gateRefusal (d := d - 1) hk_X7_gateRefusal  hM) csV_X7_233 (sc_0) vc_7 rfl hp0 (rm_f hk1) (rm_l hk1 (by decide)) (Nat.le_of_ble_eq_true rfl) dX7_weighs_2 (fun r2 h1 hM => ?_)
  refine B_istore_n dX7_weighs_5 (Nat.le_of_ble_eq_true rfl) ?_
  refine B_iload_n dX7_weighs_6 rfl ?_
  refine B_if_eq dX7_weighs_7 hM (tgt := 12) rfl (fun hM => ?_) (fun hM => ?_)
  · refine B_aload_n dX7_weighs_12 rfl ?_
    refine B_getR (sc_0) vc_7 (k := 6) (j := 40) rfl (by decide) inG7 ⟨rfl, rfl, rfl⟩ ww_fl_X7_45 dX7_weighs_13 ?_
    refine B_iload_n dX7_weighs_16 rfl ?_
    refine B_cV1v (c_X0_enter (d := d - 1) hk_X0_enter  hM) csV_X7_236 (sc_40) vc_0 rfl hp0 (rm_f hk1) (rm_l hk1 (by decide)) (Nat.le_of_ble_eq_true rfl) dX7_weighs_17 (fun h3 hM => ?_)
    refine B_aload_n dX7_weighs_20 rfl ?_
    refine B_getR (sc_0) vc_7 (k := 0) (j := 1) rfl (by decide) inG7 ⟨rfl, rfl, rfl⟩ ww_fl_X7_12 dX7_weighs_21 ?_
    refine B_aload_n dX7_weighs_24 rfl ?_
    refine B_getR (sc_0) vc_7 (k := 6) (j := 40) rfl (by decide) inG7 ⟨rfl, rfl, rfl⟩ ww_fl_X7_45 dX7_weighs_25 ?_
    refine B_iload_n dX7_weighs_28 rfl ?_
    refine B_iload_n dX7_weighs_29 rfl ?_
    refine B_iconst dX7_weighs_30 k_ic_0 ?_
    refine B_cS5i (c_X7_weighInside (d := d - 1) hk_X7_weighInside isTbl_1 hM) csS_X7_239 hp0 (rm_f hk1) (rm_l hk1 (by decide)) (Nat.le_of_ble_eq_true rfl) dX7_weighs_31 (fun r5 h4 hM => ?_)
    refine B_istore_n dX7_weighs_34 (Nat.le_of_ble_eq_true rfl) ?_
    refine B_aload_n dX7_weighs_35 rfl ?_
    refine B_getR (sc_0) vc_7 (k := 6) (j := 40) rfl (by decide) inG7 ⟨rfl, rfl, rfl⟩ ww_fl_X7_45 dX7_weighs_36 ?_
    refine B_iload_n dX7_weighs_39 rfl ?_
    refine B_cV1v (c_X0_leave (d := d - 1) hk_X0_leave  hM) csV_X7_243 (sc_40) vc_0 rfl hp0 (rm_f hk1) (rm_l hk1 (by decide)) (Nat.le_of_ble_eq_true rfl) dX7_weighs_40 (fun h6 hM => ?_)
    refine B_iload_n dX7_weighs_43 rfl ?_
    exact B_iret ⟨_, rfl, hM⟩ trivial dX7_weighs_44
  · refine B_iload_n dX7_weighs_10 rfl ?_
    exact B_iret ⟨_, rfl, hM⟩ trivial dX7_weighs_11

def X7_plunges_c75 (F : Nat) (K : Int32 → AH → Prop) (n : Nat) : Int32 → Int32 → Int32 → AH → Prop := Nat.rec (motive := fun _ => Int32 → Int32 → Int32 → AH → Prop) (fun _ _ _ _ => False) (fun _ rc75 x1 x5 x6 h => if x5 ≤ x6 then (K x5 h) else (P_X0_leave F x1 h (fun (h1 : AH) => rc75 x1 x5 (x6 + (nI 1)) h1))) n
theorem X7_plunges_c75_s {F : Nat} {K : Int32 → AH → Prop} {n : Nat} {x1 : Int32} {x5 : Int32} {x6 : Int32} {h : AH} : X7_plunges_c75 F K (n + 1) x1 x5 x6 h = (if x5 ≤ x6 then (K x5 h) else (P_X0_leave F x1 h (fun (h1 : AH) => (X7_plunges_c75 F K n) x1 x5 (x6 + (nI 1)) h1))) := rfl
set_option maxHeartbeats 4000000 in
theorem bw_X7_plunges_c75 {l : Launch} {d : Nat} {F : Nat} {K : Int32 → AH → Prop} (hd : 2 ≤ d) : ∀ (n : Nat) (x1 : Int32) (x5 : Int32) (x6 : Int32) (h : AH), X7_plunges_c75 F K n x1 x5 x6 h → BW RX7 cX7_plunges 7 (some .int) l (rmD d) tb0 3 [.ref 0, .int x1, .null, .null, .null, .int x5, .int x6] [] 75 h (Qi K) := by
  have hk1 : 1 ≤ d := by omega
  have hk_X0_enter : 1 ≤ d - 1 := by omega
  have hk_X0_leave : 0 ≤ d - 1 := by omega
  have hk_X7_gateRefusal : 1 ≤ d - 1 := by omega
  intro n
  induction n with
  | zero =>
    intro x1 x5 x6 h hM
    exact hM.elim
  | succ n hr75 =>
    intro x1 x5 x6 h hM
    rw [X7_plunges_c75_s] at hM
    refine B_iload dX7_plunges_75 rfl ?_
    refine B_iload dX7_plunges_77 rfl ?_
    refine B_icmp_ge dX7_plunges_79 hM (tgt := 96) rfl (fun hM => ?_) (fun hM => ?_)
    · refine B_iload dX7_plunges_96 rfl ?_
      exact B_iret ⟨_, rfl, hM⟩ trivial dX7_plunges_98
    · refine B_aload_n dX7_plunges_82 rfl ?_
      refine B_getR (sc_0) vc_7 (k := 6) (j := 40) rfl (by decide) inG7 ⟨rfl, rfl, rfl⟩ ww_fl_X7_45 dX7_plunges_83 ?_
      refine B_iload_n dX7_plunges_86 rfl ?_
      refine B_cV1v (c_X0_leave (d := d - 1) hk_X0_leave  hM) csV_X7_243 (sc_40) vc_0 rfl hp0 (rm_f hk1) (rm_l hk1 (by decide)) (Nat.le_of_ble_eq_true rfl) dX7_plunges_87 (fun h1 hM => ?_)
      refine B_iinc dX7_plunges_90 rfl k_ic_1 (Nat.le_of_ble_eq_true rfl) ?_
      refine B_goto (tgt := 75) dX7_plunges_93 rfl ?_
      exact B_wk (hr75 _ _ _ _ hM) (wk_1 (wk_1 (wk_0 (wk_0 (wk_0 (wk_1 (wk_1 wk_n)))))))
def X7_plunges_c51 (F : Nat) (K : Int32 → AH → Prop) (n : Nat) : Int32 → Int32 → Int32 → AH → Prop := Nat.rec (motive := fun _ => Int32 → Int32 → Int32 → AH → Prop) (fun _ _ _ _ => False) (fun _ rc51 x1 x5 x6 h => if x5 ≤ x6 then (X7_plunges_c75 F K F x1 x5 (nI 0) h) else (P_X0_enter F x1 h (fun (h1 : AH) => rc51 x1 x5 (x6 + (nI 1)) h1))) n
theorem X7_plunges_c51_s {F : Nat} {K : Int32 → AH → Prop} {n : Nat} {x1 : Int32} {x5 : Int32} {x6 : Int32} {h : AH} : X7_plunges_c51 F K (n + 1) x1 x5 x6 h = (if x5 ≤ x6 then (X7_plunges_c75 F K F x1 x5 (nI 0) h) else (P_X0_enter F x1 h (fun (h1 : AH) => (X7_plunges_c51 F K n) x1 x5 (x6 + (nI 1)) h1))) := rfl
set_option maxHeartbeats 4000000 in
theorem bw_X7_plunges_c51 {l : Launch} {d : Nat} {F : Nat} {K : Int32 → AH → Prop} (hd : 2 ≤ d) : ∀ (n : Nat) (x1 : Int32) (x5 : Int32) (x6 : Int32) (h : AH), X7_plunges_c51 F K n x1 x5 x6 h → BW RX7 cX7_plunges 7 (some .int) l (rmD d) tb0 3 [.ref 0, .int x1, .null, .null, .null, .int x5, .int x6] [] 51 h (Qi K) := by
  have hk1 : 1 ≤ d := by omega
  have hk_X0_enter : 1 ≤ d - 1 := by omega
  have hk_X0_leave : 0 ≤ d - 1 := by omega
  have hk_X7_gateRefusal : 1 ≤ d - 1 := by omega
  intro n
  induction n with
  | zero =>
    intro x1 x5 x6 h hM
    exact hM.elim
  | succ n hr51 =>
    intro x1 x5 x6 h hM
    rw [X7_plunges_c51_s] at hM
    refine B_iload dX7_plunges_51 rfl ?_
    refine B_iload dX7_plunges_53 rfl ?_
    refine B_icmp_ge dX7_plunges_55 hM (tgt := 72) rfl (fun hM => ?_) (fun hM => ?_)
    · refine B_iconst dX7_plunges_72 k_ic_0 ?_
      refine B_istore dX7_plunges_73 (Nat.le_of_ble_eq_true rfl) ?_
      exact B_wk (bw_X7_plunges_c75 hd  _ _ _ _ _ hM) (wk_1 (wk_1 (wk_0 (wk_0 (wk_0 (wk_1 (wk_1 wk_n)))))))
    · refine B_aload_n dX7_plunges_58 rfl ?_
      refine B_getR (sc_0) vc_7 (k := 6) (j := 40) rfl (by decide) inG7 ⟨rfl, rfl, rfl⟩ ww_fl_X7_45 dX7_plunges_59 ?_
      refine B_iload_n dX7_plunges_62 rfl ?_
      refine B_cV1v (c_X0_enter (d := d - 1) hk_X0_enter  hM) csV_X7_236 (sc_40) vc_0 rfl hp0 (rm_f hk1) (rm_l hk1 (by decide)) (Nat.le_of_ble_eq_true rfl) dX7_plunges_63 (fun h1 hM => ?_)
      refine B_iinc dX7_plunges_66 rfl k_ic_1 (Nat.le_of_ble_eq_true rfl) ?_
      refine B_goto (tgt := 51) dX7_plunges_69 rfl ?_
      exact B_wk (hr51 _ _ _ _ hM) (wk_1 (wk_1 (wk_0 (wk_0 (wk_0 (wk_1 (wk_1 wk_n)))))))
def X7_plunges_c46 (F : Nat) (K : Int32 → AH → Prop) (x1 : Int32) (s0 : Int32) (h : AH) : Prop := X7_plunges_c51 F K F x1 s0 (nI 0) h
set_option maxHeartbeats 4000000 in
theorem bw_X7_plunges_c46 {l : Launch} {d : Nat} {F : Nat} {K : Int32 → AH → Prop} {x1 : Int32} {s0 : Int32} {h : AH} (hd : 2 ≤ d) (hM : X7_plunges_c46 F K x1 s0 h) : BW RX7 cX7_plunges 7 (some .int) l (rmD d) tb0 3 [.ref 0, .int x1, .null, .null, .null, .null, .null] [.int s0] 46 h (Qi K) := by
  have hk1 : 1 ≤ d := by omega
  have hk_X0_enter : 1 ≤ d - 1 := by omega
  have hk_X0_leave : 0 ≤ d - 1 := by omega
  have hk_X7_gateRefusal : 1 ≤ d - 1 := by omega
  unfold X7_plunges_c46 at hM
  refine B_istore dX7_plunges_46 (Nat.le_of_ble_eq_true rfl) ?_
  refine B_iconst dX7_plunges_48 k_ic_0 ?_
  refine B_istore dX7_plunges_49 (Nat.le_of_ble_eq_true rfl) ?_
  exact B_wk (bw_X7_plunges_c51 hd  _ _ _ _ _ hM) (wk_1 (wk_1 (wk_0 (wk_0 (wk_0 (wk_1 (wk_1 wk_n)))))))
def P_X7_plunges (F : Nat) (a1 : Int32) (a2 : Int32) (a3 : Int32) (h : AH) (K : Int32 → AH → Prop) : Prop := if a2 < (nI 1) then (K (-1 : Int32) h) else (if (nI 30) < a2 then (K (-1 : Int32) h) else (if a3 < (nI 0) then (K (-1 : Int32) h) else (if a3 ≤ a2 then (P_X7_gateRefusal F a1 h (fun (r2 : Int32) (h1 : AH) => if r2 = (nI 0) then (if ¬ a3 = (nI 0) then (X7_plunges_c46 F K a1 a3 h1) else (X7_plunges_c46 F K a1 a2 h1)) else (K r2 h1))) else (K (-1 : Int32) h))))
set_option maxHeartbeats 4000000 in
theorem c_X7_plunges {l : Launch} {d : Nat} {F : Nat} {a1 : Int32} {a2 : Int32} {a3 : Int32} {h : AH} {K : Int32 → AH → Prop} (hd : 2 ≤ d) (hM : P_X7_plunges F a1 a2 a3 h K) : Ct l yX7_plunges cX7_plunges 7 (some .int) (rmD d) [.ref 0, .int a1, .int a2, .int a3] h (Qi K) := by
  have hk1 : 1 ≤ d := by omega
  have hk_X0_enter : 1 ≤ d - 1 := by omega
  have hk_X0_leave : 0 ≤ d - 1 := by omega
  have hk_X7_gateRefusal : 1 ≤ d - 1 := by omega
  refine Ct_ofBW (by decide) rfl (Nat.le_of_ble_eq_true rfl) ⟨rfl, rfl⟩ ?_
  show BW RX7 cX7_plunges 7 (some .int) l (rmD d) tb0 3 [.ref 0, .int a1, .int a2, .int a3, .null, .null, .null] [] 0 h (Qi K)
  unfold P_X7_plunges at hM
  refine B_iload_n dX7_plunges_0 rfl ?_
  refine B_iconst dX7_plunges_1 k_ic_1 ?_
  refine B_icmp_lt dX7_plunges_2 hM (tgt := 20) rfl (fun hM => ?_) (fun hM => ?_)
  · refine B_iconst dX7_plunges_20 k_ic_m1 ?_
    exact B_iret ⟨_, rfl, hM⟩ trivial dX7_plunges_21
  · refine B_iload_n dX7_plunges_5 rfl ?_
    refine B_bipush dX7_plunges_6 k_bi_30 ?_
    refine B_icmp_gt dX7_plunges_8 hM (tgt := 20) rfl (fun hM => ?_) (fun hM => ?_)
    · refine B_iconst dX7_plunges_20 k_ic_m1 ?_
      exact B_iret ⟨_, rfl, hM⟩ trivial dX7_plunges_21
    · refine B_iload_n dX7_plunges_11 rfl ?_
      refine B_if_lt dX7_plunges_12 hM (tgt := 20) rfl (fun hM => ?_) (fun hM => ?_)
      · refine B_iconst dX7_plunges_20 k_ic_m1 ?_
        exact B_iret ⟨_, rfl, hM⟩ trivial dX7_plunges_21
      · refine B_iload_n dX7_plunges_15 rfl ?_
        refine B_iload_n dX7_plunges_16 rfl ?_
        refine B_icmp_le dX7_plunges_17 hM (tgt := 22) rfl (fun hM => ?_) (fun hM => ?_)
        · refine B_aload_n dX7_plunges_22 rfl ?_
          refine B_iload_n dX7_plunges_23 rfl ?_
          refine B_cV1i (c_X7_gateRefusal (d := d - 1) hk_X7_gateRefusal  hM) csV_X7_233 (sc_0) vc_7 rfl hp0 (rm_f hk1) (rm_l hk1 (by decide)) (Nat.le_of_ble_eq_true rfl) dX7_plunges_24 (fun r2 h1 hM => ?_)
          refine B_istore dX7_plunges_27 (Nat.le_of_ble_eq_true rfl) ?_
          refine B_iload dX7_plunges_29 rfl ?_
          refine B_if_eq dX7_plunges_31 hM (tgt := 37) rfl (fun hM => ?_) (fun hM => ?_)
          · refine B_iload_n dX7_plunges_37 rfl ?_
            refine B_if_ne dX7_plunges_38 hM (tgt := 45) rfl (fun hM => ?_) (fun hM => ?_)
            · refine B_iload_n dX7_plunges_45 rfl ?_
              exact B_wk (bw_X7_plunges_c46 hd  hM) (wk_1 (wk_1 (wk_0 (wk_0 (wk_0 (wk_0 (wk_0 wk_n)))))))
            · refine B_iload_n dX7_plunges_41 rfl ?_
              refine B_goto (tgt := 46) dX7_plunges_42 rfl ?_
              exact B_wk (bw_X7_plunges_c46 hd  hM) (wk_1 (wk_1 (wk_0 (wk_0 (wk_0 (wk_0 (wk_0 wk_n)))))))
          · refine B_iload dX7_plunges_34 rfl ?_
            exact B_iret ⟨_, rfl, hM⟩ trivial dX7_plunges_36
        · refine B_iconst dX7_plunges_20 k_ic_m1 ?_
          exact B_iret ⟨_, rfl, hM⟩ trivial dX7_plunges_21

def P_X7_bell (F : Nat) (a1 : Int32) (a2 : Int32) (h : AH) (K : Int32 → AH → Prop) : Prop := if a2 < (nI 0) then (K (-1 : Int32) h) else (if a2 ≤ (nI 3) then (P_X7_gateRefusal F a1 h (fun (r2 : Int32) (h1 : AH) => if r2 = (nI 0) then (if a2 ≤ (nI 1) then (P_X0_enter F a1 h1 (fun (h3 : AH) => P_X0_leave F a1 h3 (fun (h4 : AH) => K (nI 1) h4))) else (K (-12 : Int32) h1)) else (K r2 h1))) else (K (-1 : Int32) h))
set_option maxHeartbeats 4000000 in
theorem c_X7_bell {l : Launch} {d : Nat} {F : Nat} {a1 : Int32} {a2 : Int32} {h : AH} {K : Int32 → AH → Prop} (hd : 2 ≤ d) (hM : P_X7_bell F a1 a2 h K) : Ct l yX7_bell cX7_bell 4 (some .int) (rmD d) [.ref 0, .int a1, .int a2] h (Qi K) := by
  have hk1 : 1 ≤ d := by omega
  have hk_X0_enter : 1 ≤ d - 1 := by omega
  have hk_X0_leave : 0 ≤ d - 1 := by omega
  have hk_X7_gateRefusal : 1 ≤ d - 1 := by omega
  refine Ct_ofBW (by decide) rfl (Nat.le_of_ble_eq_true rfl) ⟨rfl, rfl⟩ ?_
  show BW RX7 cX7_bell 4 (some .int) l (rmD d) tb0 3 [.ref 0, .int a1, .int a2, .null] [] 0 h (Qi K)
  unfold P_X7_bell at hM
  refine B_iload_n dX7_bell_0 rfl ?_
  refine B_if_lt dX7_bell_1 hM (tgt := 9) rfl (fun hM => ?_) (fun hM => ?_)
  · refine B_iconst dX7_bell_9 k_ic_m1 ?_
    exact B_iret ⟨_, rfl, hM⟩ trivial dX7_bell_10
  · refine B_iload_n dX7_bell_4 rfl ?_
    refine B_iconst dX7_bell_5 k_ic_3 ?_
    refine B_icmp_le dX7_bell_6 hM (tgt := 11) rfl (fun hM => ?_) (fun hM => ?_)
    · refine B_aload_n dX7_bell_11 rfl ?_
      refine B_iload_n dX7_bell_12 rfl ?_
      refine B_cV1i (c_X7_gateRefusal (d := d - 1) hk_X7_gateRefusal  hM) csV_X7_233 (sc_0) vc_7 rfl hp0 (rm_f hk1) (rm_l hk1 (by decide)) (Nat.le_of_ble_eq_true rfl) dX7_bell_13 (fun r2 h1 hM => ?_)
      refine B_istore_n dX7_bell_16 (Nat.le_of_ble_eq_true rfl) ?_
      refine B_iload_n dX7_bell_17 rfl ?_
      refine B_if_eq dX7_bell_18 hM (tgt := 23) rfl (fun hM => ?_) (fun hM => ?_)
      · refine B_iload_n dX7_bell_23 rfl ?_
        refine B_iconst dX7_bell_24 k_ic_1 ?_
        refine B_icmp_le dX7_bell_25 hM (tgt := 31) rfl (fun hM => ?_) (fun hM => ?_)
        · refine B_aload_n dX7_bell_31 rfl ?_
          refine B_getR (sc_0) vc_7 (k := 6) (j := 40) rfl (by decide) inG7 ⟨rfl, rfl, rfl⟩ ww_fl_X7_45 dX7_bell_32 ?_
          refine B_iload_n dX7_bell_35 rfl ?_
          refine B_cV1v (c_X0_enter (d := d - 1) hk_X0_enter  hM) csV_X7_236 (sc_40) vc_0 rfl hp0 (rm_f hk1) (rm_l hk1 (by decide)) (Nat.le_of_ble_eq_true rfl) dX7_bell_36 (fun h3 hM => ?_)
          refine B_aload_n dX7_bell_39 rfl ?_
          refine B_getR (sc_0) vc_7 (k := 6) (j := 40) rfl (by decide) inG7 ⟨rfl, rfl, rfl⟩ ww_fl_X7_45 dX7_bell_40 ?_
          refine B_iload_n dX7_bell_43 rfl ?_
          refine B_cV1v (c_X0_leave (d := d - 1) hk_X0_leave  hM) csV_X7_243 (sc_40) vc_0 rfl hp0 (rm_f hk1) (rm_l hk1 (by decide)) (Nat.le_of_ble_eq_true rfl) dX7_bell_44 (fun h4 hM => ?_)
          refine B_iconst dX7_bell_47 k_ic_1 ?_
          exact B_iret ⟨_, rfl, hM⟩ trivial dX7_bell_48
        · refine B_bipush dX7_bell_28 k_bi_m12 ?_
          exact B_iret ⟨_, rfl, hM⟩ trivial dX7_bell_30
      · refine B_iload_n dX7_bell_21 rfl ?_
        exact B_iret ⟨_, rfl, hM⟩ trivial dX7_bell_22
    · refine B_iconst dX7_bell_9 k_ic_m1 ?_
      exact B_iret ⟨_, rfl, hM⟩ trivial dX7_bell_10

def P_X7_gate (F : Nat) (a1 : Int32) (a2 : Int32) (h : AH) (K : Int32 → AH → Prop) : Prop := if a2 < (nI 0) then (K (-1 : Int32) h) else (if a2 ≤ (nI 2) then (P_X7_gateRefusal F a1 h (fun (r2 : Int32) (h1 : AH) => if r2 = (nI 0) then (if a2 = (nI 0) then (vp_in a1 12 ∧ (K (h1 41 a1.toNatClampNeg) h1)) else (if a2 = (nI 1) then (vp_in a1 12 ∧ (K (h1 42 a1.toNatClampNeg) h1)) else (vp_in a1 12 ∧ (K (h1 43 a1.toNatClampNeg) h1)))) else (K r2 h1))) else (K (-1 : Int32) h))
set_option maxHeartbeats 4000000 in
theorem c_X7_gate {l : Launch} {d : Nat} {F : Nat} {a1 : Int32} {a2 : Int32} {h : AH} {K : Int32 → AH → Prop} (hd : 2 ≤ d) (hM : P_X7_gate F a1 a2 h K) : Ct l yX7_gate cX7_gate 4 (some .int) (rmD d) [.ref 0, .int a1, .int a2] h (Qi K) := by
  have hk1 : 1 ≤ d := by omega
  have hk_X7_gateRefusal : 1 ≤ d - 1 := by omega
  refine Ct_ofBW (by decide) rfl (Nat.le_of_ble_eq_true rfl) ⟨rfl, rfl⟩ ?_
  show BW RX7 cX7_gate 4 (some .int) l (rmD d) tb0 3 [.ref 0, .int a1, .int a2, .null] [] 0 h (Qi K)
  unfold P_X7_gate at hM
  refine B_iload_n dX7_gate_0 rfl ?_
  refine B_if_lt dX7_gate_1 hM (tgt := 9) rfl (fun hM => ?_) (fun hM => ?_)
  · refine B_iconst dX7_gate_9 k_ic_m1 ?_
    exact B_iret ⟨_, rfl, hM⟩ trivial dX7_gate_10
  · refine B_iload_n dX7_gate_4 rfl ?_
    refine B_iconst dX7_gate_5 k_ic_2 ?_
    refine B_icmp_le dX7_gate_6 hM (tgt := 11) rfl (fun hM => ?_) (fun hM => ?_)
    · refine B_aload_n dX7_gate_11 rfl ?_
      refine B_iload_n dX7_gate_12 rfl ?_
      refine B_cV1i (c_X7_gateRefusal (d := d - 1) hk_X7_gateRefusal  hM) csV_X7_233 (sc_0) vc_7 rfl hp0 (rm_f hk1) (rm_l hk1 (by decide)) (Nat.le_of_ble_eq_true rfl) dX7_gate_13 (fun r2 h1 hM => ?_)
      refine B_istore_n dX7_gate_16 (Nat.le_of_ble_eq_true rfl) ?_
      refine B_iload_n dX7_gate_17 rfl ?_
      refine B_if_eq dX7_gate_18 hM (tgt := 23) rfl (fun hM => ?_) (fun hM => ?_)
      · refine B_iload_n dX7_gate_23 rfl ?_
        refine ite_p hM (fun hc0 hM => ?_) (fun hc0 hM => ?_)
        · refine B_look (off := 28) (by decide) (by rw [hc0] <;> rfl) dX7_gate_24 (tgt := 52) rfl ?_
          refine B_aload_n dX7_gate_52 rfl ?_
          refine B_getR (sc_0) vc_7 (k := 6) (j := 40) rfl (by decide) inG7 ⟨rfl, rfl, rfl⟩ ww_fl_X7_45 dX7_gate_53 ?_
          refine B_getR (sc_40) vc_0 (k := 0) (j := 41) rfl (by decide) inG0 ⟨rfl, rfl, rfl⟩ ww_fl_X7_249 dX7_gate_56 ?_
          refine B_iload_n dX7_gate_59 rfl ?_
          refine B_iald (sc_41) hM dX7_gate_60 (fun hM => ?_)
          exact B_iret ⟨_, rfl, hM⟩ trivial dX7_gate_61
        refine ite_p hM (fun hc1 hM => ?_) (fun hc1 hM => ?_)
        · refine B_look (off := 38) (by decide) (by rw [hc1] <;> rfl) dX7_gate_24 (tgt := 62) rfl ?_
          refine B_aload_n dX7_gate_62 rfl ?_
          refine B_getR (sc_0) vc_7 (k := 6) (j := 40) rfl (by decide) inG7 ⟨rfl, rfl, rfl⟩ ww_fl_X7_45 dX7_gate_63 ?_
          refine B_getR (sc_40) vc_0 (k := 1) (j := 42) rfl (by decide) inG0 ⟨rfl, rfl, rfl⟩ ww_fl_X7_252 dX7_gate_66 ?_
          refine B_iload_n dX7_gate_69 rfl ?_
          refine B_iald (sc_42) hM dX7_gate_70 (fun hM => ?_)
          exact B_iret ⟨_, rfl, hM⟩ trivial dX7_gate_71
        refine B_look (off := 48) (by decide) (by show Op.lookupswitch.offset [(0, 28), (1, 38)] 48 (a2).toInt = 48; rw [Op.lookupswitch.offset_cons, if_neg (lk_ne (by decide) hc0)]; rw [Op.lookupswitch.offset_cons, if_neg (lk_ne (by decide) hc1)]; rfl) dX7_gate_24 (tgt := 72) rfl ?_
        refine B_aload_n dX7_gate_72 rfl ?_
        refine B_getR (sc_0) vc_7 (k := 6) (j := 40) rfl (by decide) inG7 ⟨rfl, rfl, rfl⟩ ww_fl_X7_45 dX7_gate_73 ?_
        refine B_getR (sc_40) vc_0 (k := 2) (j := 43) rfl (by decide) inG0 ⟨rfl, rfl, rfl⟩ ww_fl_X7_255 dX7_gate_76 ?_
        refine B_iload_n dX7_gate_79 rfl ?_
        refine B_iald (sc_43) hM dX7_gate_80 (fun hM => ?_)
        exact B_iret ⟨_, rfl, hM⟩ trivial dX7_gate_81
      · refine B_iload_n dX7_gate_21 rfl ?_
        exact B_iret ⟨_, rfl, hM⟩ trivial dX7_gate_22
    · refine B_iconst dX7_gate_9 k_ic_m1 ?_
      exact B_iret ⟨_, rfl, hM⟩ trivial dX7_gate_10

def P_X7_feed (F : Nat) (a1 : Int32) (h : AH) (K : Int32 → AH → Prop) : Prop := if a1 < (nI 1) then (K (-1 : Int32) h) else (if a1 ≤ (nI 127) then (if (h 44 0) < (nI 120) then (P_X6_append F a1 h (fun (h1 : AH) => K (h1 44 0) h1)) else (K (-3 : Int32) h)) else (K (-1 : Int32) h))
set_option maxHeartbeats 4000000 in
theorem c_X7_feed {l : Launch} {d : Nat} {F : Nat} {a1 : Int32} {h : AH} {K : Int32 → AH → Prop} (hd : 1 ≤ d) (hM : P_X7_feed F a1 h K) : Ct l yX7_feed cX7_feed 2 (some .int) (rmD d) [.ref 0, .int a1] h (Qi K) := by
  have hk1 : 1 ≤ d := by omega
  have hk_X6_append : 0 ≤ d - 1 := by omega
  refine Ct_ofBW (by decide) rfl (Nat.le_of_ble_eq_true rfl) ⟨rfl, rfl⟩ ?_
  show BW RX7 cX7_feed 2 (some .int) l (rmD d) tb0 3 [.ref 0, .int a1] [] 0 h (Qi K)
  unfold P_X7_feed at hM
  refine B_iload_n dX7_feed_0 rfl ?_
  refine B_iconst dX7_feed_1 k_ic_1 ?_
  refine B_icmp_lt dX7_feed_2 hM (tgt := 11) rfl (fun hM => ?_) (fun hM => ?_)
  · refine B_iconst dX7_feed_11 k_ic_m1 ?_
    exact B_iret ⟨_, rfl, hM⟩ trivial dX7_feed_12
  · refine B_iload_n dX7_feed_5 rfl ?_
    refine B_bipush dX7_feed_6 k_bi_127 ?_
    refine B_icmp_le dX7_feed_8 hM (tgt := 13) rfl (fun hM => ?_) (fun hM => ?_)
    · refine B_aload_n dX7_feed_13 rfl ?_
      refine B_getR (sc_0) vc_7 (k := 7) (j := 44) rfl (by decide) inG7 ⟨rfl, rfl, rfl⟩ ww_fl_X7_52 dX7_feed_14 ?_
      refine B_getI (sc_44) vc_6 (k := 0) rfl (by decide) inG6 ⟨rfl, rfl, rfl⟩ ww_fl_X7_178 dX7_feed_17 ?_
      refine B_bipush dX7_feed_20 k_bi_120 ?_
      refine B_icmp_lt dX7_feed_22 hM (tgt := 28) rfl (fun hM => ?_) (fun hM => ?_)
      · refine B_aload_n dX7_feed_28 rfl ?_
        refine B_getR (sc_0) vc_7 (k := 7) (j := 44) rfl (by decide) inG7 ⟨rfl, rfl, rfl⟩ ww_fl_X7_52 dX7_feed_29 ?_
        refine B_iload_n dX7_feed_32 rfl ?_
        refine B_cV1v (c_X6_append (d := d - 1) hk_X6_append  hM) csV_X7_258 (sc_44) vc_6 rfl hp0 (rm_f hk1) (rm_l hk1 (by decide)) (Nat.le_of_ble_eq_true rfl) dX7_feed_33 (fun h1 hM => ?_)
        refine B_aload_n dX7_feed_36 rfl ?_
        refine B_getR (sc_0) vc_7 (k := 7) (j := 44) rfl (by decide) inG7 ⟨rfl, rfl, rfl⟩ ww_fl_X7_52 dX7_feed_37 ?_
        refine B_getI (sc_44) vc_6 (k := 0) rfl (by decide) inG6 ⟨rfl, rfl, rfl⟩ ww_fl_X7_178 dX7_feed_40 ?_
        exact B_iret ⟨_, rfl, hM⟩ trivial dX7_feed_43
      · refine B_bipush dX7_feed_25 k_bi_m3 ?_
        exact B_iret ⟨_, rfl, hM⟩ trivial dX7_feed_27
    · refine B_iconst dX7_feed_11 k_ic_m1 ?_
      exact B_iret ⟨_, rfl, hM⟩ trivial dX7_feed_12

def X7_reads_c43 (F : Nat) (K : Int32 → AH → Prop) (n : Nat) : Int32 → Int32 → AH → Prop := Nat.rec (motive := fun _ => Int32 → Int32 → AH → Prop) (fun _ _ _ => False) (fun _ rc43 x1 x2 h => if x1 ≤ x2 then (P_X5_copyFrom F 1 13 h (fun (h1 : AH) => (fun (h2 : AH) => K x1 h2) (up h1 1 13 ((h1 1 13) + (h1 13 13))))) else (P_X6_perform F 13 x2 h (fun (r4 : Int32) (h3 : AH) => if (nI 0) ≤ r4 then (rc43 x1 (x2 + (nI 1)) h3) else (vp_in x2 61 ∧ (K ((-2000 : Int32) - (h3 46 x2.toNatClampNeg)) h3))))) n
theorem X7_reads_c43_s {F : Nat} {K : Int32 → AH → Prop} {n : Nat} {x1 : Int32} {x2 : Int32} {h : AH} : X7_reads_c43 F K (n + 1) x1 x2 h = (if x1 ≤ x2 then (P_X5_copyFrom F 1 13 h (fun (h1 : AH) => (fun (h2 : AH) => K x1 h2) (up h1 1 13 ((h1 1 13) + (h1 13 13))))) else (P_X6_perform F 13 x2 h (fun (r4 : Int32) (h3 : AH) => if (nI 0) ≤ r4 then ((X7_reads_c43 F K n) x1 (x2 + (nI 1)) h3) else (vp_in x2 61 ∧ (K ((-2000 : Int32) - (h3 46 x2.toNatClampNeg)) h3))))) := rfl
set_option maxHeartbeats 4000000 in
theorem bw_X7_reads_c43 {l : Launch} {d : Nat} {F : Nat} {K : Int32 → AH → Prop} (hd : 6 ≤ d) : ∀ (n : Nat) (x1 : Int32) (x2 : Int32) (h : AH), X7_reads_c43 F K n x1 x2 h → BW RX7 cX7_reads 3 (some .int) l (rmD d) tb0 3 [.ref 0, .int x1, .int x2] [] 43 h (Qi K) := by
  have hk1 : 1 ≤ d := by omega
  have hk_X5_copyFrom : 1 ≤ d - 1 := by omega
  have hk_X6_parse : 4 ≤ d - 1 := by omega
  have hk_X6_perform : 5 ≤ d - 1 := by omega
  intro n
  induction n with
  | zero =>
    intro x1 x2 h hM
    exact hM.elim
  | succ n hr43 =>
    intro x1 x2 h hM
    rw [X7_reads_c43_s] at hM
    refine B_iload_n dX7_reads_43 rfl ?_
    refine B_iload_n dX7_reads_44 rfl ?_
    refine B_icmp_ge dX7_reads_45 hM (tgt := 83) rfl (fun hM => ?_) (fun hM => ?_)
    · refine B_aload_n dX7_reads_83 rfl ?_
      refine B_getR (sc_0) vc_7 (k := 0) (j := 1) rfl (by decide) inG7 ⟨rfl, rfl, rfl⟩ ww_fl_X7_12 dX7_reads_84 ?_
      refine B_aload_n dX7_reads_87 rfl ?_
      refine B_getR (sc_0) vc_7 (k := 1) (j := 13) rfl (by decide) inG7 ⟨rfl, rfl, rfl⟩ ww_fl_X7_18 dX7_reads_88 ?_
      refine B_cV1v (c_X5_copyFrom (d := d - 1) hk_X5_copyFrom isTbl_1 isTbl_13 hM) csV_X7_192 (sc_1) vc_5 rfl hp0 (rm_f hk1) (rm_l hk1 (by decide)) (Nat.le_of_ble_eq_true rfl) dX7_reads_91 (fun h1 hM => ?_)
      refine B_aload_n dX7_reads_94 rfl ?_
      refine B_getR (sc_0) vc_7 (k := 0) (j := 1) rfl (by decide) inG7 ⟨rfl, rfl, rfl⟩ ww_fl_X7_12 dX7_reads_95 ?_
      refine B_dupR dX7_reads_98 ?_
      refine B_getI (sc_1) vc_5 (k := 13) rfl (by decide) inG5 ⟨rfl, rfl, rfl⟩ ww_fl_X7_182 dX7_reads_99 ?_
      refine B_aload_n dX7_reads_102 rfl ?_
      refine B_getR (sc_0) vc_7 (k := 1) (j := 13) rfl (by decide) inG7 ⟨rfl, rfl, rfl⟩ ww_fl_X7_18 dX7_reads_103 ?_
      refine B_getI (sc_13) vc_5 (k := 13) rfl (by decide) inG5 ⟨rfl, rfl, rfl⟩ ww_fl_X7_182 dX7_reads_106 ?_
      refine B_iadd dX7_reads_109 ?_
      refine B_putI (fits_I _) (sc_1) vc_5 (k := 13) rfl (by decide) inG5 ⟨rfl, rfl, rfl⟩ tyX5 tyX5_ok nmX5 rfl rfl ww_fl_X7_182 dX7_reads_110 ?_
      refine B_iload_n dX7_reads_113 rfl ?_
      exact B_iret ⟨_, rfl, hM⟩ trivial dX7_reads_114
    · refine B_aload_n dX7_reads_48 rfl ?_
      refine B_getR (sc_0) vc_7 (k := 7) (j := 44) rfl (by decide) inG7 ⟨rfl, rfl, rfl⟩ ww_fl_X7_52 dX7_reads_49 ?_
      refine B_iload_n dX7_reads_52 rfl ?_
      refine B_aload_n dX7_reads_53 rfl ?_
      refine B_getR (sc_0) vc_7 (k := 1) (j := 13) rfl (by decide) inG7 ⟨rfl, rfl, rfl⟩ ww_fl_X7_18 dX7_reads_54 ?_
      refine B_cV2i (c_X6_perform (d := d - 1) hk_X6_perform isTbl_13 hM) csV_X7_264 (sc_44) vc_6 rfl hp0 (rm_f hk1) (rm_l hk1 (by decide)) (Nat.le_of_ble_eq_true rfl) dX7_reads_57 (fun r4 h3 hM => ?_)
      refine B_if_ge dX7_reads_60 hM (tgt := 77) rfl (fun hM => ?_) (fun hM => ?_)
      · refine B_iinc dX7_reads_77 rfl k_ic_1 (Nat.le_of_ble_eq_true rfl) ?_
        refine B_goto (tgt := 43) dX7_reads_80 rfl ?_
        exact B_wk (hr43 _ _ _ hM) (wk_1 (wk_1 (wk_1 wk_n)))
      · refine B_sipush dX7_reads_63 k_si_m2000 ?_
        refine B_aload_n dX7_reads_66 rfl ?_
        refine B_getR (sc_0) vc_7 (k := 7) (j := 44) rfl (by decide) inG7 ⟨rfl, rfl, rfl⟩ ww_fl_X7_52 dX7_reads_67 ?_
        refine B_getR (sc_44) vc_6 (k := 3) (j := 46) rfl (by decide) inG6 ⟨rfl, rfl, rfl⟩ ww_fl_X7_268 dX7_reads_70 ?_
        refine B_iload_n dX7_reads_73 rfl ?_
        refine B_iald (sc_46) hM dX7_reads_74 (fun hM => ?_)
        refine B_isub dX7_reads_75 ?_
        exact B_iret ⟨_, rfl, hM⟩ trivial dX7_reads_76
def P_X7_reads (F : Nat) (h : AH) (K : Int32 → AH → Prop) : Prop := P_X6_parse F h (fun (r2 : Int32) (h1 : AH) => (fun (h3 : AH) => if (nI 0) ≤ r2 then (P_X5_copyFrom F 13 1 h3 (fun (h4 : AH) => (fun (h5 : AH) => X7_reads_c43 F K F r2 (nI 0) h5) (up h4 13 13 (nI 0)))) else (K r2 h3)) (up h1 44 0 (nI 0)))
set_option maxHeartbeats 4000000 in
theorem c_X7_reads {l : Launch} {d : Nat} {F : Nat} {h : AH} {K : Int32 → AH → Prop} (hd : 6 ≤ d) (hM : P_X7_reads F h K) : Ct l yX7_reads cX7_reads 3 (some .int) (rmD d) [.ref 0] h (Qi K) := by
  have hk1 : 1 ≤ d := by omega
  have hk_X5_copyFrom : 1 ≤ d - 1 := by omega
  have hk_X6_parse : 4 ≤ d - 1 := by omega
  have hk_X6_perform : 5 ≤ d - 1 := by omega
  refine Ct_ofBW (by decide) rfl (Nat.le_of_ble_eq_true rfl) ⟨rfl, rfl⟩ ?_
  show BW RX7 cX7_reads 3 (some .int) l (rmD d) tb0 3 [.ref 0, .null, .null] [] 0 h (Qi K)
  unfold P_X7_reads at hM
  refine B_aload_n dX7_reads_0 rfl ?_
  refine B_getR (sc_0) vc_7 (k := 7) (j := 44) rfl (by decide) inG7 ⟨rfl, rfl, rfl⟩ ww_fl_X7_52 dX7_reads_1 ?_
  refine B_cV0i (c_X6_parse (d := d - 1) hk_X6_parse  hM) csV_X7_261 (sc_44) vc_6 rfl hp0 (rm_f hk1) (rm_l hk1 (by decide)) (Nat.le_of_ble_eq_true rfl) dX7_reads_4 (fun r2 h1 hM => ?_)
  refine B_istore_n dX7_reads_7 (Nat.le_of_ble_eq_true rfl) ?_
  refine B_aload_n dX7_reads_8 rfl ?_
  refine B_getR (sc_0) vc_7 (k := 7) (j := 44) rfl (by decide) inG7 ⟨rfl, rfl, rfl⟩ ww_fl_X7_52 dX7_reads_9 ?_
  refine B_iconst dX7_reads_12 k_ic_0 ?_
  refine B_putI (fits_I _) (sc_44) vc_6 (k := 0) rfl (by decide) inG6 ⟨rfl, rfl, rfl⟩ tyX6 tyX6_ok nmX6 rfl rfl ww_fl_X7_178 dX7_reads_13 ?_
  refine B_iload_n dX7_reads_16 rfl ?_
  refine B_if_ge dX7_reads_17 hM (tgt := 22) rfl (fun hM => ?_) (fun hM => ?_)
  · refine B_aload_n dX7_reads_22 rfl ?_
    refine B_getR (sc_0) vc_7 (k := 1) (j := 13) rfl (by decide) inG7 ⟨rfl, rfl, rfl⟩ ww_fl_X7_18 dX7_reads_23 ?_
    refine B_aload_n dX7_reads_26 rfl ?_
    refine B_getR (sc_0) vc_7 (k := 0) (j := 1) rfl (by decide) inG7 ⟨rfl, rfl, rfl⟩ ww_fl_X7_12 dX7_reads_27 ?_
    refine B_cV1v (c_X5_copyFrom (d := d - 1) hk_X5_copyFrom isTbl_13 isTbl_1 hM) csV_X7_192 (sc_13) vc_5 rfl hp0 (rm_f hk1) (rm_l hk1 (by decide)) (Nat.le_of_ble_eq_true rfl) dX7_reads_30 (fun h4 hM => ?_)
    refine B_aload_n dX7_reads_33 rfl ?_
    refine B_getR (sc_0) vc_7 (k := 1) (j := 13) rfl (by decide) inG7 ⟨rfl, rfl, rfl⟩ ww_fl_X7_18 dX7_reads_34 ?_
    refine B_iconst dX7_reads_37 k_ic_0 ?_
    refine B_putI (fits_I _) (sc_13) vc_5 (k := 13) rfl (by decide) inG5 ⟨rfl, rfl, rfl⟩ tyX5 tyX5_ok nmX5 rfl rfl ww_fl_X7_182 dX7_reads_38 ?_
    refine B_iconst dX7_reads_41 k_ic_0 ?_
    refine B_istore_n dX7_reads_42 (Nat.le_of_ble_eq_true rfl) ?_
    exact B_wk (bw_X7_reads_c43 hd  _ _ _ _ hM) (wk_1 (wk_1 (wk_1 wk_n)))
  · refine B_iload_n dX7_reads_20 rfl ?_
    exact B_iret ⟨_, rfl, hM⟩ trivial dX7_reads_21

def X7_spells_c31 (F : Nat) (rc10 : Int32 → AH → Prop) (rc23 : Int32 → Int32 → AH → Prop) (K : Int32 → AH → Prop) (n : Nat) : Int32 → Int32 → Int32 → AH → Prop := Nat.rec (motive := fun _ => Int32 → Int32 → Int32 → AH → Prop) (fun _ _ _ _ => False) (fun _ rc31 x1 x2 x3 h => if (nI 5) < x3 then (rc23 x1 (x2 + (nI 1)) h) else (P_X5_cell F x2 x1 x3 h (fun (r2 : Int32) (h1 : AH) => vp_in r2 360 ∧ (P_X3_putHold F x1 x2 x3 (h1 4 r2.toNatClampNeg) h1 (fun (h3 : AH) => rc31 x1 x2 (x3 + (nI 1)) h3))))) n
theorem X7_spells_c31_s {F : Nat} {rc10 : Int32 → AH → Prop} {rc23 : Int32 → Int32 → AH → Prop} {K : Int32 → AH → Prop} {n : Nat} {x1 : Int32} {x2 : Int32} {x3 : Int32} {h : AH} : X7_spells_c31 F rc10 rc23 K (n + 1) x1 x2 x3 h = (if (nI 5) < x3 then (rc23 x1 (x2 + (nI 1)) h) else (P_X5_cell F x2 x1 x3 h (fun (r2 : Int32) (h1 : AH) => vp_in r2 360 ∧ (P_X3_putHold F x1 x2 x3 (h1 4 r2.toNatClampNeg) h1 (fun (h3 : AH) => (X7_spells_c31 F rc10 rc23 K n) x1 x2 (x3 + (nI 1)) h3))))) := rfl
set_option maxHeartbeats 4000000 in
theorem bw_X7_spells_c31 {l : Launch} {d : Nat} {F : Nat} {rc10 : Int32 → AH → Prop} {rc23 : Int32 → Int32 → AH → Prop} {K : Int32 → AH → Prop} (hd : 3 ≤ d) (hr10 : ∀ (x1 : Int32) (h : AH), rc10 x1 h → BW RX7 cX7_spells 4 (some .int) l (rmD d) tb0 3 [.ref 0, .int x1, .null, .null] [] 10 h (Qi K)) (hr23 : ∀ (x1 : Int32) (x2 : Int32) (h : AH), rc23 x1 x2 h → BW RX7 cX7_spells 4 (some .int) l (rmD d) tb0 3 [.ref 0, .int x1, .int x2, .null] [] 23 h (Qi K)) : ∀ (n : Nat) (x1 : Int32) (x2 : Int32) (x3 : Int32) (h : AH), X7_spells_c31 F rc10 rc23 K n x1 x2 x3 h → BW RX7 cX7_spells 4 (some .int) l (rmD d) tb0 3 [.ref 0, .int x1, .int x2, .int x3] [] 31 h (Qi K) := by
  have hk1 : 1 ≤ d := by omega
  have hk_X3_putHold : 2 ≤ d - 1 := by omega
  have hk_X5_cell : 0 ≤ d - 1 := by omega
  intro n
  induction n with
  | zero =>
    intro x1 x2 x3 h hM
    exact hM.elim
  | succ n hr31 =>
    intro x1 x2 x3 h hM
    rw [X7_spells_c31_s] at hM
    refine B_iload_n dX7_spells_31 rfl ?_
    refine B_iconst dX7_spells_32 k_ic_5 ?_
    refine B_icmp_gt dX7_spells_33 hM (tgt := 66) rfl (fun hM => ?_) (fun hM => ?_)
    · refine B_iinc dX7_spells_66 rfl k_ic_1 (Nat.le_of_ble_eq_true rfl) ?_
      refine B_goto (tgt := 23) dX7_spells_69 rfl ?_
      exact B_wk (hr23 _ _ _ hM) (wk_1 (wk_1 (wk_1 (wk_0 wk_n))))
    · refine B_aload_n dX7_spells_36 rfl ?_
      refine B_getR (sc_0) vc_7 (k := 8) (j := 51) rfl (by decide) inG7 ⟨rfl, rfl, rfl⟩ ww_fl_X7_59 dX7_spells_37 ?_
      refine B_iload_n dX7_spells_40 rfl ?_
      refine B_iload_n dX7_spells_41 rfl ?_
      refine B_iload_n dX7_spells_42 rfl ?_
      refine B_aload_n dX7_spells_43 rfl ?_
      refine B_getR (sc_0) vc_7 (k := 0) (j := 1) rfl (by decide) inG7 ⟨rfl, rfl, rfl⟩ ww_fl_X7_12 dX7_spells_44 ?_
      refine B_getR (sc_1) vc_5 (k := 3) (j := 4) rfl (by decide) inG5 ⟨rfl, rfl, rfl⟩ ww_fl_X7_131 dX7_spells_47 ?_
      refine B_iload_n dX7_spells_50 rfl ?_
      refine B_iload_n dX7_spells_51 rfl ?_
      refine B_iload_n dX7_spells_52 rfl ?_
      refine B_cS3i (c_X5_cell (d := d - 1) hk_X5_cell  hM) csS_X7_134 hp0 (rm_f hk1) (rm_l hk1 (by decide)) (Nat.le_of_ble_eq_true rfl) dX7_spells_53 (fun r2 h1 hM => ?_)
      refine B_iald (sc_4) hM dX7_spells_56 (fun hM => ?_)
      refine B_cV4v (c_X3_putHold (d := d - 1) hk_X3_putHold  hM) csV_X7_270 (sc_51) vc_3 rfl hp0 (rm_f hk1) (rm_l hk1 (by decide)) (Nat.le_of_ble_eq_true rfl) dX7_spells_57 (fun h3 hM => ?_)
      refine B_iinc dX7_spells_60 rfl k_ic_1 (Nat.le_of_ble_eq_true rfl) ?_
      refine B_goto (tgt := 31) dX7_spells_63 rfl ?_
      exact B_wk (hr31 _ _ _ _ hM) (wk_1 (wk_1 (wk_1 (wk_1 wk_n))))
def X7_spells_c23 (F : Nat) (rc10 : Int32 → AH → Prop) (K : Int32 → AH → Prop) (n : Nat) : Int32 → Int32 → AH → Prop := Nat.rec (motive := fun _ => Int32 → Int32 → AH → Prop) (fun _ _ _ => False) (fun _ rc23 x1 x2 h => if (nI 6) ≤ x2 then (rc10 (x1 + (nI 1)) h) else (X7_spells_c31 F rc10 rc23 K F x1 x2 (nI 1) h)) n
theorem X7_spells_c23_s {F : Nat} {rc10 : Int32 → AH → Prop} {K : Int32 → AH → Prop} {n : Nat} {x1 : Int32} {x2 : Int32} {h : AH} : X7_spells_c23 F rc10 K (n + 1) x1 x2 h = (if (nI 6) ≤ x2 then (rc10 (x1 + (nI 1)) h) else (X7_spells_c31 F rc10 (X7_spells_c23 F rc10 K n) K F x1 x2 (nI 1) h)) := rfl
set_option maxHeartbeats 4000000 in
theorem bw_X7_spells_c23 {l : Launch} {d : Nat} {F : Nat} {rc10 : Int32 → AH → Prop} {K : Int32 → AH → Prop} (hd : 3 ≤ d) (hr10 : ∀ (x1 : Int32) (h : AH), rc10 x1 h → BW RX7 cX7_spells 4 (some .int) l (rmD d) tb0 3 [.ref 0, .int x1, .null, .null] [] 10 h (Qi K)) : ∀ (n : Nat) (x1 : Int32) (x2 : Int32) (h : AH), X7_spells_c23 F rc10 K n x1 x2 h → BW RX7 cX7_spells 4 (some .int) l (rmD d) tb0 3 [.ref 0, .int x1, .int x2, .null] [] 23 h (Qi K) := by
  have hk1 : 1 ≤ d := by omega
  have hk_X3_putHold : 2 ≤ d - 1 := by omega
  have hk_X5_cell : 0 ≤ d - 1 := by omega
  intro n
  induction n with
  | zero =>
    intro x1 x2 h hM
    exact hM.elim
  | succ n hr23 =>
    intro x1 x2 h hM
    rw [X7_spells_c23_s] at hM
    refine B_iload_n dX7_spells_23 rfl ?_
    refine B_bipush dX7_spells_24 k_bi_6 ?_
    refine B_icmp_ge dX7_spells_26 hM (tgt := 72) rfl (fun hM => ?_) (fun hM => ?_)
    · refine B_iinc dX7_spells_72 rfl k_ic_1 (Nat.le_of_ble_eq_true rfl) ?_
      refine B_goto (tgt := 10) dX7_spells_75 rfl ?_
      exact B_wk (hr10 _ _ hM) (wk_1 (wk_1 (wk_0 (wk_0 wk_n))))
    · refine B_iconst dX7_spells_29 k_ic_1 ?_
      refine B_istore_n dX7_spells_30 (Nat.le_of_ble_eq_true rfl) ?_
      exact B_wk (bw_X7_spells_c31 hd hr10 hr23 _ _ _ _ _ hM) (wk_1 (wk_1 (wk_1 (wk_1 wk_n))))
def X7_spells_c10 (F : Nat) (K : Int32 → AH → Prop) (n : Nat) : Int32 → AH → Prop := Nat.rec (motive := fun _ => Int32 → AH → Prop) (fun _ _ => False) (fun _ rc10 x1 h => if (h 1 0) ≤ x1 then (K (h 51 0) h) else (X7_spells_c23 F rc10 K F x1 (nI 0) h)) n
theorem X7_spells_c10_s {F : Nat} {K : Int32 → AH → Prop} {n : Nat} {x1 : Int32} {h : AH} : X7_spells_c10 F K (n + 1) x1 h = (if (h 1 0) ≤ x1 then (K (h 51 0) h) else (X7_spells_c23 F (X7_spells_c10 F K n) K F x1 (nI 0) h)) := rfl
set_option maxHeartbeats 4000000 in
theorem bw_X7_spells_c10 {l : Launch} {d : Nat} {F : Nat} {K : Int32 → AH → Prop} (hd : 3 ≤ d) : ∀ (n : Nat) (x1 : Int32) (h : AH), X7_spells_c10 F K n x1 h → BW RX7 cX7_spells 4 (some .int) l (rmD d) tb0 3 [.ref 0, .int x1, .null, .null] [] 10 h (Qi K) := by
  have hk1 : 1 ≤ d := by omega
  have hk_X3_putHold : 2 ≤ d - 1 := by omega
  have hk_X5_cell : 0 ≤ d - 1 := by omega
  intro n
  induction n with
  | zero =>
    intro x1 h hM
    exact hM.elim
  | succ n hr10 =>
    intro x1 h hM
    rw [X7_spells_c10_s] at hM
    refine B_iload_n dX7_spells_10 rfl ?_
    refine B_aload_n dX7_spells_11 rfl ?_
    refine B_getR (sc_0) vc_7 (k := 0) (j := 1) rfl (by decide) inG7 ⟨rfl, rfl, rfl⟩ ww_fl_X7_12 dX7_spells_12 ?_
    refine B_getI (sc_1) vc_5 (k := 0) rfl (by decide) inG5 ⟨rfl, rfl, rfl⟩ ww_fl_X7_169 dX7_spells_15 ?_
    refine B_icmp_ge dX7_spells_18 hM (tgt := 78) rfl (fun hM => ?_) (fun hM => ?_)
    · refine B_aload_n dX7_spells_78 rfl ?_
      refine B_getR (sc_0) vc_7 (k := 8) (j := 51) rfl (by decide) inG7 ⟨rfl, rfl, rfl⟩ ww_fl_X7_59 dX7_spells_79 ?_
      refine B_getI (sc_51) vc_3 (k := 0) rfl (by decide) inG3 ⟨rfl, rfl, rfl⟩ ww_fl_X7_181 dX7_spells_82 ?_
      exact B_iret ⟨_, rfl, hM⟩ trivial dX7_spells_85
    · refine B_iconst dX7_spells_21 k_ic_0 ?_
      refine B_istore_n dX7_spells_22 (Nat.le_of_ble_eq_true rfl) ?_
      exact B_wk (bw_X7_spells_c23 hd hr10 _ _ _ _ hM) (wk_1 (wk_1 (wk_1 (wk_0 wk_n))))
def P_X7_spells (F : Nat) (h : AH) (K : Int32 → AH → Prop) : Prop := (fun (h1 : AH) => X7_spells_c10 F K F (nI 0) h1) (up h 51 0 (nI 0))
set_option maxHeartbeats 4000000 in
theorem c_X7_spells {l : Launch} {d : Nat} {F : Nat} {h : AH} {K : Int32 → AH → Prop} (hd : 3 ≤ d) (hM : P_X7_spells F h K) : Ct l yX7_spells cX7_spells 4 (some .int) (rmD d) [.ref 0] h (Qi K) := by
  have hk1 : 1 ≤ d := by omega
  have hk_X3_putHold : 2 ≤ d - 1 := by omega
  have hk_X5_cell : 0 ≤ d - 1 := by omega
  refine Ct_ofBW (by decide) rfl (Nat.le_of_ble_eq_true rfl) ⟨rfl, rfl⟩ ?_
  show BW RX7 cX7_spells 4 (some .int) l (rmD d) tb0 3 [.ref 0, .null, .null, .null] [] 0 h (Qi K)
  unfold P_X7_spells at hM
  refine B_aload_n dX7_spells_0 rfl ?_
  refine B_getR (sc_0) vc_7 (k := 8) (j := 51) rfl (by decide) inG7 ⟨rfl, rfl, rfl⟩ ww_fl_X7_59 dX7_spells_1 ?_
  refine B_iconst dX7_spells_4 k_ic_0 ?_
  refine B_putI (fits_I _) (sc_51) vc_3 (k := 0) rfl (by decide) inG3 ⟨rfl, rfl, rfl⟩ tyX3 tyX3_ok nmX3 rfl rfl ww_fl_X7_181 dX7_spells_5 ?_
  refine B_iconst dX7_spells_8 k_ic_0 ?_
  refine B_istore_n dX7_spells_9 (Nat.le_of_ble_eq_true rfl) ?_
  exact B_wk (bw_X7_spells_c10 hd  _ _ _ hM) (wk_1 (wk_1 (wk_0 (wk_0 wk_n))))

def P_X7_paper (F : Nat) (a1 : Int32) (h : AH) (K : Int32 → AH → Prop) : Prop := if (nI 0) ≤ a1 then (if (h 51 0) ≤ a1 then (K (-2 : Int32) h) else (vp_in a1 3960 ∧ (K (h 52 a1.toNatClampNeg) h))) else (K (-1 : Int32) h)
set_option maxHeartbeats 4000000 in
theorem c_X7_paper {l : Launch} {d : Nat} {F : Nat} {a1 : Int32} {h : AH} {K : Int32 → AH → Prop} (hd : 0 ≤ d) (hM : P_X7_paper F a1 h K) : Ct l yX7_paper cX7_paper 2 (some .int) (rmD d) [.ref 0, .int a1] h (Qi K) := by
  refine Ct_ofBW (by decide) rfl (Nat.le_of_ble_eq_true rfl) ⟨rfl, rfl⟩ ?_
  show BW RX7 cX7_paper 2 (some .int) l (rmD d) tb0 3 [.ref 0, .int a1] [] 0 h (Qi K)
  unfold P_X7_paper at hM
  refine B_iload_n dX7_paper_0 rfl ?_
  refine B_if_ge dX7_paper_1 hM (tgt := 6) rfl (fun hM => ?_) (fun hM => ?_)
  · refine B_iload_n dX7_paper_6 rfl ?_
    refine B_aload_n dX7_paper_7 rfl ?_
    refine B_getR (sc_0) vc_7 (k := 8) (j := 51) rfl (by decide) inG7 ⟨rfl, rfl, rfl⟩ ww_fl_X7_59 dX7_paper_8 ?_
    refine B_getI (sc_51) vc_3 (k := 0) rfl (by decide) inG3 ⟨rfl, rfl, rfl⟩ ww_fl_X7_181 dX7_paper_11 ?_
    refine B_icmp_ge dX7_paper_14 hM (tgt := 29) rfl (fun hM => ?_) (fun hM => ?_)
    · refine B_bipush dX7_paper_29 k_bi_m2 ?_
      exact B_iret ⟨_, rfl, hM⟩ trivial dX7_paper_31
    · refine B_aload_n dX7_paper_17 rfl ?_
      refine B_getR (sc_0) vc_7 (k := 8) (j := 51) rfl (by decide) inG7 ⟨rfl, rfl, rfl⟩ ww_fl_X7_59 dX7_paper_18 ?_
      refine B_getR (sc_51) vc_3 (k := 1) (j := 52) rfl (by decide) inG3 ⟨rfl, rfl, rfl⟩ ww_fl_X7_274 dX7_paper_21 ?_
      refine B_iload_n dX7_paper_24 rfl ?_
      refine B_bald (sc_52) hM dX7_paper_25 (fun hM => ?_)
      refine B_goto (tgt := 31) dX7_paper_26 rfl ?_
      exact B_iret ⟨_, rfl, hM⟩ trivial dX7_paper_31
  · refine B_iconst dX7_paper_4 k_ic_m1 ?_
    exact B_iret ⟨_, rfl, hM⟩ trivial dX7_paper_5

def P_X7_list (F : Nat) (a1 : Int32) (a2 : Int32) (h : AH) (K : Int32 → AH → Prop) : Prop := P_X1_isList F a1 h (fun (r2 : Int32) (h1 : AH) => if r2 = (nI 0) then (K (-1 : Int32) h1) else (if a2 ≤ (nI 36) then (if (nI 0) ≤ a2 then (P_X1_make F a1 a2 h1 (fun (h3 : AH) => K (nI 1) h3)) else (K (-14 : Int32) h1)) else (K (-1 : Int32) h1)))
set_option maxHeartbeats 4000000 in
theorem c_X7_list {l : Launch} {d : Nat} {F : Nat} {a1 : Int32} {a2 : Int32} {h : AH} {K : Int32 → AH → Prop} (hd : 2 ≤ d) (hM : P_X7_list F a1 a2 h K) : Ct l yX7_list cX7_list 3 (some .int) (rmD d) [.ref 0, .int a1, .int a2] h (Qi K) := by
  have hk1 : 1 ≤ d := by omega
  have hk_X1_isList : 0 ≤ d - 1 := by omega
  have hk_X1_make : 1 ≤ d - 1 := by omega
  refine Ct_ofBW (by decide) rfl (Nat.le_of_ble_eq_true rfl) ⟨rfl, rfl⟩ ?_
  show BW RX7 cX7_list 3 (some .int) l (rmD d) tb0 3 [.ref 0, .int a1, .int a2] [] 0 h (Qi K)
  unfold P_X7_list at hM
  refine B_iload_n dX7_list_0 rfl ?_
  refine B_cS1i (c_X1_isList (d := d - 1) hk_X1_isList  hM) csS_X7_278 hp0 (rm_f hk1) (rm_l hk1 (by decide)) (Nat.le_of_ble_eq_true rfl) dX7_list_1 (fun r2 h1 hM => ?_)
  refine B_if_eq dX7_list_4 hM (tgt := 13) rfl (fun hM => ?_) (fun hM => ?_)
  · refine B_iconst dX7_list_13 k_ic_m1 ?_
    exact B_iret ⟨_, rfl, hM⟩ trivial dX7_list_14
  · refine B_iload_n dX7_list_7 rfl ?_
    refine B_bipush dX7_list_8 k_bi_36 ?_
    refine B_icmp_le dX7_list_10 hM (tgt := 15) rfl (fun hM => ?_) (fun hM => ?_)
    · refine B_iload_n dX7_list_15 rfl ?_
      refine B_if_ge dX7_list_16 hM (tgt := 22) rfl (fun hM => ?_) (fun hM => ?_)
      · refine B_aload_n dX7_list_22 rfl ?_
        refine B_getR (sc_0) vc_7 (k := 9) (j := 53) rfl (by decide) inG7 ⟨rfl, rfl, rfl⟩ ww_fl_X7_66 dX7_list_23 ?_
        refine B_iload_n dX7_list_26 rfl ?_
        refine B_iload_n dX7_list_27 rfl ?_
        refine B_cV2v (c_X1_make (d := d - 1) hk_X1_make  hM) csV_X7_281 (sc_53) vc_1 rfl hp0 (rm_f hk1) (rm_l hk1 (by decide)) (Nat.le_of_ble_eq_true rfl) dX7_list_28 (fun h3 hM => ?_)
        refine B_iconst dX7_list_31 k_ic_1 ?_
        exact B_iret ⟨_, rfl, hM⟩ trivial dX7_list_32
      · refine B_bipush dX7_list_19 k_bi_m14 ?_
        exact B_iret ⟨_, rfl, hM⟩ trivial dX7_list_21
    · refine B_iconst dX7_list_13 k_ic_m1 ?_
      exact B_iret ⟨_, rfl, hM⟩ trivial dX7_list_14

def P_X7_set (F : Nat) (a1 : Int32) (a2 : Int32) (a3 : Int32) (h : AH) (K : Int32 → AH → Prop) : Prop := P_X1_isList F a1 h (fun (r2 : Int32) (h1 : AH) => if ¬ r2 = (nI 0) then (P_X1_holdsRow F a1 h1 (fun (r4 : Int32) (h3 : AH) => if ¬ r4 = (nI 0) then (P_X1_hasPlace F a1 a2 h3 (fun (r6 : Int32) (h5 : AH) => if ¬ r6 = (nI 0) then (P_X1_cell F a1 a2 h5 (fun (r8 : Int32) (h7 : AH) => vp_in r8 108 ∧ ((fun (h9 : AH) => K (nI 1) h9) (up h7 54 r8.toNatClampNeg a3)))) else (K (-13 : Int32) h5))) else (K (-11 : Int32) h3))) else (K (-1 : Int32) h1))
set_option maxHeartbeats 4000000 in
theorem c_X7_set {l : Launch} {d : Nat} {F : Nat} {a1 : Int32} {a2 : Int32} {a3 : Int32} {h : AH} {K : Int32 → AH → Prop} (hd : 1 ≤ d) (hM : P_X7_set F a1 a2 a3 h K) : Ct l yX7_set cX7_set 4 (some .int) (rmD d) [.ref 0, .int a1, .int a2, .int a3] h (Qi K) := by
  have hk1 : 1 ≤ d := by omega
  have hk_X1_cell : 0 ≤ d - 1 := by omega
  have hk_X1_hasPlace : 0 ≤ d - 1 := by omega
  have hk_X1_holdsRow : 0 ≤ d - 1 := by omega
  have hk_X1_isList : 0 ≤ d - 1 := by omega
  refine Ct_ofBW (by decide) rfl (Nat.le_of_ble_eq_true rfl) ⟨rfl, rfl⟩ ?_
  show BW RX7 cX7_set 4 (some .int) l (rmD d) tb0 3 [.ref 0, .int a1, .int a2, .int a3] [] 0 h (Qi K)
  unfold P_X7_set at hM
  refine B_iload_n dX7_set_0 rfl ?_
  refine B_cS1i (c_X1_isList (d := d - 1) hk_X1_isList  hM) csS_X7_278 hp0 (rm_f hk1) (rm_l hk1 (by decide)) (Nat.le_of_ble_eq_true rfl) dX7_set_1 (fun r2 h1 hM => ?_)
  refine B_if_ne dX7_set_4 hM (tgt := 9) rfl (fun hM => ?_) (fun hM => ?_)
  · refine B_aload_n dX7_set_9 rfl ?_
    refine B_getR (sc_0) vc_7 (k := 9) (j := 53) rfl (by decide) inG7 ⟨rfl, rfl, rfl⟩ ww_fl_X7_66 dX7_set_10 ?_
    refine B_iload_n dX7_set_13 rfl ?_
    refine B_cV1i (c_X1_holdsRow (d := d - 1) hk_X1_holdsRow  hM) csV_X7_285 (sc_53) vc_1 rfl hp0 (rm_f hk1) (rm_l hk1 (by decide)) (Nat.le_of_ble_eq_true rfl) dX7_set_14 (fun r4 h3 hM => ?_)
    refine B_if_ne dX7_set_17 hM (tgt := 23) rfl (fun hM => ?_) (fun hM => ?_)
    · refine B_aload_n dX7_set_23 rfl ?_
      refine B_getR (sc_0) vc_7 (k := 9) (j := 53) rfl (by decide) inG7 ⟨rfl, rfl, rfl⟩ ww_fl_X7_66 dX7_set_24 ?_
      refine B_iload_n dX7_set_27 rfl ?_
      refine B_iload_n dX7_set_28 rfl ?_
      refine B_cV2i (c_X1_hasPlace (d := d - 1) hk_X1_hasPlace  hM) csV_X7_288 (sc_53) vc_1 rfl hp0 (rm_f hk1) (rm_l hk1 (by decide)) (Nat.le_of_ble_eq_true rfl) dX7_set_29 (fun r6 h5 hM => ?_)
      refine B_if_ne dX7_set_32 hM (tgt := 38) rfl (fun hM => ?_) (fun hM => ?_)
      · refine B_aload_n dX7_set_38 rfl ?_
        refine B_getR (sc_0) vc_7 (k := 9) (j := 53) rfl (by decide) inG7 ⟨rfl, rfl, rfl⟩ ww_fl_X7_66 dX7_set_39 ?_
        refine B_getR (sc_53) vc_1 (k := 0) (j := 54) rfl (by decide) inG1 ⟨rfl, rfl, rfl⟩ ww_fl_X7_291 dX7_set_42 ?_
        refine B_iload_n dX7_set_45 rfl ?_
        refine B_iload_n dX7_set_46 rfl ?_
        refine B_cS2i (c_X1_cell (d := d - 1) hk_X1_cell  hM) csS_X7_294 hp0 (rm_f hk1) (rm_l hk1 (by decide)) (Nat.le_of_ble_eq_true rfl) dX7_set_47 (fun r8 h7 hM => ?_)
        refine B_iload_n dX7_set_50 rfl ?_
        refine B_iast (sc_54) hM dX7_set_51 (fun hM => ?_)
        refine B_iconst dX7_set_52 k_ic_1 ?_
        exact B_iret ⟨_, rfl, hM⟩ trivial dX7_set_53
      · refine B_bipush dX7_set_35 k_bi_m13 ?_
        exact B_iret ⟨_, rfl, hM⟩ trivial dX7_set_37
    · refine B_bipush dX7_set_20 k_bi_m11 ?_
      exact B_iret ⟨_, rfl, hM⟩ trivial dX7_set_22
  · refine B_iconst dX7_set_7 k_ic_m1 ?_
    exact B_iret ⟨_, rfl, hM⟩ trivial dX7_set_8

def P_X7_get (F : Nat) (a1 : Int32) (a2 : Int32) (h : AH) (K : Int64 → AH → Prop) : Prop := P_X1_isList F a1 h (fun (r2 : Int32) (h1 : AH) => if r2 = (nI 0) then (K (-9223372036854775808 : Int64) h1) else (P_X1_hasPlace F a1 a2 h1 (fun (r4 : Int32) (h3 : AH) => if ¬ r4 = (nI 0) then (P_X1_cell F a1 a2 h3 (fun (r6 : Int32) (h5 : AH) => vp_in r6 108 ∧ (K ((h5 54 r6.toNatClampNeg)).toInt64 h5))) else (K (-9223372036854775808 : Int64) h3))))
set_option maxHeartbeats 4000000 in
theorem c_X7_get {l : Launch} {d : Nat} {F : Nat} {a1 : Int32} {a2 : Int32} {h : AH} {K : Int64 → AH → Prop} (hd : 1 ≤ d) (hM : P_X7_get F a1 a2 h K) : Ct l yX7_get cX7_get 3 (some .long) (rmD d) [.ref 0, .int a1, .int a2] h (Ql K) := by
  have hk1 : 1 ≤ d := by omega
  have hk_X1_cell : 0 ≤ d - 1 := by omega
  have hk_X1_hasPlace : 0 ≤ d - 1 := by omega
  have hk_X1_isList : 0 ≤ d - 1 := by omega
  refine Ct_ofBW (by decide) rfl (Nat.le_of_ble_eq_true rfl) ⟨rfl, rfl⟩ ?_
  show BW RX7 cX7_get 3 (some .long) l (rmD d) tb0 3 [.ref 0, .int a1, .int a2] [] 0 h (Ql K)
  unfold P_X7_get at hM
  refine B_iload_n dX7_get_0 rfl ?_
  refine B_cS1i (c_X1_isList (d := d - 1) hk_X1_isList  hM) csS_X7_278 hp0 (rm_f hk1) (rm_l hk1 (by decide)) (Nat.le_of_ble_eq_true rfl) dX7_get_1 (fun r2 h1 hM => ?_)
  refine B_if_eq dX7_get_4 hM (tgt := 19) rfl (fun hM => ?_) (fun hM => ?_)
  · refine B_ldc2 dX7_get_19 ww_cst_X7_296 ?_
    exact B_lret ⟨_, rfl, hM⟩ trivial dX7_get_22
  · refine B_aload_n dX7_get_7 rfl ?_
    refine B_getR (sc_0) vc_7 (k := 9) (j := 53) rfl (by decide) inG7 ⟨rfl, rfl, rfl⟩ ww_fl_X7_66 dX7_get_8 ?_
    refine B_iload_n dX7_get_11 rfl ?_
    refine B_iload_n dX7_get_12 rfl ?_
    refine B_cV2i (c_X1_hasPlace (d := d - 1) hk_X1_hasPlace  hM) csV_X7_288 (sc_53) vc_1 rfl hp0 (rm_f hk1) (rm_l hk1 (by decide)) (Nat.le_of_ble_eq_true rfl) dX7_get_13 (fun r4 h3 hM => ?_)
    refine B_if_ne dX7_get_16 hM (tgt := 23) rfl (fun hM => ?_) (fun hM => ?_)
    · refine B_aload_n dX7_get_23 rfl ?_
      refine B_getR (sc_0) vc_7 (k := 9) (j := 53) rfl (by decide) inG7 ⟨rfl, rfl, rfl⟩ ww_fl_X7_66 dX7_get_24 ?_
      refine B_getR (sc_53) vc_1 (k := 0) (j := 54) rfl (by decide) inG1 ⟨rfl, rfl, rfl⟩ ww_fl_X7_291 dX7_get_27 ?_
      refine B_iload_n dX7_get_30 rfl ?_
      refine B_iload_n dX7_get_31 rfl ?_
      refine B_cS2i (c_X1_cell (d := d - 1) hk_X1_cell  hM) csS_X7_294 hp0 (rm_f hk1) (rm_l hk1 (by decide)) (Nat.le_of_ble_eq_true rfl) dX7_get_32 (fun r6 h5 hM => ?_)
      refine B_iald (sc_54) hM dX7_get_35 (fun hM => ?_)
      refine B_i2l dX7_get_36 ?_
      exact B_lret ⟨_, rfl, hM⟩ trivial dX7_get_37
    · refine B_ldc2 dX7_get_19 ww_cst_X7_296 ?_
      exact B_lret ⟨_, rfl, hM⟩ trivial dX7_get_22

def X7_does_c103 (F : Nat) (rc32 : Int32 → Int32 → Int32 → AH → Prop) (K : Int32 → AH → Prop) (x1 : Int32) (x3 : Int32) (x4 : Int32) (h : AH) : Prop := rc32 x1 x3 (x4 + (nI 3)) h
set_option maxHeartbeats 4000000 in
theorem bw_X7_does_c103 {l : Launch} {d : Nat} {F : Nat} {rc32 : Int32 → Int32 → Int32 → AH → Prop} {K : Int32 → AH → Prop} {x1 : Int32} {x3 : Int32} {x4 : Int32} {h : AH} (hd : 4 ≤ d) (hr32 : ∀ (x1 : Int32) (x3 : Int32) (x4 : Int32) (h : AH), rc32 x1 x3 x4 h → BW RX7 cX7_does 6 (some .int) l (rmD d) tb0 3 [.ref 0, .int x1, .null, .int x3, .int x4, .null] [] 32 h (Qi K)) (hM : X7_does_c103 F rc32 K x1 x3 x4 h) : BW RX7 cX7_does 6 (some .int) l (rmD d) tb0 3 [.ref 0, .int x1, .null, .int x3, .int x4, .null] [] 103 h (Qi K) := by
  have hk1 : 1 ≤ d := by omega
  have hk_X1_cell : 0 ≤ d - 1 := by omega
  have hk_X1_holdsRow : 0 ≤ d - 1 := by omega
  have hk_X1_isList : 0 ≤ d - 1 := by omega
  have hk_X5_request : 3 ≤ d - 1 := by omega
  unfold X7_does_c103 at hM
  refine B_iinc dX7_does_103 rfl k_ic_3 (Nat.le_of_ble_eq_true rfl) ?_
  refine B_goto (tgt := 32) dX7_does_106 rfl ?_
  exact B_wk (hr32 _ _ _ _ hM) (wk_1 (wk_1 (wk_0 (wk_1 (wk_1 (wk_0 wk_n))))))
def X7_does_c32 (F : Nat) (K : Int32 → AH → Prop) (n : Nat) : Int32 → Int32 → Int32 → AH → Prop := Nat.rec (motive := fun _ => Int32 → Int32 → Int32 → AH → Prop) (fun _ _ _ _ => False) (fun _ rc32 x1 x3 x4 h => vp_in x1 3 ∧ (if ((h 55 x1.toNatClampNeg) - (nI 3)) < x4 then (K x3 h) else (P_X1_cell F x1 x4 h (fun (r2 : Int32) (h1 : AH) => vp_in r2 108 ∧ (vp_in (r2 + (nI 1)) 108 ∧ (vp_in (r2 + (nI 2)) 108 ∧ (P_X5_request F 1 (h1 54 r2.toNatClampNeg) (h1 54 (r2 + (nI 1)).toNatClampNeg) (h1 54 (r2 + (nI 2)).toNatClampNeg) h1 (fun (r4 : Int32) (h3 : AH) => if r4 < (nI 0) then (X7_does_c103 F rc32 K x1 x3 x4 h3) else (X7_does_c103 F rc32 K x1 (x3 + (nI 1)) x4 h3))))))))) n
theorem X7_does_c32_s {F : Nat} {K : Int32 → AH → Prop} {n : Nat} {x1 : Int32} {x3 : Int32} {x4 : Int32} {h : AH} : X7_does_c32 F K (n + 1) x1 x3 x4 h = (vp_in x1 3 ∧ (if ((h 55 x1.toNatClampNeg) - (nI 3)) < x4 then (K x3 h) else (P_X1_cell F x1 x4 h (fun (r2 : Int32) (h1 : AH) => vp_in r2 108 ∧ (vp_in (r2 + (nI 1)) 108 ∧ (vp_in (r2 + (nI 2)) 108 ∧ (P_X5_request F 1 (h1 54 r2.toNatClampNeg) (h1 54 (r2 + (nI 1)).toNatClampNeg) (h1 54 (r2 + (nI 2)).toNatClampNeg) h1 (fun (r4 : Int32) (h3 : AH) => if r4 < (nI 0) then (X7_does_c103 F (X7_does_c32 F K n) K x1 x3 x4 h3) else (X7_does_c103 F (X7_does_c32 F K n) K x1 (x3 + (nI 1)) x4 h3))))))))) := rfl
set_option maxHeartbeats 4000000 in
theorem bw_X7_does_c32 {l : Launch} {d : Nat} {F : Nat} {K : Int32 → AH → Prop} (hd : 4 ≤ d) : ∀ (n : Nat) (x1 : Int32) (x3 : Int32) (x4 : Int32) (h : AH), X7_does_c32 F K n x1 x3 x4 h → BW RX7 cX7_does 6 (some .int) l (rmD d) tb0 3 [.ref 0, .int x1, .null, .int x3, .int x4, .null] [] 32 h (Qi K) := by
  have hk1 : 1 ≤ d := by omega
  have hk_X1_cell : 0 ≤ d - 1 := by omega
  have hk_X1_holdsRow : 0 ≤ d - 1 := by omega
  have hk_X1_isList : 0 ≤ d - 1 := by omega
  have hk_X5_request : 3 ≤ d - 1 := by omega
  intro n
  induction n with
  | zero =>
    intro x1 x3 x4 h hM
    exact hM.elim
  | succ n hr32 =>
    intro x1 x3 x4 h hM
    rw [X7_does_c32_s] at hM
    refine B_iload dX7_does_32 rfl ?_
    refine B_aload_n dX7_does_34 rfl ?_
    refine B_getR (sc_0) vc_7 (k := 9) (j := 53) rfl (by decide) inG7 ⟨rfl, rfl, rfl⟩ ww_fl_X7_66 dX7_does_35 ?_
    refine B_getR (sc_53) vc_1 (k := 1) (j := 55) rfl (by decide) inG1 ⟨rfl, rfl, rfl⟩ ww_fl_X7_298 dX7_does_38 ?_
    refine B_iload_n dX7_does_41 rfl ?_
    refine B_iald (sc_55) hM dX7_does_42 (fun hM => ?_)
    refine B_iconst dX7_does_43 k_ic_3 ?_
    refine B_isub dX7_does_44 ?_
    refine B_icmp_gt dX7_does_45 hM (tgt := 109) rfl (fun hM => ?_) (fun hM => ?_)
    · refine B_iload_n dX7_does_109 rfl ?_
      exact B_iret ⟨_, rfl, hM⟩ trivial dX7_does_110
    · refine B_iload_n dX7_does_48 rfl ?_
      refine B_iload dX7_does_49 rfl ?_
      refine B_cS2i (c_X1_cell (d := d - 1) hk_X1_cell  hM) csS_X7_294 hp0 (rm_f hk1) (rm_l hk1 (by decide)) (Nat.le_of_ble_eq_true rfl) dX7_does_51 (fun r2 h1 hM => ?_)
      refine B_istore dX7_does_54 (Nat.le_of_ble_eq_true rfl) ?_
      refine B_aload_n dX7_does_56 rfl ?_
      refine B_getR (sc_0) vc_7 (k := 0) (j := 1) rfl (by decide) inG7 ⟨rfl, rfl, rfl⟩ ww_fl_X7_12 dX7_does_57 ?_
      refine B_aload_n dX7_does_60 rfl ?_
      refine B_getR (sc_0) vc_7 (k := 9) (j := 53) rfl (by decide) inG7 ⟨rfl, rfl, rfl⟩ ww_fl_X7_66 dX7_does_61 ?_
      refine B_getR (sc_53) vc_1 (k := 0) (j := 54) rfl (by decide) inG1 ⟨rfl, rfl, rfl⟩ ww_fl_X7_291 dX7_does_64 ?_
      refine B_iload dX7_does_67 rfl ?_
      refine B_iald (sc_54) hM dX7_does_69 (fun hM => ?_)
      refine B_aload_n dX7_does_70 rfl ?_
      refine B_getR (sc_0) vc_7 (k := 9) (j := 53) rfl (by decide) inG7 ⟨rfl, rfl, rfl⟩ ww_fl_X7_66 dX7_does_71 ?_
      refine B_getR (sc_53) vc_1 (k := 0) (j := 54) rfl (by decide) inG1 ⟨rfl, rfl, rfl⟩ ww_fl_X7_291 dX7_does_74 ?_
      refine B_iload dX7_does_77 rfl ?_
      refine B_iconst dX7_does_79 k_ic_1 ?_
      refine B_iadd dX7_does_80 ?_
      refine B_iald (sc_54) hM dX7_does_81 (fun hM => ?_)
      refine B_aload_n dX7_does_82 rfl ?_
      refine B_getR (sc_0) vc_7 (k := 9) (j := 53) rfl (by decide) inG7 ⟨rfl, rfl, rfl⟩ ww_fl_X7_66 dX7_does_83 ?_
      refine B_getR (sc_53) vc_1 (k := 0) (j := 54) rfl (by decide) inG1 ⟨rfl, rfl, rfl⟩ ww_fl_X7_291 dX7_does_86 ?_
      refine B_iload dX7_does_89 rfl ?_
      refine B_iconst dX7_does_91 k_ic_2 ?_
      refine B_iadd dX7_does_92 ?_
      refine B_iald (sc_54) hM dX7_does_93 (fun hM => ?_)
      refine B_cV3i (c_X5_request (d := d - 1) hk_X5_request isTbl_1 hM) csV_X7_98 (sc_1) vc_5 rfl hp0 (rm_f hk1) (rm_l hk1 (by decide)) (Nat.le_of_ble_eq_true rfl) dX7_does_94 (fun r4 h3 hM => ?_)
      refine B_if_lt dX7_does_97 hM (tgt := 103) rfl (fun hM => ?_) (fun hM => ?_)
      · exact B_wk (bw_X7_does_c103 hd hr32 hM) (wk_1 (wk_1 (wk_0 (wk_1 (wk_1 (wk_0 wk_n))))))
      · refine B_iinc dX7_does_100 rfl k_ic_1 (Nat.le_of_ble_eq_true rfl) ?_
        exact B_wk (bw_X7_does_c103 hd hr32 hM) (wk_1 (wk_1 (wk_0 (wk_1 (wk_1 (wk_0 wk_n))))))
def P_X7_does (F : Nat) (a1 : Int32) (a2 : Int32) (h : AH) (K : Int32 → AH → Prop) : Prop := P_X1_isList F a1 h (fun (r2 : Int32) (h1 : AH) => if r2 = (nI 0) then (K (-1 : Int32) h1) else (if (nI 0) ≤ a2 then (P_X1_holdsRow F a1 h1 (fun (r4 : Int32) (h3 : AH) => if ¬ r4 = (nI 0) then (X7_does_c32 F K F a1 (nI 0) a2 h3) else (K (-11 : Int32) h3))) else (K (-1 : Int32) h1)))
set_option maxHeartbeats 4000000 in
theorem c_X7_does {l : Launch} {d : Nat} {F : Nat} {a1 : Int32} {a2 : Int32} {h : AH} {K : Int32 → AH → Prop} (hd : 4 ≤ d) (hM : P_X7_does F a1 a2 h K) : Ct l yX7_does cX7_does 6 (some .int) (rmD d) [.ref 0, .int a1, .int a2] h (Qi K) := by
  have hk1 : 1 ≤ d := by omega
  have hk_X1_cell : 0 ≤ d - 1 := by omega
  have hk_X1_holdsRow : 0 ≤ d - 1 := by omega
  have hk_X1_isList : 0 ≤ d - 1 := by omega
  have hk_X5_request : 3 ≤ d - 1 := by omega
  refine Ct_ofBW (by decide) rfl (Nat.le_of_ble_eq_true rfl) ⟨rfl, rfl⟩ ?_
  show BW RX7 cX7_does 6 (some .int) l (rmD d) tb0 3 [.ref 0, .int a1, .int a2, .null, .null, .null] [] 0 h (Qi K)
  unfold P_X7_does at hM
  refine B_iload_n dX7_does_0 rfl ?_
  refine B_cS1i (c_X1_isList (d := d - 1) hk_X1_isList  hM) csS_X7_278 hp0 (rm_f hk1) (rm_l hk1 (by decide)) (Nat.le_of_ble_eq_true rfl) dX7_does_1 (fun r2 h1 hM => ?_)
  refine B_if_eq dX7_does_4 hM (tgt := 11) rfl (fun hM => ?_) (fun hM => ?_)
  · refine B_iconst dX7_does_11 k_ic_m1 ?_
    exact B_iret ⟨_, rfl, hM⟩ trivial dX7_does_12
  · refine B_iload_n dX7_does_7 rfl ?_
    refine B_if_ge dX7_does_8 hM (tgt := 13) rfl (fun hM => ?_) (fun hM => ?_)
    · refine B_aload_n dX7_does_13 rfl ?_
      refine B_getR (sc_0) vc_7 (k := 9) (j := 53) rfl (by decide) inG7 ⟨rfl, rfl, rfl⟩ ww_fl_X7_66 dX7_does_14 ?_
      refine B_iload_n dX7_does_17 rfl ?_
      refine B_cV1i (c_X1_holdsRow (d := d - 1) hk_X1_holdsRow  hM) csV_X7_285 (sc_53) vc_1 rfl hp0 (rm_f hk1) (rm_l hk1 (by decide)) (Nat.le_of_ble_eq_true rfl) dX7_does_18 (fun r4 h3 hM => ?_)
      refine B_if_ne dX7_does_21 hM (tgt := 27) rfl (fun hM => ?_) (fun hM => ?_)
      · refine B_iconst dX7_does_27 k_ic_0 ?_
        refine B_istore_n dX7_does_28 (Nat.le_of_ble_eq_true rfl) ?_
        refine B_iload_n dX7_does_29 rfl ?_
        refine B_istore dX7_does_30 (Nat.le_of_ble_eq_true rfl) ?_
        exact B_wk (bw_X7_does_c32 hd  _ _ _ _ _ hM) (wk_1 (wk_1 (wk_0 (wk_1 (wk_1 (wk_0 wk_n))))))
      · refine B_bipush dX7_does_24 k_bi_m11 ?_
        exact B_iret ⟨_, rfl, hM⟩ trivial dX7_does_26
    · refine B_iconst dX7_does_11 k_ic_m1 ?_
      exact B_iret ⟨_, rfl, hM⟩ trivial dX7_does_12

def X7_into_c52 (F : Nat) (K : Int32 → AH → Prop) (n : Nat) : Int32 → Int32 → Int32 → Int32 → AH → Prop := Nat.rec (motive := fun _ => Int32 → Int32 → Int32 → Int32 → AH → Prop) (fun _ _ _ _ _ => False) (fun _ rc52 x2 x3 x4 x5 h => if (nI 30) ≤ x5 then (K x5 h) else (P_X1_hasPlace F x2 (x3 + x5) h (fun (r2 : Int32) (h1 : AH) => if r2 = (nI 0) then (K x5 h1) else (P_X1_cell F x2 (x3 + x5) h1 (fun (r4 : Int32) (h3 : AH) => vp_in (x4 + x5) 360 ∧ (vp_in r4 108 ∧ ((fun (h5 : AH) => rc52 x2 x3 x4 (x5 + (nI 1)) h5) (up h3 54 r4.toNatClampNeg (h3 4 (x4 + x5).toNatClampNeg))))))))) n
theorem X7_into_c52_s {F : Nat} {K : Int32 → AH → Prop} {n : Nat} {x2 : Int32} {x3 : Int32} {x4 : Int32} {x5 : Int32} {h : AH} : X7_into_c52 F K (n + 1) x2 x3 x4 x5 h = (if (nI 30) ≤ x5 then (K x5 h) else (P_X1_hasPlace F x2 (x3 + x5) h (fun (r2 : Int32) (h1 : AH) => if r2 = (nI 0) then (K x5 h1) else (P_X1_cell F x2 (x3 + x5) h1 (fun (r4 : Int32) (h3 : AH) => vp_in (x4 + x5) 360 ∧ (vp_in r4 108 ∧ ((fun (h5 : AH) => (X7_into_c52 F K n) x2 x3 x4 (x5 + (nI 1)) h5) (up h3 54 r4.toNatClampNeg (h3 4 (x4 + x5).toNatClampNeg))))))))) := rfl
set_option maxHeartbeats 4000000 in
theorem bw_X7_into_c52 {l : Launch} {d : Nat} {F : Nat} {K : Int32 → AH → Prop} (hd : 1 ≤ d) : ∀ (n : Nat) (x2 : Int32) (x3 : Int32) (x4 : Int32) (x5 : Int32) (h : AH), X7_into_c52 F K n x2 x3 x4 x5 h → BW RX7 cX7_into 6 (some .int) l (rmD d) tb0 3 [.ref 0, .null, .int x2, .int x3, .int x4, .int x5] [] 52 h (Qi K) := by
  have hk1 : 1 ≤ d := by omega
  have hk_X1_cell : 0 ≤ d - 1 := by omega
  have hk_X1_hasPlace : 0 ≤ d - 1 := by omega
  have hk_X1_holdsRow : 0 ≤ d - 1 := by omega
  have hk_X1_isList : 0 ≤ d - 1 := by omega
  have hk_X5_cell : 0 ≤ d - 1 := by omega
  have hk_X5_isThing : 0 ≤ d - 1 := by omega
  intro n
  induction n with
  | zero =>
    intro x2 x3 x4 x5 h hM
    exact hM.elim
  | succ n hr52 =>
    intro x2 x3 x4 x5 h hM
    rw [X7_into_c52_s] at hM
    refine B_iload dX7_into_52 rfl ?_
    refine B_bipush dX7_into_54 k_bi_30 ?_
    refine B_icmp_ge dX7_into_56 hM (tgt := 109) rfl (fun hM => ?_) (fun hM => ?_)
    · refine B_iload dX7_into_109 rfl ?_
      exact B_iret ⟨_, rfl, hM⟩ trivial dX7_into_111
    · refine B_aload_n dX7_into_59 rfl ?_
      refine B_getR (sc_0) vc_7 (k := 9) (j := 53) rfl (by decide) inG7 ⟨rfl, rfl, rfl⟩ ww_fl_X7_66 dX7_into_60 ?_
      refine B_iload_n dX7_into_63 rfl ?_
      refine B_iload_n dX7_into_64 rfl ?_
      refine B_iload dX7_into_65 rfl ?_
      refine B_iadd dX7_into_67 ?_
      refine B_cV2i (c_X1_hasPlace (d := d - 1) hk_X1_hasPlace  hM) csV_X7_288 (sc_53) vc_1 rfl hp0 (rm_f hk1) (rm_l hk1 (by decide)) (Nat.le_of_ble_eq_true rfl) dX7_into_68 (fun r2 h1 hM => ?_)
      refine B_if_eq dX7_into_71 hM (tgt := 109) rfl (fun hM => ?_) (fun hM => ?_)
      · refine B_iload dX7_into_109 rfl ?_
        exact B_iret ⟨_, rfl, hM⟩ trivial dX7_into_111
      · refine B_aload_n dX7_into_74 rfl ?_
        refine B_getR (sc_0) vc_7 (k := 9) (j := 53) rfl (by decide) inG7 ⟨rfl, rfl, rfl⟩ ww_fl_X7_66 dX7_into_75 ?_
        refine B_getR (sc_53) vc_1 (k := 0) (j := 54) rfl (by decide) inG1 ⟨rfl, rfl, rfl⟩ ww_fl_X7_291 dX7_into_78 ?_
        refine B_iload_n dX7_into_81 rfl ?_
        refine B_iload_n dX7_into_82 rfl ?_
        refine B_iload dX7_into_83 rfl ?_
        refine B_iadd dX7_into_85 ?_
        refine B_cS2i (c_X1_cell (d := d - 1) hk_X1_cell  hM) csS_X7_294 hp0 (rm_f hk1) (rm_l hk1 (by decide)) (Nat.le_of_ble_eq_true rfl) dX7_into_86 (fun r4 h3 hM => ?_)
        refine B_aload_n dX7_into_89 rfl ?_
        refine B_getR (sc_0) vc_7 (k := 0) (j := 1) rfl (by decide) inG7 ⟨rfl, rfl, rfl⟩ ww_fl_X7_12 dX7_into_90 ?_
        refine B_getR (sc_1) vc_5 (k := 3) (j := 4) rfl (by decide) inG5 ⟨rfl, rfl, rfl⟩ ww_fl_X7_131 dX7_into_93 ?_
        refine B_iload dX7_into_96 rfl ?_
        refine B_iload dX7_into_98 rfl ?_
        refine B_iadd dX7_into_100 ?_
        refine B_iald (sc_4) hM dX7_into_101 (fun hM => ?_)
        refine B_iast (sc_54) hM dX7_into_102 (fun hM => ?_)
        refine B_iinc dX7_into_103 rfl k_ic_1 (Nat.le_of_ble_eq_true rfl) ?_
        refine B_goto (tgt := 52) dX7_into_106 rfl ?_
        exact B_wk (hr52 _ _ _ _ _ hM) (wk_1 (wk_0 (wk_1 (wk_1 (wk_1 (wk_1 wk_n))))))
def P_X7_into (F : Nat) (a1 : Int32) (a2 : Int32) (a3 : Int32) (h : AH) (K : Int32 → AH → Prop) : Prop := P_X5_isThing F 1 a1 h (fun (r2 : Int32) (h1 : AH) => if r2 = (nI 0) then (K (-1 : Int32) h1) else (P_X1_isList F a2 h1 (fun (r4 : Int32) (h3 : AH) => if ¬ r4 = (nI 0) then (P_X1_holdsRow F a2 h3 (fun (r6 : Int32) (h5 : AH) => if ¬ r6 = (nI 0) then (if (nI 0) ≤ a3 then (P_X5_cell F (nI 0) a1 (nI 1) h5 (fun (r8 : Int32) (h7 : AH) => X7_into_c52 F K F a2 a3 r8 (nI 0) h7)) else (K (-13 : Int32) h5)) else (K (-11 : Int32) h5))) else (K (-1 : Int32) h3))))
set_option maxHeartbeats 4000000 in
theorem c_X7_into {l : Launch} {d : Nat} {F : Nat} {a1 : Int32} {a2 : Int32} {a3 : Int32} {h : AH} {K : Int32 → AH → Prop} (hd : 1 ≤ d) (hM : P_X7_into F a1 a2 a3 h K) : Ct l yX7_into cX7_into 6 (some .int) (rmD d) [.ref 0, .int a1, .int a2, .int a3] h (Qi K) := by
  have hk1 : 1 ≤ d := by omega
  have hk_X1_cell : 0 ≤ d - 1 := by omega
  have hk_X1_hasPlace : 0 ≤ d - 1 := by omega
  have hk_X1_holdsRow : 0 ≤ d - 1 := by omega
  have hk_X1_isList : 0 ≤ d - 1 := by omega
  have hk_X5_cell : 0 ≤ d - 1 := by omega
  have hk_X5_isThing : 0 ≤ d - 1 := by omega
  refine Ct_ofBW (by decide) rfl (Nat.le_of_ble_eq_true rfl) ⟨rfl, rfl⟩ ?_
  show BW RX7 cX7_into 6 (some .int) l (rmD d) tb0 3 [.ref 0, .int a1, .int a2, .int a3, .null, .null] [] 0 h (Qi K)
  unfold P_X7_into at hM
  refine B_aload_n dX7_into_0 rfl ?_
  refine B_getR (sc_0) vc_7 (k := 0) (j := 1) rfl (by decide) inG7 ⟨rfl, rfl, rfl⟩ ww_fl_X7_12 dX7_into_1 ?_
  refine B_iload_n dX7_into_4 rfl ?_
  refine B_cV1i (c_X5_isThing (d := d - 1) hk_X5_isThing isTbl_1 hM) csV_X7_74 (sc_1) vc_5 rfl hp0 (rm_f hk1) (rm_l hk1 (by decide)) (Nat.le_of_ble_eq_true rfl) dX7_into_5 (fun r2 h1 hM => ?_)
  refine B_if_eq dX7_into_8 hM (tgt := 18) rfl (fun hM => ?_) (fun hM => ?_)
  · refine B_iconst dX7_into_18 k_ic_m1 ?_
    exact B_iret ⟨_, rfl, hM⟩ trivial dX7_into_19
  · refine B_iload_n dX7_into_11 rfl ?_
    refine B_cS1i (c_X1_isList (d := d - 1) hk_X1_isList  hM) csS_X7_278 hp0 (rm_f hk1) (rm_l hk1 (by decide)) (Nat.le_of_ble_eq_true rfl) dX7_into_12 (fun r4 h3 hM => ?_)
    refine B_if_ne dX7_into_15 hM (tgt := 20) rfl (fun hM => ?_) (fun hM => ?_)
    · refine B_aload_n dX7_into_20 rfl ?_
      refine B_getR (sc_0) vc_7 (k := 9) (j := 53) rfl (by decide) inG7 ⟨rfl, rfl, rfl⟩ ww_fl_X7_66 dX7_into_21 ?_
      refine B_iload_n dX7_into_24 rfl ?_
      refine B_cV1i (c_X1_holdsRow (d := d - 1) hk_X1_holdsRow  hM) csV_X7_285 (sc_53) vc_1 rfl hp0 (rm_f hk1) (rm_l hk1 (by decide)) (Nat.le_of_ble_eq_true rfl) dX7_into_25 (fun r6 h5 hM => ?_)
      refine B_if_ne dX7_into_28 hM (tgt := 34) rfl (fun hM => ?_) (fun hM => ?_)
      · refine B_iload_n dX7_into_34 rfl ?_
        refine B_if_ge dX7_into_35 hM (tgt := 41) rfl (fun hM => ?_) (fun hM => ?_)
        · refine B_iconst dX7_into_41 k_ic_0 ?_
          refine B_iload_n dX7_into_42 rfl ?_
          refine B_iconst dX7_into_43 k_ic_1 ?_
          refine B_cS3i (c_X5_cell (d := d - 1) hk_X5_cell  hM) csS_X7_134 hp0 (rm_f hk1) (rm_l hk1 (by decide)) (Nat.le_of_ble_eq_true rfl) dX7_into_44 (fun r8 h7 hM => ?_)
          refine B_istore dX7_into_47 (Nat.le_of_ble_eq_true rfl) ?_
          refine B_iconst dX7_into_49 k_ic_0 ?_
          refine B_istore dX7_into_50 (Nat.le_of_ble_eq_true rfl) ?_
          exact B_wk (bw_X7_into_c52 hd  _ _ _ _ _ _ hM) (wk_1 (wk_0 (wk_1 (wk_1 (wk_1 (wk_1 wk_n))))))
        · refine B_bipush dX7_into_38 k_bi_m13 ?_
          exact B_iret ⟨_, rfl, hM⟩ trivial dX7_into_40
      · refine B_bipush dX7_into_31 k_bi_m11 ?_
        exact B_iret ⟨_, rfl, hM⟩ trivial dX7_into_33
    · refine B_iconst dX7_into_18 k_ic_m1 ?_
      exact B_iret ⟨_, rfl, hM⟩ trivial dX7_into_19

def P_X7_image (F : Nat) (h : AH) (K : Int32 → AH → Prop) : Prop := P_X5_copyFrom F 25 1 h (fun (h1 : AH) => (fun (h2 : AH) => K (h2 1 0) h2) (up h1 0 3 (nI 1)))
set_option maxHeartbeats 4000000 in
theorem c_X7_image {l : Launch} {d : Nat} {F : Nat} {h : AH} {K : Int32 → AH → Prop} (hd : 2 ≤ d) (hM : P_X7_image F h K) : Ct l yX7_image cX7_image 1 (some .int) (rmD d) [.ref 0] h (Qi K) := by
  have hk1 : 1 ≤ d := by omega
  have hk_X5_copyFrom : 1 ≤ d - 1 := by omega
  refine Ct_ofBW (by decide) rfl (Nat.le_of_ble_eq_true rfl) ⟨rfl, rfl⟩ ?_
  show BW RX7 cX7_image 1 (some .int) l (rmD d) tb0 3 [.ref 0] [] 0 h (Qi K)
  unfold P_X7_image at hM
  refine B_aload_n dX7_image_0 rfl ?_
  refine B_getR (sc_0) vc_7 (k := 2) (j := 25) rfl (by decide) inG7 ⟨rfl, rfl, rfl⟩ ww_fl_X7_21 dX7_image_1 ?_
  refine B_aload_n dX7_image_4 rfl ?_
  refine B_getR (sc_0) vc_7 (k := 0) (j := 1) rfl (by decide) inG7 ⟨rfl, rfl, rfl⟩ ww_fl_X7_12 dX7_image_5 ?_
  refine B_cV1v (c_X5_copyFrom (d := d - 1) hk_X5_copyFrom isTbl_25 isTbl_1 hM) csV_X7_192 (sc_25) vc_5 rfl hp0 (rm_f hk1) (rm_l hk1 (by decide)) (Nat.le_of_ble_eq_true rfl) dX7_image_8 (fun h1 hM => ?_)
  refine B_aload_n dX7_image_11 rfl ?_
  refine B_iconst dX7_image_12 k_ic_1 ?_
  refine B_putI (fits_Z zB_1) (sc_0) vc_7 (k := 3) rfl (by decide) inG7 ⟨rfl, rfl, rfl⟩ tyX7 tyX7_ok nmX7 rfl rfl ww_fl_X7_24 dX7_image_13 ?_
  refine B_aload_n dX7_image_16 rfl ?_
  refine B_getR (sc_0) vc_7 (k := 0) (j := 1) rfl (by decide) inG7 ⟨rfl, rfl, rfl⟩ ww_fl_X7_12 dX7_image_17 ?_
  refine B_getI (sc_1) vc_5 (k := 0) rfl (by decide) inG5 ⟨rfl, rfl, rfl⟩ ww_fl_X7_169 dX7_image_20 ?_
  exact B_iret ⟨_, rfl, hM⟩ trivial dX7_image_23

def P_X7_back (F : Nat) (h : AH) (K : Int32 → AH → Prop) : Prop := if ¬ (h 0 3) = (nI 0) then (P_X5_copyFrom F 1 25 h (fun (h1 : AH) => P_X0_closeFrom F (h1 1 0) h1 (fun (h2 : AH) => K (h2 1 0) h2))) else (K (-5 : Int32) h)
set_option maxHeartbeats 4000000 in
theorem c_X7_back {l : Launch} {d : Nat} {F : Nat} {h : AH} {K : Int32 → AH → Prop} (hd : 2 ≤ d) (hM : P_X7_back F h K) : Ct l yX7_back cX7_back 1 (some .int) (rmD d) [.ref 0] h (Qi K) := by
  have hk1 : 1 ≤ d := by omega
  have hk_X0_closeFrom : 0 ≤ d - 1 := by omega
  have hk_X5_copyFrom : 1 ≤ d - 1 := by omega
  refine Ct_ofBW (by decide) rfl (Nat.le_of_ble_eq_true rfl) ⟨rfl, rfl⟩ ?_
  show BW RX7 cX7_back 1 (some .int) l (rmD d) tb0 3 [.ref 0] [] 0 h (Qi K)
  unfold P_X7_back at hM
  refine B_aload_n dX7_back_0 rfl ?_
  refine B_getI (sc_0) vc_7 (k := 3) rfl (by decide) inG7 ⟨rfl, rfl, rfl⟩ ww_fl_X7_24 dX7_back_1 ?_
  refine B_if_ne dX7_back_4 hM (tgt := 10) rfl (fun hM => ?_) (fun hM => ?_)
  · refine B_aload_n dX7_back_10 rfl ?_
    refine B_getR (sc_0) vc_7 (k := 0) (j := 1) rfl (by decide) inG7 ⟨rfl, rfl, rfl⟩ ww_fl_X7_12 dX7_back_11 ?_
    refine B_aload_n dX7_back_14 rfl ?_
    refine B_getR (sc_0) vc_7 (k := 2) (j := 25) rfl (by decide) inG7 ⟨rfl, rfl, rfl⟩ ww_fl_X7_21 dX7_back_15 ?_
    refine B_cV1v (c_X5_copyFrom (d := d - 1) hk_X5_copyFrom isTbl_1 isTbl_25 hM) csV_X7_192 (sc_1) vc_5 rfl hp0 (rm_f hk1) (rm_l hk1 (by decide)) (Nat.le_of_ble_eq_true rfl) dX7_back_18 (fun h1 hM => ?_)
    refine B_aload_n dX7_back_21 rfl ?_
    refine B_getR (sc_0) vc_7 (k := 6) (j := 40) rfl (by decide) inG7 ⟨rfl, rfl, rfl⟩ ww_fl_X7_45 dX7_back_22 ?_
    refine B_aload_n dX7_back_25 rfl ?_
    refine B_getR (sc_0) vc_7 (k := 0) (j := 1) rfl (by decide) inG7 ⟨rfl, rfl, rfl⟩ ww_fl_X7_12 dX7_back_26 ?_
    refine B_getI (sc_1) vc_5 (k := 0) rfl (by decide) inG5 ⟨rfl, rfl, rfl⟩ ww_fl_X7_169 dX7_back_29 ?_
    refine B_cV1v (c_X0_closeFrom (d := d - 1) hk_X0_closeFrom  hM) csV_X7_301 (sc_40) vc_0 rfl hp0 (rm_f hk1) (rm_l hk1 (by decide)) (Nat.le_of_ble_eq_true rfl) dX7_back_32 (fun h2 hM => ?_)
    refine B_aload_n dX7_back_35 rfl ?_
    refine B_getR (sc_0) vc_7 (k := 0) (j := 1) rfl (by decide) inG7 ⟨rfl, rfl, rfl⟩ ww_fl_X7_12 dX7_back_36 ?_
    refine B_getI (sc_1) vc_5 (k := 0) rfl (by decide) inG5 ⟨rfl, rfl, rfl⟩ ww_fl_X7_169 dX7_back_39 ?_
    exact B_iret ⟨_, rfl, hM⟩ trivial dX7_back_42
  · refine B_bipush dX7_back_7 k_bi_m5 ?_
    exact B_iret ⟨_, rfl, hM⟩ trivial dX7_back_9

def P_X8_in (F : Nat) (a1 : Int32) (a2 : Int32) (a3 : Int32) (h : AH) (K : Int32 → AH → Prop) : Prop := if a1 < a2 then (K (nI 0) h) else (if a3 < a1 then (K (nI 0) h) else (K (nI 1) h))
set_option maxHeartbeats 4000000 in
theorem c_X8_in {l : Launch} {d : Nat} {F : Nat} {a1 : Int32} {a2 : Int32} {a3 : Int32} {h : AH} {K : Int32 → AH → Prop} (hd : 0 ≤ d) (hM : P_X8_in F a1 a2 a3 h K) : Ct l yX8_in cX8_in 3 (some .boolean) (rmD d) [.int a1, .int a2, .int a3] h (Qi K) := by
  refine Ct_ofBW (by decide) rfl (Nat.le_of_ble_eq_true rfl) ⟨rfl, rfl⟩ ?_
  show BW RX8 cX8_in 3 (some .boolean) l (rmD d) tb0 3 [.int a1, .int a2, .int a3] [] 0 h (Qi K)
  unfold P_X8_in at hM
  refine B_iload_n dX8_in_0 rfl ?_
  refine B_iload_n dX8_in_1 rfl ?_
  refine B_icmp_lt dX8_in_2 hM (tgt := 14) rfl (fun hM => ?_) (fun hM => ?_)
  · refine B_iconst dX8_in_14 k_ic_0 ?_
    exact B_iret ⟨_, rfl, hM⟩ zB_0 dX8_in_15
  · refine B_iload_n dX8_in_5 rfl ?_
    refine B_iload_n dX8_in_6 rfl ?_
    refine B_icmp_gt dX8_in_7 hM (tgt := 14) rfl (fun hM => ?_) (fun hM => ?_)
    · refine B_iconst dX8_in_14 k_ic_0 ?_
      exact B_iret ⟨_, rfl, hM⟩ zB_0 dX8_in_15
    · refine B_iconst dX8_in_10 k_ic_1 ?_
      refine B_goto (tgt := 15) dX8_in_11 rfl ?_
      exact B_iret ⟨_, rfl, hM⟩ zB_1 dX8_in_15

def P_X8_has (F : Nat) (a1 : Int32) (a2 : Int32) (h : AH) (K : Int32 → AH → Prop) : Prop := if ¬ ((a1 >>> (a2 &&& 31)) &&& (nI 1)) = (nI 1) then (K (nI 0) h) else (K (nI 1) h)
set_option maxHeartbeats 4000000 in
theorem c_X8_has {l : Launch} {d : Nat} {F : Nat} {a1 : Int32} {a2 : Int32} {h : AH} {K : Int32 → AH → Prop} (hd : 0 ≤ d) (hM : P_X8_has F a1 a2 h K) : Ct l yX8_has cX8_has 2 (some .boolean) (rmD d) [.int a1, .int a2] h (Qi K) := by
  refine Ct_ofBW (by decide) rfl (Nat.le_of_ble_eq_true rfl) ⟨rfl, rfl⟩ ?_
  show BW RX8 cX8_has 2 (some .boolean) l (rmD d) tb0 3 [.int a1, .int a2] [] 0 h (Qi K)
  unfold P_X8_has at hM
  refine B_iload_n dX8_has_0 rfl ?_
  refine B_iload_n dX8_has_1 rfl ?_
  refine B_ishr dX8_has_2 ?_
  refine B_iconst dX8_has_3 k_ic_1 ?_
  refine B_iand dX8_has_4 ?_
  refine B_iconst dX8_has_5 k_ic_1 ?_
  refine B_icmp_ne dX8_has_6 hM (tgt := 13) rfl (fun hM => ?_) (fun hM => ?_)
  · refine B_iconst dX8_has_13 k_ic_0 ?_
    exact B_iret ⟨_, rfl, hM⟩ zB_0 dX8_has_14
  · refine B_iconst dX8_has_9 k_ic_1 ?_
    refine B_goto (tgt := 14) dX8_has_10 rfl ?_
    exact B_iret ⟨_, rfl, hM⟩ zB_1 dX8_has_14

def X8_bits_c4 (F : Nat) (K : Int32 → AH → Prop) (n : Nat) : Int32 → Int32 → AH → Prop := Nat.rec (motive := fun _ => Int32 → Int32 → AH → Prop) (fun _ _ _ => False) (fun _ rc4 x1 x2 h => if x2 = (nI 0) then (K x1 h) else (rc4 (x1 + (nI 1)) (x2 &&& (x2 - (nI 1))) h)) n
theorem X8_bits_c4_s {F : Nat} {K : Int32 → AH → Prop} {n : Nat} {x1 : Int32} {x2 : Int32} {h : AH} : X8_bits_c4 F K (n + 1) x1 x2 h = (if x2 = (nI 0) then (K x1 h) else ((X8_bits_c4 F K n) (x1 + (nI 1)) (x2 &&& (x2 - (nI 1))) h)) := rfl
set_option maxHeartbeats 4000000 in
theorem bw_X8_bits_c4 {l : Launch} {d : Nat} {F : Nat} {K : Int32 → AH → Prop} (hd : 0 ≤ d) : ∀ (n : Nat) (x1 : Int32) (x2 : Int32) (h : AH), X8_bits_c4 F K n x1 x2 h → BW RX8 cX8_bits 3 (some .int) l (rmD d) tb0 3 [.null, .int x1, .int x2] [] 4 h (Qi K) := by
  intro n
  induction n with
  | zero =>
    intro x1 x2 h hM
    exact hM.elim
  | succ n hr4 =>
    intro x1 x2 h hM
    rw [X8_bits_c4_s] at hM
    refine B_iload_n dX8_bits_4 rfl ?_
    refine B_if_eq dX8_bits_5 hM (tgt := 20) rfl (fun hM => ?_) (fun hM => ?_)
    · refine B_iload_n dX8_bits_20 rfl ?_
      exact B_iret ⟨_, rfl, hM⟩ trivial dX8_bits_21
    · refine B_iinc dX8_bits_8 rfl k_ic_1 (Nat.le_of_ble_eq_true rfl) ?_
      refine B_iload_n dX8_bits_11 rfl ?_
      refine B_iload_n dX8_bits_12 rfl ?_
      refine B_iconst dX8_bits_13 k_ic_1 ?_
      refine B_isub dX8_bits_14 ?_
      refine B_iand dX8_bits_15 ?_
      refine B_istore_n dX8_bits_16 (Nat.le_of_ble_eq_true rfl) ?_
      refine B_goto (tgt := 4) dX8_bits_17 rfl ?_
      exact B_wk (hr4 _ _ _ hM) (wk_0 (wk_1 (wk_1 wk_n)))
def P_X8_bits (F : Nat) (a1 : Int32) (h : AH) (K : Int32 → AH → Prop) : Prop := X8_bits_c4 F K F (nI 0) a1 h
set_option maxHeartbeats 4000000 in
theorem c_X8_bits {l : Launch} {d : Nat} {F : Nat} {a1 : Int32} {h : AH} {K : Int32 → AH → Prop} (hd : 0 ≤ d) (hM : P_X8_bits F a1 h K) : Ct l yX8_bits cX8_bits 3 (some .int) (rmD d) [.int a1] h (Qi K) := by
  refine Ct_ofBW (by decide) rfl (Nat.le_of_ble_eq_true rfl) ⟨rfl, rfl⟩ ?_
  show BW RX8 cX8_bits 3 (some .int) l (rmD d) tb0 3 [.int a1, .null, .null] [] 0 h (Qi K)
  unfold P_X8_bits at hM
  refine B_iconst dX8_bits_0 k_ic_0 ?_
  refine B_istore_n dX8_bits_1 (Nat.le_of_ble_eq_true rfl) ?_
  refine B_iload_n dX8_bits_2 rfl ?_
  refine B_istore_n dX8_bits_3 (Nat.le_of_ble_eq_true rfl) ?_
  exact B_wk (bw_X8_bits_c4 hd  _ _ _ _ hM) (wk_0 (wk_1 (wk_1 wk_n)))

def X8_copies_c2 (F : Nat) (p0 : Nat) (p1 : Nat) (K : AH → Prop) (n : Nat) : Int32 → AH → Prop := Nat.rec (motive := fun _ => Int32 → AH → Prop) (fun _ _ => False) (fun _ rc2 x2 h => if (nI 441) ≤ x2 then (K h) else (vp_in x2 441 ∧ (vp_in x2 441 ∧ ((fun (h1 : AH) => rc2 (x2 + (nI 1)) h1) (up h p1 x2.toNatClampNeg (h p0 x2.toNatClampNeg)))))) n
theorem X8_copies_c2_s {F : Nat} {p0 : Nat} {p1 : Nat} {K : AH → Prop} {n : Nat} {x2 : Int32} {h : AH} : X8_copies_c2 F p0 p1 K (n + 1) x2 h = (if (nI 441) ≤ x2 then (K h) else (vp_in x2 441 ∧ (vp_in x2 441 ∧ ((fun (h1 : AH) => (X8_copies_c2 F p0 p1 K n) (x2 + (nI 1)) h1) (up h p1 x2.toNatClampNeg (h p0 x2.toNatClampNeg)))))) := rfl
set_option maxHeartbeats 4000000 in
theorem bw_X8_copies_c2 {l : Launch} {d : Nat} {F : Nat} {p0 : Nat} {p1 : Nat} {K : AH → Prop} (hd : 0 ≤ d) (hp0 : sh_all[p0]? = some (.inl (false, 441))) (hp1 : sh_all[p1]? = some (.inl (false, 441))) : ∀ (n : Nat) (x2 : Int32) (h : AH), X8_copies_c2 F p0 p1 K n x2 h → BW RX8 cX8_copies 3 none l (rmD d) tb0 3 [.ref p0, .ref p1, .int x2] [] 2 h (Qv K) := by
  intro n
  induction n with
  | zero =>
    intro x2 h hM
    exact hM.elim
  | succ n hr2 =>
    intro x2 h hM
    rw [X8_copies_c2_s] at hM
    refine B_iload_n dX8_copies_2 rfl ?_
    refine B_sipush dX8_copies_3 k_si_441 ?_
    refine B_icmp_ge dX8_copies_6 hM (tgt := 21) rfl (fun hM => ?_) (fun hM => ?_)
    · exact B_vret ⟨rfl, hM⟩ trivial dX8_copies_21
    · refine B_aload_n dX8_copies_9 rfl ?_
      refine B_iload_n dX8_copies_10 rfl ?_
      refine B_aload_n dX8_copies_11 rfl ?_
      refine B_iload_n dX8_copies_12 rfl ?_
      refine B_iald (hp0) hM dX8_copies_13 (fun hM => ?_)
      refine B_iast (hp1) hM dX8_copies_14 (fun hM => ?_)
      refine B_iinc dX8_copies_15 rfl k_ic_1 (Nat.le_of_ble_eq_true rfl) ?_
      refine B_goto (tgt := 2) dX8_copies_18 rfl ?_
      exact B_wk (hr2 _ _ hM) (wk_1 (wk_1 (wk_1 wk_n)))
def P_X8_copies (F : Nat) (p0 : Nat) (p1 : Nat) (h : AH) (K : AH → Prop) : Prop := X8_copies_c2 F p0 p1 K F (nI 0) h
set_option maxHeartbeats 4000000 in
theorem c_X8_copies {l : Launch} {d : Nat} {F : Nat} {p0 : Nat} {p1 : Nat} {h : AH} {K : AH → Prop} (hd : 0 ≤ d) (hp0 : sh_all[p0]? = some (.inl (false, 441))) (hp1 : sh_all[p1]? = some (.inl (false, 441))) (hM : P_X8_copies F p0 p1 h K) : Ct l yX8_copies cX8_copies 3 none (rmD d) [.ref p0, .ref p1] h (Qv K) := by
  refine Ct_ofBW (by decide) rfl (Nat.le_of_ble_eq_true rfl) ⟨rfl, rfl⟩ ?_
  show BW RX8 cX8_copies 3 none l (rmD d) tb0 3 [.ref p0, .ref p1, .null] [] 0 h (Qv K)
  unfold P_X8_copies at hM
  refine B_iconst dX8_copies_0 k_ic_0 ?_
  refine B_istore_n dX8_copies_1 (Nat.le_of_ble_eq_true rfl) ?_
  exact B_wk (bw_X8_copies_c2 hd hp0 hp1  _ _ _ hM) (wk_1 (wk_1 (wk_1 wk_n)))

def P_X8_laysAside (F : Nat) (h : AH) (K : AH → Prop) : Prop := P_X8_copies F 57 58 h (fun (h1 : AH) => (fun (h2 : AH) => K h2) (up h1 56 5 (h1 56 4)))
set_option maxHeartbeats 4000000 in
theorem c_X8_laysAside {l : Launch} {d : Nat} {F : Nat} {h : AH} {K : AH → Prop} (hd : 1 ≤ d) (hM : P_X8_laysAside F h K) : Ct l yX8_laysAside cX8_laysAside 1 none (rmD d) [.ref 56] h (Qv K) := by
  have hk1 : 1 ≤ d := by omega
  have hk_X8_copies : 0 ≤ d - 1 := by omega
  refine Ct_ofBW (by decide) rfl (Nat.le_of_ble_eq_true rfl) ⟨rfl, rfl⟩ ?_
  show BW RX8 cX8_laysAside 1 none l (rmD d) tb0 3 [.ref 56] [] 0 h (Qv K)
  unfold P_X8_laysAside at hM
  refine B_aload_n dX8_laysAside_0 rfl ?_
  refine B_getR (sc_56) vc_8 (k := 1) (j := 57) rfl (by decide) inG8 ⟨rfl, rfl, rfl⟩ ww_fl_X8_15 dX8_laysAside_1 ?_
  refine B_aload_n dX8_laysAside_4 rfl ?_
  refine B_getR (sc_56) vc_8 (k := 2) (j := 58) rfl (by decide) inG8 ⟨rfl, rfl, rfl⟩ ww_fl_X8_19 dX8_laysAside_5 ?_
  refine B_cS2v (c_X8_copies (d := d - 1) hk_X8_copies sc_57 sc_58 hM) csS_X8_52 hp0 (rm_f hk1) (rm_l hk1 (by decide)) (Nat.le_of_ble_eq_true rfl) dX8_laysAside_8 (fun h1 hM => ?_)
  refine B_aload_n dX8_laysAside_11 rfl ?_
  refine B_aload_n dX8_laysAside_12 rfl ?_
  refine B_getI (sc_56) vc_8 (k := 4) rfl (by decide) inG8 ⟨rfl, rfl, rfl⟩ ww_fl_X8_56 dX8_laysAside_13 ?_
  refine B_putI (fits_I _) (sc_56) vc_8 (k := 5) rfl (by decide) inG8 ⟨rfl, rfl, rfl⟩ tyX8 tyX8_ok nmX8 rfl rfl ww_fl_X8_59 dX8_laysAside_16 ?_
  exact B_vret ⟨rfl, hM⟩ trivial dX8_laysAside_19

def P_X8_laysBack (F : Nat) (h : AH) (K : AH → Prop) : Prop := P_X8_copies F 58 57 h (fun (h1 : AH) => (fun (h2 : AH) => K h2) (up h1 56 4 (h1 56 5)))
set_option maxHeartbeats 4000000 in
theorem c_X8_laysBack {l : Launch} {d : Nat} {F : Nat} {h : AH} {K : AH → Prop} (hd : 1 ≤ d) (hM : P_X8_laysBack F h K) : Ct l yX8_laysBack cX8_laysBack 1 none (rmD d) [.ref 56] h (Qv K) := by
  have hk1 : 1 ≤ d := by omega
  have hk_X8_copies : 0 ≤ d - 1 := by omega
  refine Ct_ofBW (by decide) rfl (Nat.le_of_ble_eq_true rfl) ⟨rfl, rfl⟩ ?_
  show BW RX8 cX8_laysBack 1 none l (rmD d) tb0 3 [.ref 56] [] 0 h (Qv K)
  unfold P_X8_laysBack at hM
  refine B_aload_n dX8_laysBack_0 rfl ?_
  refine B_getR (sc_56) vc_8 (k := 2) (j := 58) rfl (by decide) inG8 ⟨rfl, rfl, rfl⟩ ww_fl_X8_19 dX8_laysBack_1 ?_
  refine B_aload_n dX8_laysBack_4 rfl ?_
  refine B_getR (sc_56) vc_8 (k := 1) (j := 57) rfl (by decide) inG8 ⟨rfl, rfl, rfl⟩ ww_fl_X8_15 dX8_laysBack_5 ?_
  refine B_cS2v (c_X8_copies (d := d - 1) hk_X8_copies sc_58 sc_57 hM) csS_X8_52 hp0 (rm_f hk1) (rm_l hk1 (by decide)) (Nat.le_of_ble_eq_true rfl) dX8_laysBack_8 (fun h1 hM => ?_)
  refine B_aload_n dX8_laysBack_11 rfl ?_
  refine B_aload_n dX8_laysBack_12 rfl ?_
  refine B_getI (sc_56) vc_8 (k := 5) rfl (by decide) inG8 ⟨rfl, rfl, rfl⟩ ww_fl_X8_59 dX8_laysBack_13 ?_
  refine B_putI (fits_I _) (sc_56) vc_8 (k := 4) rfl (by decide) inG8 ⟨rfl, rfl, rfl⟩ tyX8 tyX8_ok nmX8 rfl rfl ww_fl_X8_56 dX8_laysBack_16 ?_
  exact B_vret ⟨rfl, hM⟩ trivial dX8_laysBack_19

def P_X8_isThing (F : Nat) (a1 : Int32) (h : AH) (K : Int32 → AH → Prop) : Prop := vp_in (nI 0) 441 ∧ (P_X8_in F a1 (nI 0) ((h 57 (nI 0).toNatClampNeg) - (nI 1)) h (fun (r2 : Int32) (h1 : AH) => zB r2 ∧ K r2 h1))
set_option maxHeartbeats 4000000 in
theorem c_X8_isThing {l : Launch} {d : Nat} {F : Nat} {a1 : Int32} {h : AH} {K : Int32 → AH → Prop} (hd : 1 ≤ d) (hM : P_X8_isThing F a1 h K) : Ct l yX8_isThing cX8_isThing 2 (some .boolean) (rmD d) [.ref 56, .int a1] h (Qi K) := by
  have hk1 : 1 ≤ d := by omega
  have hk_X8_in : 0 ≤ d - 1 := by omega
  refine Ct_ofBW (by decide) rfl (Nat.le_of_ble_eq_true rfl) ⟨rfl, rfl⟩ ?_
  show BW RX8 cX8_isThing 2 (some .boolean) l (rmD d) tb0 3 [.ref 56, .int a1] [] 0 h (Qi K)
  unfold P_X8_isThing at hM
  refine B_iload_n dX8_isThing_0 rfl ?_
  refine B_iconst dX8_isThing_1 k_ic_0 ?_
  refine B_aload_n dX8_isThing_2 rfl ?_
  refine B_getR (sc_56) vc_8 (k := 1) (j := 57) rfl (by decide) inG8 ⟨rfl, rfl, rfl⟩ ww_fl_X8_15 dX8_isThing_3 ?_
  refine B_iconst dX8_isThing_6 k_ic_0 ?_
  refine B_iald (sc_57) hM dX8_isThing_7 (fun hM => ?_)
  refine B_iconst dX8_isThing_8 k_ic_1 ?_
  refine B_isub dX8_isThing_9 ?_
  refine B_cS3i (c_X8_in (d := d - 1) hk_X8_in  hM) csS_X8_62 hp0 (rm_f hk1) (rm_l hk1 (by decide)) (Nat.le_of_ble_eq_true rfl) dX8_isThing_10 (fun r2 h1 hM => ?_)
  exact B_iret ⟨_, rfl, hM.2⟩ hM.1 dX8_isThing_13

def P_X8_isOwner (F : Nat) (a1 : Int32) (h : AH) (K : Int32 → AH → Prop) : Prop := P_X8_in F a1 (nI 0) (nI 5) h (fun (r2 : Int32) (h1 : AH) => zB r2 ∧ K r2 h1)
set_option maxHeartbeats 4000000 in
theorem c_X8_isOwner {l : Launch} {d : Nat} {F : Nat} {a1 : Int32} {h : AH} {K : Int32 → AH → Prop} (hd : 1 ≤ d) (hM : P_X8_isOwner F a1 h K) : Ct l yX8_isOwner cX8_isOwner 1 (some .boolean) (rmD d) [.int a1] h (Qi K) := by
  have hk1 : 1 ≤ d := by omega
  have hk_X8_in : 0 ≤ d - 1 := by omega
  refine Ct_ofBW (by decide) rfl (Nat.le_of_ble_eq_true rfl) ⟨rfl, rfl⟩ ?_
  show BW RX8 cX8_isOwner 1 (some .boolean) l (rmD d) tb0 3 [.int a1] [] 0 h (Qi K)
  unfold P_X8_isOwner at hM
  refine B_iload_n dX8_isOwner_0 rfl ?_
  refine B_iconst dX8_isOwner_1 k_ic_0 ?_
  refine B_iconst dX8_isOwner_2 k_ic_5 ?_
  refine B_cS3i (c_X8_in (d := d - 1) hk_X8_in  hM) csS_X8_62 hp0 (rm_f hk1) (rm_l hk1 (by decide)) (Nat.le_of_ble_eq_true rfl) dX8_isOwner_3 (fun r2 h1 hM => ?_)
  exact B_iret ⟨_, rfl, hM.2⟩ hM.1 dX8_isOwner_6
