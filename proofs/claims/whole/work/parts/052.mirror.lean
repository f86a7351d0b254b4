def P_X5_addRow (F : Nat) (b : Nat) (a1 : Int32) (a2 : Int32) (a3 : Int32) (h : AH) (K : Int32 → AH → Prop) : Prop := P_X5_isAsk F b a1 a2 a3 h (fun (r2 : Int32) (h1 : AH) => if ¬ r2 = (nI 0) then (if (h1 b 9) < (nI 12) then (vp_in (h1 b 9) 12 ∧ ((fun (h3 : AH) => vp_in (h3 b 9) 12 ∧ ((fun (h4 : AH) => vp_in (h4 b 9) 12 ∧ ((fun (h5 : AH) => (fun (h6 : AH) => K (h6 b 9) h6) (up h5 b 9 ((h5 b 9) + (nI 1)))) (up h4 (b + 10) (h4 b 9).toNatClampNeg a3))) (up h3 (b + 9) (h3 b 9).toNatClampNeg a2))) (up h1 (b + 8) (h1 b 9).toNatClampNeg a1))) else (K (-3 : Int32) h1)) else (K (-1 : Int32) h1))
set_option maxHeartbeats 4000000 in
theorem c_X5_addRow {l : Launch} {d : Nat} {F : Nat} {b : Nat} {a1 : Int32} {a2 : Int32} {a3 : Int32} {h : AH} {K : Int32 → AH → Prop} (hd : 2 ≤ d) (hb : isTbl b) (hM : P_X5_addRow F b a1 a2 a3 h K) : Ct l yX5_addRow cX5_addRow 4 (some .int) (rmD d) [.ref b, .int a1, .int a2, .int a3] h (Qi K) := by
  have hk1 : 1 ≤ d := by omega
  have hk_X5_isAsk : 1 ≤ d - 1 := by omega
  refine Ct_ofBW (by decide) rfl (Nat.le_of_ble_eq_true rfl) ⟨rfl, rfl⟩ ?_
  show BW RX5 cX5_addRow 4 (some .int) l (rmD d) tb0 3 [.ref b, .int a1, .int a2, .int a3] [] 0 h (Qi K)
  unfold P_X5_addRow at hM
  refine B_aload_n dX5_addRow_0 rfl ?_
  refine B_iload_n dX5_addRow_1 rfl ?_
  refine B_iload_n dX5_addRow_2 rfl ?_
  refine B_iload_n dX5_addRow_3 rfl ?_
  refine B_cV3i (c_X5_isAsk (d := d - 1) hk_X5_isAsk hb hM) csV_X5_99 (tb_0 hb) vc_5 rfl hp0 (rm_f hk1) (rm_l hk1 (by decide)) (Nat.le_of_ble_eq_true rfl) dX5_addRow_4 (fun r2 h1 hM => ?_)
  refine B_if_ne dX5_addRow_7 hM (tgt := 12) rfl (fun hM => ?_) (fun hM => ?_)
  · refine B_aload_n dX5_addRow_12 rfl ?_
    refine B_getI (tb_0 hb) vc_5 (k := 9) rfl (by decide) inG5 ⟨rfl, rfl, rfl⟩ ww_fl_X5_40 dX5_addRow_13 ?_
    refine B_bipush dX5_addRow_16 k_bi_12 ?_
    refine B_icmp_lt dX5_addRow_18 hM (tgt := 24) rfl (fun hM => ?_) (fun hM => ?_)
    · refine B_aload_n dX5_addRow_24 rfl ?_
      refine B_getR (tb_0 hb) vc_5 (k := 10) (j := (b + 8)) rfl (by decide) inG5 ⟨rfl, rfl, rfl⟩ ww_fl_X5_43 dX5_addRow_25 ?_
      refine B_aload_n dX5_addRow_28 rfl ?_
      refine B_getI (tb_0 hb) vc_5 (k := 9) rfl (by decide) inG5 ⟨rfl, rfl, rfl⟩ ww_fl_X5_40 dX5_addRow_29 ?_
      refine B_iload_n dX5_addRow_32 rfl ?_
      refine B_iast (tb_8 hb) hM dX5_addRow_33 (fun hM => ?_)
      refine B_aload_n dX5_addRow_34 rfl ?_
      refine B_getR (tb_0 hb) vc_5 (k := 11) (j := (b + 9)) rfl (by decide) inG5 ⟨rfl, rfl, rfl⟩ ww_fl_X5_46 dX5_addRow_35 ?_
      refine B_aload_n dX5_addRow_38 rfl ?_
      refine B_getI (tb_0 hb) vc_5 (k := 9) rfl (by decide) inG5 ⟨rfl, rfl, rfl⟩ ww_fl_X5_40 dX5_addRow_39 ?_
      refine B_iload_n dX5_addRow_42 rfl ?_
      refine B_iast (tb_9 hb) hM dX5_addRow_43 (fun hM => ?_)
      refine B_aload_n dX5_addRow_44 rfl ?_
      refine B_getR (tb_0 hb) vc_5 (k := 12) (j := (b + 10)) rfl (by decide) inG5 ⟨rfl, rfl, rfl⟩ ww_fl_X5_49 dX5_addRow_45 ?_
      refine B_aload_n dX5_addRow_48 rfl ?_
      refine B_getI (tb_0 hb) vc_5 (k := 9) rfl (by decide) inG5 ⟨rfl, rfl, rfl⟩ ww_fl_X5_40 dX5_addRow_49 ?_
      refine B_iload_n dX5_addRow_52 rfl ?_
      refine B_iast (tb_10 hb) hM dX5_addRow_53 (fun hM => ?_)
      refine B_aload_n dX5_addRow_54 rfl ?_
      refine B_dupR dX5_addRow_55 ?_
      refine B_getI (tb_0 hb) vc_5 (k := 9) rfl (by decide) inG5 ⟨rfl, rfl, rfl⟩ ww_fl_X5_40 dX5_addRow_56 ?_
      refine B_iconst dX5_addRow_59 k_ic_1 ?_
      refine B_iadd dX5_addRow_60 ?_
      refine B_putI (fits_I _) (tb_0 hb) vc_5 (k := 9) rfl (by decide) inG5 ⟨rfl, rfl, rfl⟩ tyX5 tyX5_ok nmX5 rfl rfl ww_fl_X5_40 dX5_addRow_61 ?_
      refine B_aload_n dX5_addRow_64 rfl ?_
      refine B_getI (tb_0 hb) vc_5 (k := 9) rfl (by decide) inG5 ⟨rfl, rfl, rfl⟩ ww_fl_X5_40 dX5_addRow_65 ?_
      exact B_iret ⟨_, rfl, hM⟩ trivial dX5_addRow_68
    · refine B_bipush dX5_addRow_21 k_bi_m3 ?_
      exact B_iret ⟨_, rfl, hM⟩ trivial dX5_addRow_23
  · refine B_iconst dX5_addRow_10 k_ic_m1 ?_
    exact B_iret ⟨_, rfl, hM⟩ trivial dX5_addRow_11

def P_X6_append (F : Nat) (a1 : Int32) (h : AH) (K : AH → Prop) : Prop := if (h 44 0) < (nI 120) then (vp_in (h 44 0) 120 ∧ ((fun (h1 : AH) => (fun (h2 : AH) => K h2) (up h1 44 0 ((h1 44 0) + (nI 1)))) (up h 45 (h 44 0).toNatClampNeg (vp_nar .byte (a1).toInt8.toInt32)))) else (K h)
set_option maxHeartbeats 4000000 in
theorem c_X6_append {l : Launch} {d : Nat} {F : Nat} {a1 : Int32} {h : AH} {K : AH → Prop} (hd : 0 ≤ d) (hM : P_X6_append F a1 h K) : Ct l yX6_append cX6_append 2 none (rmD d) [.ref 44, .int a1] h (Qv K) := by
  refine Ct_ofBW (by decide) rfl (Nat.le_of_ble_eq_true rfl) ⟨rfl, rfl⟩ ?_
  show BW RX6 cX6_append 2 none l (rmD d) tb0 3 [.ref 44, .int a1] [] 0 h (Qv K)
  unfold P_X6_append at hM
  refine B_aload_n dX6_append_0 rfl ?_
  refine B_getI (sc_44) vc_6 (k := 0) rfl (by decide) inG6 ⟨rfl, rfl, rfl⟩ ww_fl_X6_9 dX6_append_1 ?_
  refine B_bipush dX6_append_4 k_bi_120 ?_
  refine B_icmp_lt dX6_append_6 hM (tgt := 10) rfl (fun hM => ?_) (fun hM => ?_)
  · refine B_aload_n dX6_append_10 rfl ?_
    refine B_getR (sc_44) vc_6 (k := 1) (j := 45) rfl (by decide) inG6 ⟨rfl, rfl, rfl⟩ ww_fl_X6_15 dX6_append_11 ?_
    refine B_aload_n dX6_append_14 rfl ?_
    refine B_getI (sc_44) vc_6 (k := 0) rfl (by decide) inG6 ⟨rfl, rfl, rfl⟩ ww_fl_X6_9 dX6_append_15 ?_
    refine B_iload_n dX6_append_18 rfl ?_
    refine B_i2b dX6_append_19 ?_
    refine B_bast (sc_45) hM dX6_append_20 (fun hM => ?_)
    refine B_aload_n dX6_append_21 rfl ?_
    refine B_dupR dX6_append_22 ?_
    refine B_getI (sc_44) vc_6 (k := 0) rfl (by decide) inG6 ⟨rfl, rfl, rfl⟩ ww_fl_X6_9 dX6_append_23 ?_
    refine B_iconst dX6_append_26 k_ic_1 ?_
    refine B_iadd dX6_append_27 ?_
    refine B_putI (fits_I _) (sc_44) vc_6 (k := 0) rfl (by decide) inG6 ⟨rfl, rfl, rfl⟩ tyX6 tyX6_ok nmX6 rfl rfl ww_fl_X6_9 dX6_append_28 ?_
    exact B_vret ⟨rfl, hM⟩ trivial dX6_append_31
  · exact B_vret ⟨rfl, hM⟩ trivial dX6_append_9

def P_X6_isFigure (F : Nat) (a1 : Int32) (h : AH) (K : Int32 → AH → Prop) : Prop := if a1 < (nI 48) then (K (nI 0) h) else (if (nI 57) < a1 then (K (nI 0) h) else (K (nI 1) h))
set_option maxHeartbeats 4000000 in
theorem c_X6_isFigure {l : Launch} {d : Nat} {F : Nat} {a1 : Int32} {h : AH} {K : Int32 → AH → Prop} (hd : 0 ≤ d) (hM : P_X6_isFigure F a1 h K) : Ct l yX6_isFigure cX6_isFigure 1 (some .boolean) (rmD d) [.int a1] h (Qi K) := by
  refine Ct_ofBW (by decide) rfl (Nat.le_of_ble_eq_true rfl) ⟨rfl, rfl⟩ ?_
  show BW RX6 cX6_isFigure 1 (some .boolean) l (rmD d) tb0 3 [.int a1] [] 0 h (Qi K)
  unfold P_X6_isFigure at hM
  refine B_iload_n dX6_isFigure_0 rfl ?_
  refine B_bipush dX6_isFigure_1 k_bi_48 ?_
  refine B_icmp_lt dX6_isFigure_3 hM (tgt := 16) rfl (fun hM => ?_) (fun hM => ?_)
  · refine B_iconst dX6_isFigure_16 k_ic_0 ?_
    exact B_iret ⟨_, rfl, hM⟩ zB_0 dX6_isFigure_17
  · refine B_iload_n dX6_isFigure_6 rfl ?_
    refine B_bipush dX6_isFigure_7 k_bi_57 ?_
    refine B_icmp_gt dX6_isFigure_9 hM (tgt := 16) rfl (fun hM => ?_) (fun hM => ?_)
    · refine B_iconst dX6_isFigure_16 k_ic_0 ?_
      exact B_iret ⟨_, rfl, hM⟩ zB_0 dX6_isFigure_17
    · refine B_iconst dX6_isFigure_12 k_ic_1 ?_
      refine B_goto (tgt := 17) dX6_isFigure_13 rfl ?_
      exact B_iret ⟨_, rfl, hM⟩ zB_1 dX6_isFigure_17

def P_X6_peek (F : Nat) (h : AH) (K : Int32 → AH → Prop) : Prop := if (h 44 0) ≤ (h 44 2) then (K (nI 0) h) else (vp_in (h 44 2) 120 ∧ (K (h 45 (h 44 2).toNatClampNeg) h))
set_option maxHeartbeats 4000000 in
theorem c_X6_peek {l : Launch} {d : Nat} {F : Nat} {h : AH} {K : Int32 → AH → Prop} (hd : 0 ≤ d) (hM : P_X6_peek F h K) : Ct l yX6_peek cX6_peek 1 (some .int) (rmD d) [.ref 44] h (Qi K) := by
  refine Ct_ofBW (by decide) rfl (Nat.le_of_ble_eq_true rfl) ⟨rfl, rfl⟩ ?_
  show BW RX6 cX6_peek 1 (some .int) l (rmD d) tb0 3 [.ref 44] [] 0 h (Qi K)
  unfold P_X6_peek at hM
  refine B_aload_n dX6_peek_0 rfl ?_
  refine B_getI (sc_44) vc_6 (k := 2) rfl (by decide) inG6 ⟨rfl, rfl, rfl⟩ ww_fl_X6_19 dX6_peek_1 ?_
  refine B_aload_n dX6_peek_4 rfl ?_
  refine B_getI (sc_44) vc_6 (k := 0) rfl (by decide) inG6 ⟨rfl, rfl, rfl⟩ ww_fl_X6_9 dX6_peek_5 ?_
  refine B_icmp_ge dX6_peek_8 hM (tgt := 23) rfl (fun hM => ?_) (fun hM => ?_)
  · refine B_iconst dX6_peek_23 k_ic_0 ?_
    exact B_iret ⟨_, rfl, hM⟩ trivial dX6_peek_24
  · refine B_aload_n dX6_peek_11 rfl ?_
    refine B_getR (sc_44) vc_6 (k := 1) (j := 45) rfl (by decide) inG6 ⟨rfl, rfl, rfl⟩ ww_fl_X6_15 dX6_peek_12 ?_
    refine B_aload_n dX6_peek_15 rfl ?_
    refine B_getI (sc_44) vc_6 (k := 2) rfl (by decide) inG6 ⟨rfl, rfl, rfl⟩ ww_fl_X6_19 dX6_peek_16 ?_
    refine B_bald (sc_45) hM dX6_peek_19 (fun hM => ?_)
    refine B_goto (tgt := 24) dX6_peek_20 rfl ?_
    exact B_iret ⟨_, rfl, hM⟩ trivial dX6_peek_24

def P_X6_parseNumber (F : Nat) (h : AH) (K : Int32 → AH → Prop) : Prop := P_X6_peek F h (fun (r2 : Int32) (h1 : AH) => P_X6_isFigure F r2 h1 (fun (r4 : Int32) (h3 : AH) => if ¬ r4 = (nI 0) then (P_X6_peek F h3 (fun (r6 : Int32) (h5 : AH) => (fun (h7 : AH) => P_X6_peek F h7 (fun (r9 : Int32) (h8 : AH) => P_X6_isFigure F r9 h8 (fun (r11 : Int32) (h10 : AH) => if ¬ r11 = (nI 0) then (P_X6_peek F h10 (fun (r13 : Int32) (h12 : AH) => (fun (h14 : AH) => K ((((nI 10) * (r6 - (nI 48))) + r13) - (nI 48)) h14) (up h12 44 2 ((h12 44 2) + (nI 1))))) else (K (r6 - (nI 48)) h10)))) (up h5 44 2 ((h5 44 2) + (nI 1))))) else (K (-1 : Int32) h3)))
set_option maxHeartbeats 4000000 in
theorem c_X6_parseNumber {l : Launch} {d : Nat} {F : Nat} {h : AH} {K : Int32 → AH → Prop} (hd : 1 ≤ d) (hM : P_X6_parseNumber F h K) : Ct l yX6_parseNumber cX6_parseNumber 2 (some .int) (rmD d) [.ref 44] h (Qi K) := by
  have hk1 : 1 ≤ d := by omega
  have hk_X6_isFigure : 0 ≤ d - 1 := by omega
  have hk_X6_peek : 0 ≤ d - 1 := by omega
  refine Ct_ofBW (by decide) rfl (Nat.le_of_ble_eq_true rfl) ⟨rfl, rfl⟩ ?_
  show BW RX6 cX6_parseNumber 2 (some .int) l (rmD d) tb0 3 [.ref 44, .null] [] 0 h (Qi K)
  unfold P_X6_parseNumber at hM
  refine B_aload_n dX6_parseNumber_0 rfl ?_
  refine B_cV0i (c_X6_peek (d := d - 1) hk_X6_peek  hM) csV_X6_42 (sc_44) vc_6 rfl hp0 (rm_f hk1) (rm_l hk1 (by decide)) (Nat.le_of_ble_eq_true rfl) dX6_parseNumber_1 (fun r2 h1 hM => ?_)
  refine B_cS1i (c_X6_isFigure (d := d - 1) hk_X6_isFigure  hM) csS_X6_56 hp0 (rm_f hk1) (rm_l hk1 (by decide)) (Nat.le_of_ble_eq_true rfl) dX6_parseNumber_4 (fun r4 h3 hM => ?_)
  refine B_if_ne dX6_parseNumber_7 hM (tgt := 12) rfl (fun hM => ?_) (fun hM => ?_)
  · refine B_aload_n dX6_parseNumber_12 rfl ?_
    refine B_cV0i (c_X6_peek (d := d - 1) hk_X6_peek  hM) csV_X6_42 (sc_44) vc_6 rfl hp0 (rm_f hk1) (rm_l hk1 (by decide)) (Nat.le_of_ble_eq_true rfl) dX6_parseNumber_13 (fun r6 h5 hM => ?_)
    refine B_bipush dX6_parseNumber_16 k_bi_48 ?_
    refine B_isub dX6_parseNumber_18 ?_
    refine B_istore_n dX6_parseNumber_19 (Nat.le_of_ble_eq_true rfl) ?_
    refine B_aload_n dX6_parseNumber_20 rfl ?_
    refine B_dupR dX6_parseNumber_21 ?_
    refine B_getI (sc_44) vc_6 (k := 2) rfl (by decide) inG6 ⟨rfl, rfl, rfl⟩ ww_fl_X6_19 dX6_parseNumber_22 ?_
    refine B_iconst dX6_parseNumber_25 k_ic_1 ?_
    refine B_iadd dX6_parseNumber_26 ?_
    refine B_putI (fits_I _) (sc_44) vc_6 (k := 2) rfl (by decide) inG6 ⟨rfl, rfl, rfl⟩ tyX6 tyX6_ok nmX6 rfl rfl ww_fl_X6_19 dX6_parseNumber_27 ?_
    refine B_aload_n dX6_parseNumber_30 rfl ?_
    refine B_cV0i (c_X6_peek (d := d - 1) hk_X6_peek  hM) csV_X6_42 (sc_44) vc_6 rfl hp0 (rm_f hk1) (rm_l hk1 (by decide)) (Nat.le_of_ble_eq_true rfl) dX6_parseNumber_31 (fun r9 h8 hM => ?_)
    refine B_cS1i (c_X6_isFigure (d := d - 1) hk_X6_isFigure  hM) csS_X6_56 hp0 (rm_f hk1) (rm_l hk1 (by decide)) (Nat.le_of_ble_eq_true rfl) dX6_parseNumber_34 (fun r11 h10 hM => ?_)
    refine B_if_ne dX6_parseNumber_37 hM (tgt := 42) rfl (fun hM => ?_) (fun hM => ?_)
    · refine B_bipush dX6_parseNumber_42 k_bi_10 ?_
      refine B_iload_n dX6_parseNumber_44 rfl ?_
      refine B_imul dX6_parseNumber_45 ?_
      refine B_aload_n dX6_parseNumber_46 rfl ?_
      refine B_cV0i (c_X6_peek (d := d - 1) hk_X6_peek  hM) csV_X6_42 (sc_44) vc_6 rfl hp0 (rm_f hk1) (rm_l hk1 (by decide)) (Nat.le_of_ble_eq_true rfl) dX6_parseNumber_47 (fun r13 h12 hM => ?_)
      refine B_iadd dX6_parseNumber_50 ?_
      refine B_bipush dX6_parseNumber_51 k_bi_48 ?_
      refine B_isub dX6_parseNumber_53 ?_
      refine B_istore_n dX6_parseNumber_54 (Nat.le_of_ble_eq_true rfl) ?_
      refine B_aload_n dX6_parseNumber_55 rfl ?_
      refine B_dupR dX6_parseNumber_56 ?_
      refine B_getI (sc_44) vc_6 (k := 2) rfl (by decide) inG6 ⟨rfl, rfl, rfl⟩ ww_fl_X6_19 dX6_parseNumber_57 ?_
      refine B_iconst dX6_parseNumber_60 k_ic_1 ?_
      refine B_iadd dX6_parseNumber_61 ?_
      refine B_putI (fits_I _) (sc_44) vc_6 (k := 2) rfl (by decide) inG6 ⟨rfl, rfl, rfl⟩ tyX6 tyX6_ok nmX6 rfl rfl ww_fl_X6_19 dX6_parseNumber_62 ?_
      refine B_iload_n dX6_parseNumber_65 rfl ?_
      exact B_iret ⟨_, rfl, hM⟩ trivial dX6_parseNumber_66
    · refine B_iload_n dX6_parseNumber_40 rfl ?_
      exact B_iret ⟨_, rfl, hM⟩ trivial dX6_parseNumber_41
  · refine B_iconst dX6_parseNumber_10 k_ic_m1 ?_
    exact B_iret ⟨_, rfl, hM⟩ trivial dX6_parseNumber_11

def P_X6_modeOf (F : Nat) (a1 : Int32) (h : AH) (K : Int32 → AH → Prop) : Prop := if a1 = (nI 111) then (K (nI 5) h) else (if a1 = (nI 115) then (K (nI 2) h) else (if a1 = (nI 117) then (K (nI 4) h) else (K (nI 0) h)))
set_option maxHeartbeats 4000000 in
theorem c_X6_modeOf {l : Launch} {d : Nat} {F : Nat} {a1 : Int32} {h : AH} {K : Int32 → AH → Prop} (hd : 0 ≤ d) (hM : P_X6_modeOf F a1 h K) : Ct l yX6_modeOf cX6_modeOf 1 (some .int) (rmD d) [.int a1] h (Qi K) := by
  refine Ct_ofBW (by decide) rfl (Nat.le_of_ble_eq_true rfl) ⟨rfl, rfl⟩ ?_
  show BW RX6 cX6_modeOf 1 (some .int) l (rmD d) tb0 3 [.int a1] [] 0 h (Qi K)
  unfold P_X6_modeOf at hM
  refine B_iload_n dX6_modeOf_0 rfl ?_
  refine ite_p hM (fun hc0 hM => ?_) (fun hc0 hM => ?_)
  · refine B_look (off := 39) (by decide) (by rw [hc0] <;> rfl) dX6_modeOf_1 (tgt := 40) rfl ?_
    refine B_iconst dX6_modeOf_40 k_ic_5 ?_
    exact B_iret ⟨_, rfl, hM⟩ trivial dX6_modeOf_41
  refine ite_p hM (fun hc1 hM => ?_) (fun hc1 hM => ?_)
  · refine B_look (off := 35) (by decide) (by rw [hc1] <;> rfl) dX6_modeOf_1 (tgt := 36) rfl ?_
    refine B_iconst dX6_modeOf_36 k_ic_2 ?_
    exact B_iret ⟨_, rfl, hM⟩ trivial dX6_modeOf_37
  refine ite_p hM (fun hc2 hM => ?_) (fun hc2 hM => ?_)
  · refine B_look (off := 37) (by decide) (by rw [hc2] <;> rfl) dX6_modeOf_1 (tgt := 38) rfl ?_
    refine B_iconst dX6_modeOf_38 k_ic_4 ?_
    exact B_iret ⟨_, rfl, hM⟩ trivial dX6_modeOf_39
  refine B_look (off := 41) (by decide) (by show Op.lookupswitch.offset [(111, 39), (115, 35), (117, 37)] 41 (a1).toInt = 41; rw [Op.lookupswitch.offset_cons, if_neg (lk_ne (by decide) hc0)]; rw [Op.lookupswitch.offset_cons, if_neg (lk_ne (by decide) hc1)]; rw [Op.lookupswitch.offset_cons, if_neg (lk_ne (by decide) hc2)]; rfl) dX6_modeOf_1 (tgt := 42) rfl ?_
  refine B_iconst dX6_modeOf_42 k_ic_0 ?_
  exact B_iret ⟨_, rfl, hM⟩ trivial dX6_modeOf_43

def P_X6_parseAsk (F : Nat) (a1 : Int32) (h : AH) (K : Int32 → AH → Prop) : Prop := P_X6_peek F h (fun (r2 : Int32) (h1 : AH) => P_X6_modeOf F r2 h1 (fun (r4 : Int32) (h3 : AH) => vp_in a1 61 ∧ ((fun (h5 : AH) => vp_in a1 61 ∧ (if ¬ (h5 48 a1.toNatClampNeg) = (nI 0) then ((fun (h6 : AH) => P_X6_peek F h6 (fun (r8 : Int32) (h7 : AH) => P_X6_isFigure F r8 h7 (fun (r10 : Int32) (h9 : AH) => if ¬ r10 = (nI 0) then (P_X6_peek F h9 (fun (r12 : Int32) (h11 : AH) => vp_in a1 61 ∧ ((fun (h13 : AH) => (fun (h14 : AH) => P_X6_peek F h14 (fun (r16 : Int32) (h15 : AH) => if r16 = (nI 32) then ((fun (h17 : AH) => P_X6_parseNumber F h17 (fun (r19 : Int32) (h18 : AH) => vp_in a1 61 ∧ ((fun (h20 : AH) => vp_in a1 61 ∧ (if (h20 50 a1.toNatClampNeg) < (nI 0) then (K (nI 0) h20) else (K (nI 1) h20))) (up h18 50 a1.toNatClampNeg r19)))) (up h15 44 2 ((h15 44 2) + (nI 1)))) else (K (nI 0) h15))) (up h13 44 2 ((h13 44 2) + (nI 1)))) (up h11 49 a1.toNatClampNeg (r12 - (nI 48)))))) else (K (nI 0) h9)))) (up h5 44 2 ((h5 44 2) + (nI 1)))) else (K (nI 0) h5))) (up h3 48 a1.toNatClampNeg r4))))
set_option maxHeartbeats 4000000 in
theorem c_X6_parseAsk {l : Launch} {d : Nat} {F : Nat} {a1 : Int32} {h : AH} {K : Int32 → AH → Prop} (hd : 2 ≤ d) (hM : P_X6_parseAsk F a1 h K) : Ct l yX6_parseAsk cX6_parseAsk 2 (some .boolean) (rmD d) [.ref 44, .int a1] h (Qi K) := by
  have hk1 : 1 ≤ d := by omega
  have hk_X6_isFigure : 0 ≤ d - 1 := by omega
  have hk_X6_modeOf : 0 ≤ d - 1 := by omega
  have hk_X6_parseNumber : 1 ≤ d - 1 := by omega
  have hk_X6_peek : 0 ≤ d - 1 := by omega
  refine Ct_ofBW (by decide) rfl (Nat.le_of_ble_eq_true rfl) ⟨rfl, rfl⟩ ?_
  show BW RX6 cX6_parseAsk 2 (some .boolean) l (rmD d) tb0 3 [.ref 44, .int a1] [] 0 h (Qi K)
  unfold P_X6_parseAsk at hM
  refine B_aload_n dX6_parseAsk_0 rfl ?_
  refine B_getR (sc_44) vc_6 (k := 5) (j := 48) rfl (by decide) inG6 ⟨rfl, rfl, rfl⟩ ww_fl_X6_29 dX6_parseAsk_1 ?_
  refine B_iload_n dX6_parseAsk_4 rfl ?_
  refine B_aload_n dX6_parseAsk_5 rfl ?_
  refine B_cV0i (c_X6_peek (d := d - 1) hk_X6_peek  hM) csV_X6_42 (sc_44) vc_6 rfl hp0 (rm_f hk1) (rm_l hk1 (by decide)) (Nat.le_of_ble_eq_true rfl) dX6_parseAsk_6 (fun r2 h1 hM => ?_)
  refine B_cS1i (c_X6_modeOf (d := d - 1) hk_X6_modeOf  hM) csS_X6_52 hp0 (rm_f hk1) (rm_l hk1 (by decide)) (Nat.le_of_ble_eq_true rfl) dX6_parseAsk_9 (fun r4 h3 hM => ?_)
  refine B_iast (sc_48) hM dX6_parseAsk_12 (fun hM => ?_)
  refine B_aload_n dX6_parseAsk_13 rfl ?_
  refine B_getR (sc_44) vc_6 (k := 5) (j := 48) rfl (by decide) inG6 ⟨rfl, rfl, rfl⟩ ww_fl_X6_29 dX6_parseAsk_14 ?_
  refine B_iload_n dX6_parseAsk_17 rfl ?_
  refine B_iald (sc_48) hM dX6_parseAsk_18 (fun hM => ?_)
  refine B_if_ne dX6_parseAsk_19 hM (tgt := 24) rfl (fun hM => ?_) (fun hM => ?_)
  · refine B_aload_n dX6_parseAsk_24 rfl ?_
    refine B_dupR dX6_parseAsk_25 ?_
    refine B_getI (sc_44) vc_6 (k := 2) rfl (by decide) inG6 ⟨rfl, rfl, rfl⟩ ww_fl_X6_19 dX6_parseAsk_26 ?_
    refine B_iconst dX6_parseAsk_29 k_ic_1 ?_
    refine B_iadd dX6_parseAsk_30 ?_
    refine B_putI (fits_I _) (sc_44) vc_6 (k := 2) rfl (by decide) inG6 ⟨rfl, rfl, rfl⟩ tyX6 tyX6_ok nmX6 rfl rfl ww_fl_X6_19 dX6_parseAsk_31 ?_
    refine B_aload_n dX6_parseAsk_34 rfl ?_
    refine B_cV0i (c_X6_peek (d := d - 1) hk_X6_peek  hM) csV_X6_42 (sc_44) vc_6 rfl hp0 (rm_f hk1) (rm_l hk1 (by decide)) (Nat.le_of_ble_eq_true rfl) dX6_parseAsk_35 (fun r8 h7 hM => ?_)
    refine B_cS1i (c_X6_isFigure (d := d - 1) hk_X6_isFigure  hM) csS_X6_56 hp0 (rm_f hk1) (rm_l hk1 (by decide)) (Nat.le_of_ble_eq_true rfl) dX6_parseAsk_38 (fun r10 h9 hM => ?_)
    refine B_if_ne dX6_parseAsk_41 hM (tgt := 46) rfl (fun hM => ?_) (fun hM => ?_)
    · refine B_aload_n dX6_parseAsk_46 rfl ?_
      refine B_getR (sc_44) vc_6 (k := 6) (j := 49) rfl (by decide) inG6 ⟨rfl, rfl, rfl⟩ ww_fl_X6_32 dX6_parseAsk_47 ?_
      refine B_iload_n dX6_parseAsk_50 rfl ?_
      refine B_aload_n dX6_parseAsk_51 rfl ?_
      refine B_cV0i (c_X6_peek (d := d - 1) hk_X6_peek  hM) csV_X6_42 (sc_44) vc_6 rfl hp0 (rm_f hk1) (rm_l hk1 (by decide)) (Nat.le_of_ble_eq_true rfl) dX6_parseAsk_52 (fun r12 h11 hM => ?_)
      refine B_bipush dX6_parseAsk_55 k_bi_48 ?_
      refine B_isub dX6_parseAsk_57 ?_
      refine B_iast (sc_49) hM dX6_parseAsk_58 (fun hM => ?_)
      refine B_aload_n dX6_parseAsk_59 rfl ?_
      refine B_dupR dX6_parseAsk_60 ?_
      refine B_getI (sc_44) vc_6 (k := 2) rfl (by decide) inG6 ⟨rfl, rfl, rfl⟩ ww_fl_X6_19 dX6_parseAsk_61 ?_
      refine B_iconst dX6_parseAsk_64 k_ic_1 ?_
      refine B_iadd dX6_parseAsk_65 ?_
      refine B_putI (fits_I _) (sc_44) vc_6 (k := 2) rfl (by decide) inG6 ⟨rfl, rfl, rfl⟩ tyX6 tyX6_ok nmX6 rfl rfl ww_fl_X6_19 dX6_parseAsk_66 ?_
      refine B_aload_n dX6_parseAsk_69 rfl ?_
      refine B_cV0i (c_X6_peek (d := d - 1) hk_X6_peek  hM) csV_X6_42 (sc_44) vc_6 rfl hp0 (rm_f hk1) (rm_l hk1 (by decide)) (Nat.le_of_ble_eq_true rfl) dX6_parseAsk_70 (fun r16 h15 hM => ?_)
      refine B_bipush dX6_parseAsk_73 k_bi_32 ?_
      refine B_icmp_eq dX6_parseAsk_75 hM (tgt := 80) rfl (fun hM => ?_) (fun hM => ?_)
      · refine B_aload_n dX6_parseAsk_80 rfl ?_
        refine B_dupR dX6_parseAsk_81 ?_
        refine B_getI (sc_44) vc_6 (k := 2) rfl (by decide) inG6 ⟨rfl, rfl, rfl⟩ ww_fl_X6_19 dX6_parseAsk_82 ?_
        refine B_iconst dX6_parseAsk_85 k_ic_1 ?_
        refine B_iadd dX6_parseAsk_86 ?_
        refine B_putI (fits_I _) (sc_44) vc_6 (k := 2) rfl (by decide) inG6 ⟨rfl, rfl, rfl⟩ tyX6 tyX6_ok nmX6 rfl rfl ww_fl_X6_19 dX6_parseAsk_87 ?_
        refine B_aload_n dX6_parseAsk_90 rfl ?_
        refine B_getR (sc_44) vc_6 (k := 7) (j := 50) rfl (by decide) inG6 ⟨rfl, rfl, rfl⟩ ww_fl_X6_35 dX6_parseAsk_91 ?_
        refine B_iload_n dX6_parseAsk_94 rfl ?_
        refine B_aload_n dX6_parseAsk_95 rfl ?_
        refine B_cV0i (c_X6_parseNumber (d := d - 1) hk_X6_parseNumber  hM) csV_X6_46 (sc_44) vc_6 rfl hp0 (rm_f hk1) (rm_l hk1 (by decide)) (Nat.le_of_ble_eq_true rfl) dX6_parseAsk_96 (fun r19 h18 hM => ?_)
        refine B_iast (sc_50) hM dX6_parseAsk_99 (fun hM => ?_)
        refine B_aload_n dX6_parseAsk_100 rfl ?_
        refine B_getR (sc_44) vc_6 (k := 7) (j := 50) rfl (by decide) inG6 ⟨rfl, rfl, rfl⟩ ww_fl_X6_35 dX6_parseAsk_101 ?_
        refine B_iload_n dX6_parseAsk_104 rfl ?_
        refine B_iald (sc_50) hM dX6_parseAsk_105 (fun hM => ?_)
        refine B_if_lt dX6_parseAsk_106 hM (tgt := 113) rfl (fun hM => ?_) (fun hM => ?_)
        · refine B_iconst dX6_parseAsk_113 k_ic_0 ?_
          exact B_iret ⟨_, rfl, hM⟩ zB_0 dX6_parseAsk_114
        · refine B_iconst dX6_parseAsk_109 k_ic_1 ?_
          refine B_goto (tgt := 114) dX6_parseAsk_110 rfl ?_
          exact B_iret ⟨_, rfl, hM⟩ zB_1 dX6_parseAsk_114
      · refine B_iconst dX6_parseAsk_78 k_ic_0 ?_
        exact B_iret ⟨_, rfl, hM⟩ zB_0 dX6_parseAsk_79
    · refine B_iconst dX6_parseAsk_44 k_ic_0 ?_
      exact B_iret ⟨_, rfl, hM⟩ zB_0 dX6_parseAsk_45
  · refine B_iconst dX6_parseAsk_22 k_ic_0 ?_
    exact B_iret ⟨_, rfl, hM⟩ zB_0 dX6_parseAsk_23

def X6_parseStatement_c99 (F : Nat) (K : Int32 → AH → Prop) (x1 : Int32) (h : AH) : Prop := P_X6_parseAsk F x1 h (fun (r2 : Int32) (h1 : AH) => zB r2 ∧ K r2 h1)
set_option maxHeartbeats 4000000 in
theorem bw_X6_parseStatement_c99 {l : Launch} {d : Nat} {F : Nat} {K : Int32 → AH → Prop} {x1 : Int32} {h : AH} (hd : 3 ≤ d) (hM : X6_parseStatement_c99 F K x1 h) : BW RX6 cX6_parseStatement 3 (some .boolean) l (rmD d) tb0 3 [.ref 44, .int x1, .null] [] 99 h (Qi K) := by
  have hk1 : 1 ≤ d := by omega
  have hk_X6_parseAsk : 2 ≤ d - 1 := by omega
  have hk_X6_parseNumber : 1 ≤ d - 1 := by omega
  have hk_X6_peek : 0 ≤ d - 1 := by omega
  unfold X6_parseStatement_c99 at hM
  refine B_aload_n dX6_parseStatement_99 rfl ?_
  refine B_iload_n dX6_parseStatement_100 rfl ?_
  refine B_cV1i (c_X6_parseAsk (d := d - 1) hk_X6_parseAsk  hM) csV_X6_49 (sc_44) vc_6 rfl hp0 (rm_f hk1) (rm_l hk1 (by decide)) (Nat.le_of_ble_eq_true rfl) dX6_parseStatement_101 (fun r2 h1 hM => ?_)
  exact B_iret ⟨_, rfl, hM.2⟩ hM.1 dX6_parseStatement_104
def X6_parseStatement_c82 (F : Nat) (K : Int32 → AH → Prop) (x1 : Int32) (x2 : Int32) (s1 : Int32) (s2 : Int32) (h : AH) : Prop := vp_in s1 61 ∧ ((fun (h1 : AH) => if ¬ x2 = (nI 103) then (X6_parseStatement_c99 F K x1 h1) else ((fun (h2 : AH) => X6_parseStatement_c99 F K x1 h2) (up h1 44 2 ((h1 44 2) + (nI 1))))) (up h 47 s1.toNatClampNeg s2))
set_option maxHeartbeats 4000000 in
theorem bw_X6_parseStatement_c82 {l : Launch} {d : Nat} {F : Nat} {K : Int32 → AH → Prop} {x1 : Int32} {x2 : Int32} {s1 : Int32} {s2 : Int32} {h : AH} (hd : 3 ≤ d) (hM : X6_parseStatement_c82 F K x1 x2 s1 s2 h) : BW RX6 cX6_parseStatement 3 (some .boolean) l (rmD d) tb0 3 [.ref 44, .int x1, .int x2] [.int s2, .int s1, .ref 47] 82 h (Qi K) := by
  have hk1 : 1 ≤ d := by omega
  have hk_X6_parseAsk : 2 ≤ d - 1 := by omega
  have hk_X6_parseNumber : 1 ≤ d - 1 := by omega
  have hk_X6_peek : 0 ≤ d - 1 := by omega
  unfold X6_parseStatement_c82 at hM
  refine B_iast (sc_47) hM dX6_parseStatement_82 (fun hM => ?_)
  refine B_iload_n dX6_parseStatement_83 rfl ?_
  refine B_bipush dX6_parseStatement_84 k_bi_103 ?_
  refine B_icmp_ne dX6_parseStatement_86 hM (tgt := 99) rfl (fun hM => ?_) (fun hM => ?_)
  · exact B_wk (bw_X6_parseStatement_c99 hd  hM) (wk_1 (wk_1 (wk_0 wk_n)))
  · refine B_aload_n dX6_parseStatement_89 rfl ?_
    refine B_dupR dX6_parseStatement_90 ?_
    refine B_getI (sc_44) vc_6 (k := 2) rfl (by decide) inG6 ⟨rfl, rfl, rfl⟩ ww_fl_X6_19 dX6_parseStatement_91 ?_
    refine B_iconst dX6_parseStatement_94 k_ic_1 ?_
    refine B_iadd dX6_parseStatement_95 ?_
    refine B_putI (fits_I _) (sc_44) vc_6 (k := 2) rfl (by decide) inG6 ⟨rfl, rfl, rfl⟩ tyX6 tyX6_ok nmX6 rfl rfl ww_fl_X6_19 dX6_parseStatement_96 ?_
    exact B_wk (bw_X6_parseStatement_c99 hd  hM) (wk_1 (wk_1 (wk_0 wk_n)))
def X6_parseStatement_c43 (F : Nat) (K : Int32 → AH → Prop) (x1 : Int32) (s1 : Int32) (s2 : Int32) (h : AH) : Prop := vp_in s1 61 ∧ ((fun (h1 : AH) => (fun (h2 : AH) => P_X6_parseNumber F h2 (fun (r4 : Int32) (h3 : AH) => vp_in x1 61 ∧ ((fun (h5 : AH) => K (nI 1) h5) (up h3 50 x1.toNatClampNeg r4)))) (up h1 44 2 ((h1 44 2) + (nI 1)))) (up h 47 s1.toNatClampNeg s2))
set_option maxHeartbeats 4000000 in
theorem bw_X6_parseStatement_c43 {l : Launch} {d : Nat} {F : Nat} {K : Int32 → AH → Prop} {x1 : Int32} {s1 : Int32} {s2 : Int32} {h : AH} (hd : 3 ≤ d) (hM : X6_parseStatement_c43 F K x1 s1 s2 h) : BW RX6 cX6_parseStatement 3 (some .boolean) l (rmD d) tb0 3 [.ref 44, .int x1, .null] [.int s2, .int s1, .ref 47] 43 h (Qi K) := by
  have hk1 : 1 ≤ d := by omega
  have hk_X6_parseAsk : 2 ≤ d - 1 := by omega
  have hk_X6_parseNumber : 1 ≤ d - 1 := by omega
  have hk_X6_peek : 0 ≤ d - 1 := by omega
  unfold X6_parseStatement_c43 at hM
  refine B_iast (sc_47) hM dX6_parseStatement_43 (fun hM => ?_)
  refine B_aload_n dX6_parseStatement_44 rfl ?_
  refine B_dupR dX6_parseStatement_45 ?_
  refine B_getI (sc_44) vc_6 (k := 2) rfl (by decide) inG6 ⟨rfl, rfl, rfl⟩ ww_fl_X6_19 dX6_parseStatement_46 ?_
  refine B_iconst dX6_parseStatement_49 k_ic_1 ?_
  refine B_iadd dX6_parseStatement_50 ?_
  refine B_putI (fits_I _) (sc_44) vc_6 (k := 2) rfl (by decide) inG6 ⟨rfl, rfl, rfl⟩ tyX6 tyX6_ok nmX6 rfl rfl ww_fl_X6_19 dX6_parseStatement_51 ?_
  refine B_aload_n dX6_parseStatement_54 rfl ?_
  refine B_getR (sc_44) vc_6 (k := 7) (j := 50) rfl (by decide) inG6 ⟨rfl, rfl, rfl⟩ ww_fl_X6_35 dX6_parseStatement_55 ?_
  refine B_iload_n dX6_parseStatement_58 rfl ?_
  refine B_aload_n dX6_parseStatement_59 rfl ?_
  refine B_cV0i (c_X6_parseNumber (d := d - 1) hk_X6_parseNumber  hM) csV_X6_46 (sc_44) vc_6 rfl hp0 (rm_f hk1) (rm_l hk1 (by decide)) (Nat.le_of_ble_eq_true rfl) dX6_parseStatement_60 (fun r4 h3 hM => ?_)
  refine B_iast (sc_50) hM dX6_parseStatement_63 (fun hM => ?_)
  refine B_iconst dX6_parseStatement_64 k_ic_1 ?_
  exact B_iret ⟨_, rfl, hM⟩ zB_1 dX6_parseStatement_65
def X6_parseStatement_c27 (F : Nat) (K : Int32 → AH → Prop) (x1 : Int32) (x2 : Int32) (h : AH) : Prop := if ¬ x2 = (nI 43) then (X6_parseStatement_c43 F K x1 x1 (nI 3) h) else (X6_parseStatement_c43 F K x1 x1 (nI 2) h)
set_option maxHeartbeats 4000000 in
theorem bw_X6_parseStatement_c27 {l : Launch} {d : Nat} {F : Nat} {K : Int32 → AH → Prop} {x1 : Int32} {x2 : Int32} {h : AH} (hd : 3 ≤ d) (hM : X6_parseStatement_c27 F K x1 x2 h) : BW RX6 cX6_parseStatement 3 (some .boolean) l (rmD d) tb0 3 [.ref 44, .int x1, .int x2] [] 27 h (Qi K) := by
  have hk1 : 1 ≤ d := by omega
  have hk_X6_parseAsk : 2 ≤ d - 1 := by omega
  have hk_X6_parseNumber : 1 ≤ d - 1 := by omega
  have hk_X6_peek : 0 ≤ d - 1 := by omega
  unfold X6_parseStatement_c27 at hM
  refine B_aload_n dX6_parseStatement_27 rfl ?_
  refine B_getR (sc_44) vc_6 (k := 4) (j := 47) rfl (by decide) inG6 ⟨rfl, rfl, rfl⟩ ww_fl_X6_26 dX6_parseStatement_28 ?_
  refine B_iload_n dX6_parseStatement_31 rfl ?_
  refine B_iload_n dX6_parseStatement_32 rfl ?_
  refine B_bipush dX6_parseStatement_33 k_bi_43 ?_
  refine B_icmp_ne dX6_parseStatement_35 hM (tgt := 42) rfl (fun hM => ?_) (fun hM => ?_)
  · refine B_iconst dX6_parseStatement_42 k_ic_3 ?_
    exact B_wk (bw_X6_parseStatement_c43 hd  hM) (wk_1 (wk_1 (wk_0 wk_n)))
  · refine B_iconst dX6_parseStatement_38 k_ic_2 ?_
    refine B_goto (tgt := 43) dX6_parseStatement_39 rfl ?_
    exact B_wk (bw_X6_parseStatement_c43 hd  hM) (wk_1 (wk_1 (wk_0 wk_n)))
def P_X6_parseStatement (F : Nat) (a1 : Int32) (h : AH) (K : Int32 → AH → Prop) : Prop := vp_in a1 61 ∧ ((fun (h1 : AH) => P_X6_peek F h1 (fun (r3 : Int32) (h2 : AH) => if r3 = (nI 43) then (X6_parseStatement_c27 F K a1 r3 h2) else (if ¬ r3 = (nI 45) then (if ¬ r3 = (nI 103) then (X6_parseStatement_c82 F K a1 r3 a1 (nI 0) h2) else (X6_parseStatement_c82 F K a1 r3 a1 (nI 1) h2)) else (X6_parseStatement_c27 F K a1 r3 h2)))) (up h 46 a1.toNatClampNeg (h 44 2)))
set_option maxHeartbeats 4000000 in
theorem c_X6_parseStatement {l : Launch} {d : Nat} {F : Nat} {a1 : Int32} {h : AH} {K : Int32 → AH → Prop} (hd : 3 ≤ d) (hM : P_X6_parseStatement F a1 h K) : Ct l yX6_parseStatement cX6_parseStatement 3 (some .boolean) (rmD d) [.ref 44, .int a1] h (Qi K) := by
  have hk1 : 1 ≤ d := by omega
  have hk_X6_parseAsk : 2 ≤ d - 1 := by omega
  have hk_X6_parseNumber : 1 ≤ d - 1 := by omega
  have hk_X6_peek : 0 ≤ d - 1 := by omega
  refine Ct_ofBW (by decide) rfl (Nat.le_of_ble_eq_true rfl) ⟨rfl, rfl⟩ ?_
  show BW RX6 cX6_parseStatement 3 (some .boolean) l (rmD d) tb0 3 [.ref 44, .int a1, .null] [] 0 h (Qi K)
  unfold P_X6_parseStatement at hM
  refine B_aload_n dX6_parseStatement_0 rfl ?_
  refine B_getR (sc_44) vc_6 (k := 3) (j := 46) rfl (by decide) inG6 ⟨rfl, rfl, rfl⟩ ww_fl_X6_22 dX6_parseStatement_1 ?_
  refine B_iload_n dX6_parseStatement_4 rfl ?_
  refine B_aload_n dX6_parseStatement_5 rfl ?_
  refine B_getI (sc_44) vc_6 (k := 2) rfl (by decide) inG6 ⟨rfl, rfl, rfl⟩ ww_fl_X6_19 dX6_parseStatement_6 ?_
  refine B_iast (sc_46) hM dX6_parseStatement_9 (fun hM => ?_)
  refine B_aload_n dX6_parseStatement_10 rfl ?_
  refine B_cV0i (c_X6_peek (d := d - 1) hk_X6_peek  hM) csV_X6_42 (sc_44) vc_6 rfl hp0 (rm_f hk1) (rm_l hk1 (by decide)) (Nat.le_of_ble_eq_true rfl) dX6_parseStatement_11 (fun r3 h2 hM => ?_)
  refine B_istore_n dX6_parseStatement_14 (Nat.le_of_ble_eq_true rfl) ?_
  refine B_iload_n dX6_parseStatement_15 rfl ?_
  refine B_bipush dX6_parseStatement_16 k_bi_43 ?_
  refine B_icmp_eq dX6_parseStatement_18 hM (tgt := 27) rfl (fun hM => ?_) (fun hM => ?_)
  · exact B_wk (bw_X6_parseStatement_c27 hd  hM) (wk_1 (wk_1 (wk_1 wk_n)))
  · refine B_iload_n dX6_parseStatement_21 rfl ?_
    refine B_bipush dX6_parseStatement_22 k_bi_45 ?_
    refine B_icmp_ne dX6_parseStatement_24 hM (tgt := 66) rfl (fun hM => ?_) (fun hM => ?_)
    · refine B_aload_n dX6_parseStatement_66 rfl ?_
      refine B_getR (sc_44) vc_6 (k := 4) (j := 47) rfl (by decide) inG6 ⟨rfl, rfl, rfl⟩ ww_fl_X6_26 dX6_parseStatement_67 ?_
      refine B_iload_n dX6_parseStatement_70 rfl ?_
      refine B_iload_n dX6_parseStatement_71 rfl ?_
      refine B_bipush dX6_parseStatement_72 k_bi_103 ?_
      refine B_icmp_ne dX6_parseStatement_74 hM (tgt := 81) rfl (fun hM => ?_) (fun hM => ?_)
      · refine B_iconst dX6_parseStatement_81 k_ic_0 ?_
        exact B_wk (bw_X6_parseStatement_c82 hd  hM) (wk_1 (wk_1 (wk_1 wk_n)))
      · refine B_iconst dX6_parseStatement_77 k_ic_1 ?_
        refine B_goto (tgt := 82) dX6_parseStatement_78 rfl ?_
        exact B_wk (bw_X6_parseStatement_c82 hd  hM) (wk_1 (wk_1 (wk_1 wk_n)))
    · exact B_wk (bw_X6_parseStatement_c27 hd  hM) (wk_1 (wk_1 (wk_1 wk_n)))

def X6_parse_c7 (F : Nat) (K : Int32 → AH → Prop) (n : Nat) : Int32 → AH → Prop := Nat.rec (motive := fun _ => Int32 → AH → Prop) (fun _ _ => False) (fun _ rc7 x1 h => if (nI 61) ≤ x1 then (K ((-1000 : Int32) - (h 44 2)) h) else (P_X6_parseStatement F x1 h (fun (r2 : Int32) (h1 : AH) => if ¬ r2 = (nI 0) then (if (h1 44 2) < (h1 44 0) then (P_X6_peek F h1 (fun (r4 : Int32) (h3 : AH) => if r4 = (nI 59) then ((fun (h5 : AH) => rc7 (x1 + (nI 1)) h5) (up h3 44 2 ((h3 44 2) + (nI 1)))) else (K ((-1000 : Int32) - (h3 44 2)) h3))) else (K (x1 + (nI 1)) h1)) else (K ((-1000 : Int32) - (h1 44 2)) h1)))) n
theorem X6_parse_c7_s {F : Nat} {K : Int32 → AH → Prop} {n : Nat} {x1 : Int32} {h : AH} : X6_parse_c7 F K (n + 1) x1 h = (if (nI 61) ≤ x1 then (K ((-1000 : Int32) - (h 44 2)) h) else (P_X6_parseStatement F x1 h (fun (r2 : Int32) (h1 : AH) => if ¬ r2 = (nI 0) then (if (h1 44 2) < (h1 44 0) then (P_X6_peek F h1 (fun (r4 : Int32) (h3 : AH) => if r4 = (nI 59) then ((fun (h5 : AH) => (X6_parse_c7 F K n) (x1 + (nI 1)) h5) (up h3 44 2 ((h3 44 2) + (nI 1)))) else (K ((-1000 : Int32) - (h3 44 2)) h3))) else (K (x1 + (nI 1)) h1)) else (K ((-1000 : Int32) - (h1 44 2)) h1)))) := rfl
set_option maxHeartbeats 4000000 in
theorem bw_X6_parse_c7 {l : Launch} {d : Nat} {F : Nat} {K : Int32 → AH → Prop} (hd : 4 ≤ d) : ∀ (n : Nat) (x1 : Int32) (h : AH), X6_parse_c7 F K n x1 h → BW RX6 cX6_parse 2 (some .int) l (rmD d) tb0 3 [.ref 44, .int x1] [] 7 h (Qi K) := by
  have hk1 : 1 ≤ d := by omega
  have hk_X6_parseStatement : 3 ≤ d - 1 := by omega
  have hk_X6_peek : 0 ≤ d - 1 := by omega
  intro n
  induction n with
  | zero =>
    intro x1 h hM
    exact hM.elim
  | succ n hr7 =>
    intro x1 h hM
    rw [X6_parse_c7_s] at hM
    refine B_iload_n dX6_parse_7 rfl ?_
    refine B_bipush dX6_parse_8 k_bi_61 ?_
    refine B_icmp_ge dX6_parse_10 hM (tgt := 67) rfl (fun hM => ?_) (fun hM => ?_)
    · refine B_sipush dX6_parse_67 k_si_m1000 ?_
      refine B_aload_n dX6_parse_70 rfl ?_
      refine B_getI (sc_44) vc_6 (k := 2) rfl (by decide) inG6 ⟨rfl, rfl, rfl⟩ ww_fl_X6_19 dX6_parse_71 ?_
      refine B_isub dX6_parse_74 ?_
      exact B_iret ⟨_, rfl, hM⟩ trivial dX6_parse_75
    · refine B_aload_n dX6_parse_13 rfl ?_
      refine B_iload_n dX6_parse_14 rfl ?_
      refine B_cV1i (c_X6_parseStatement (d := d - 1) hk_X6_parseStatement  hM) csV_X6_38 (sc_44) vc_6 rfl hp0 (rm_f hk1) (rm_l hk1 (by decide)) (Nat.le_of_ble_eq_true rfl) dX6_parse_15 (fun r2 h1 hM => ?_)
      refine B_if_ne dX6_parse_18 hM (tgt := 24) rfl (fun hM => ?_) (fun hM => ?_)
      · refine B_aload_n dX6_parse_24 rfl ?_
        refine B_getI (sc_44) vc_6 (k := 2) rfl (by decide) inG6 ⟨rfl, rfl, rfl⟩ ww_fl_X6_19 dX6_parse_25 ?_
        refine B_aload_n dX6_parse_28 rfl ?_
        refine B_getI (sc_44) vc_6 (k := 0) rfl (by decide) inG6 ⟨rfl, rfl, rfl⟩ ww_fl_X6_9 dX6_parse_29 ?_
        refine B_icmp_lt dX6_parse_32 hM (tgt := 39) rfl (fun hM => ?_) (fun hM => ?_)
        · refine B_aload_n dX6_parse_39 rfl ?_
          refine B_cV0i (c_X6_peek (d := d - 1) hk_X6_peek  hM) csV_X6_42 (sc_44) vc_6 rfl hp0 (rm_f hk1) (rm_l hk1 (by decide)) (Nat.le_of_ble_eq_true rfl) dX6_parse_40 (fun r4 h3 hM => ?_)
          refine B_bipush dX6_parse_43 k_bi_59 ?_
          refine B_icmp_eq dX6_parse_45 hM (tgt := 51) rfl (fun hM => ?_) (fun hM => ?_)
          · refine B_aload_n dX6_parse_51 rfl ?_
            refine B_dupR dX6_parse_52 ?_
            refine B_getI (sc_44) vc_6 (k := 2) rfl (by decide) inG6 ⟨rfl, rfl, rfl⟩ ww_fl_X6_19 dX6_parse_53 ?_
            refine B_iconst dX6_parse_56 k_ic_1 ?_
            refine B_iadd dX6_parse_57 ?_
            refine B_putI (fits_I _) (sc_44) vc_6 (k := 2) rfl (by decide) inG6 ⟨rfl, rfl, rfl⟩ tyX6 tyX6_ok nmX6 rfl rfl ww_fl_X6_19 dX6_parse_58 ?_
            refine B_iinc dX6_parse_61 rfl k_ic_1 (Nat.le_of_ble_eq_true rfl) ?_
            refine B_goto (tgt := 7) dX6_parse_64 rfl ?_
            exact B_wk (hr7 _ _ hM) (wk_1 (wk_1 wk_n))
          · refine B_goto (tgt := 67) dX6_parse_48 rfl ?_
            refine B_sipush dX6_parse_67 k_si_m1000 ?_
            refine B_aload_n dX6_parse_70 rfl ?_
            refine B_getI (sc_44) vc_6 (k := 2) rfl (by decide) inG6 ⟨rfl, rfl, rfl⟩ ww_fl_X6_19 dX6_parse_71 ?_
            refine B_isub dX6_parse_74 ?_
            exact B_iret ⟨_, rfl, hM⟩ trivial dX6_parse_75
        · refine B_iload_n dX6_parse_35 rfl ?_
          refine B_iconst dX6_parse_36 k_ic_1 ?_
          refine B_iadd dX6_parse_37 ?_
          exact B_iret ⟨_, rfl, hM⟩ trivial dX6_parse_38
      · refine B_goto (tgt := 67) dX6_parse_21 rfl ?_
        refine B_sipush dX6_parse_67 k_si_m1000 ?_
        refine B_aload_n dX6_parse_70 rfl ?_
        refine B_getI (sc_44) vc_6 (k := 2) rfl (by decide) inG6 ⟨rfl, rfl, rfl⟩ ww_fl_X6_19 dX6_parse_71 ?_
        refine B_isub dX6_parse_74 ?_
        exact B_iret ⟨_, rfl, hM⟩ trivial dX6_parse_75
def P_X6_parse (F : Nat) (h : AH) (K : Int32 → AH → Prop) : Prop := (fun (h1 : AH) => X6_parse_c7 F K F (nI 0) h1) (up h 44 2 (nI 0))
set_option maxHeartbeats 4000000 in
theorem c_X6_parse {l : Launch} {d : Nat} {F : Nat} {h : AH} {K : Int32 → AH → Prop} (hd : 4 ≤ d) (hM : P_X6_parse F h K) : Ct l yX6_parse cX6_parse 2 (some .int) (rmD d) [.ref 44] h (Qi K) := by
  have hk1 : 1 ≤ d := by omega
  have hk_X6_parseStatement : 3 ≤ d - 1 := by omega
  have hk_X6_peek : 0 ≤ d - 1 := by omega
  refine Ct_ofBW (by decide) rfl (Nat.le_of_ble_eq_true rfl) ⟨rfl, rfl⟩ ?_
  show BW RX6 cX6_parse 2 (some .int) l (rmD d) tb0 3 [.ref 44, .null] [] 0 h (Qi K)
  unfold P_X6_parse at hM
  refine B_aload_n dX6_parse_0 rfl ?_
  refine B_iconst dX6_parse_1 k_ic_0 ?_
  refine B_putI (fits_I _) (sc_44) vc_6 (k := 2) rfl (by decide) inG6 ⟨rfl, rfl, rfl⟩ tyX6 tyX6_ok nmX6 rfl rfl ww_fl_X6_19 dX6_parse_2 ?_
  refine B_iconst dX6_parse_5 k_ic_0 ?_
  refine B_istore_n dX6_parse_6 (Nat.le_of_ble_eq_true rfl) ?_
  exact B_wk (bw_X6_parse_c7 hd  _ _ _ hM) (wk_1 (wk_1 wk_n))

def P_X6_perform (F : Nat) (b : Nat) (a1 : Int32) (h : AH) (K : Int32 → AH → Prop) : Prop := vp_in a1 61 ∧ (if (h 47 a1.toNatClampNeg) = (nI 1) then (vp_in a1 61 ∧ (vp_in a1 61 ∧ (vp_in a1 61 ∧ (P_X5_giveUp F b (h 49 a1.toNatClampNeg) (h 50 a1.toNatClampNeg) (h 48 a1.toNatClampNeg) h (fun (r2 : Int32) (h1 : AH) => K r2 h1))))) else (if (h 47 a1.toNatClampNeg) = (nI 2) then (vp_in a1 61 ∧ (P_X5_addThing F b (h 50 a1.toNatClampNeg) (nI 0) h (fun (r4 : Int32) (h3 : AH) => K r4 h3))) else (if (h 47 a1.toNatClampNeg) = (nI 3) then (vp_in a1 61 ∧ (P_X5_addThing F b (h 50 a1.toNatClampNeg) (nI 1) h (fun (r6 : Int32) (h5 : AH) => K r6 h5))) else (vp_in a1 61 ∧ (vp_in a1 61 ∧ (vp_in a1 61 ∧ (P_X5_request F b (h 49 a1.toNatClampNeg) (h 50 a1.toNatClampNeg) (h 48 a1.toNatClampNeg) h (fun (r8 : Int32) (h7 : AH) => K r8 h7))))))))
set_option maxHeartbeats 4000000 in
theorem c_X6_perform {l : Launch} {d : Nat} {F : Nat} {b : Nat} {a1 : Int32} {h : AH} {K : Int32 → AH → Prop} (hd : 5 ≤ d) (hb : isTbl b) (hM : P_X6_perform F b a1 h K) : Ct l yX6_perform cX6_perform 3 (some .int) (rmD d) [.ref 44, .int a1, .ref b] h (Qi K) := by
  have hk1 : 1 ≤ d := by omega
  have hk_X5_addThing : 1 ≤ d - 1 := by omega
  have hk_X5_giveUp : 4 ≤ d - 1 := by omega
  have hk_X5_request : 3 ≤ d - 1 := by omega
  refine Ct_ofBW (by decide) rfl (Nat.le_of_ble_eq_true rfl) ⟨rfl, rfl⟩ ?_
  show BW RX6 cX6_perform 3 (some .int) l (rmD d) tb0 3 [.ref 44, .int a1, .ref b] [] 0 h (Qi K)
  unfold P_X6_perform at hM
  refine B_aload_n dX6_perform_0 rfl ?_
  refine B_getR (sc_44) vc_6 (k := 4) (j := 47) rfl (by decide) inG6 ⟨rfl, rfl, rfl⟩ ww_fl_X6_26 dX6_perform_1 ?_
  refine B_iload_n dX6_perform_4 rfl ?_
  refine B_iald (sc_47) hM dX6_perform_5 (fun hM => ?_)
  refine ite_p hM (fun hc0 hM => ?_) (fun hc0 hM => ?_)
  · refine B_tin hc0 (by decide) (by decide) rfl dX6_perform_6 (tgt := 56) rfl ?_
    refine B_aload_n dX6_perform_56 rfl ?_
    refine B_aload_n dX6_perform_57 rfl ?_
    refine B_getR (sc_44) vc_6 (k := 6) (j := 49) rfl (by decide) inG6 ⟨rfl, rfl, rfl⟩ ww_fl_X6_32 dX6_perform_58 ?_
    refine B_iload_n dX6_perform_61 rfl ?_
    refine B_iald (sc_49) hM dX6_perform_62 (fun hM => ?_)
    refine B_aload_n dX6_perform_63 rfl ?_
    refine B_getR (sc_44) vc_6 (k := 7) (j := 50) rfl (by decide) inG6 ⟨rfl, rfl, rfl⟩ ww_fl_X6_35 dX6_perform_64 ?_
    refine B_iload_n dX6_perform_67 rfl ?_
    refine B_iald (sc_50) hM dX6_perform_68 (fun hM => ?_)
    refine B_aload_n dX6_perform_69 rfl ?_
    refine B_getR (sc_44) vc_6 (k := 5) (j := 48) rfl (by decide) inG6 ⟨rfl, rfl, rfl⟩ ww_fl_X6_29 dX6_perform_70 ?_
    refine B_iload_n dX6_perform_73 rfl ?_
    refine B_iald (sc_48) hM dX6_perform_74 (fun hM => ?_)
    refine B_cV3i (c_X5_giveUp (d := d - 1) hk_X5_giveUp hb hM) csV_X6_65 (tb_0 hb) vc_5 rfl hp0 (rm_f hk1) (rm_l hk1 (by decide)) (Nat.le_of_ble_eq_true rfl) dX6_perform_75 (fun r2 h1 hM => ?_)
    exact B_iret ⟨_, rfl, hM⟩ trivial dX6_perform_78
  refine ite_p hM (fun hc1 hM => ?_) (fun hc1 hM => ?_)
  · refine B_tin hc1 (by decide) (by decide) rfl dX6_perform_6 (tgt := 32) rfl ?_
    refine B_aload_n dX6_perform_32 rfl ?_
    refine B_aload_n dX6_perform_33 rfl ?_
    refine B_getR (sc_44) vc_6 (k := 7) (j := 50) rfl (by decide) inG6 ⟨rfl, rfl, rfl⟩ ww_fl_X6_35 dX6_perform_34 ?_
    refine B_iload_n dX6_perform_37 rfl ?_
    refine B_iald (sc_50) hM dX6_perform_38 (fun hM => ?_)
    refine B_iconst dX6_perform_39 k_ic_0 ?_
    refine B_cV2i (c_X5_addThing (d := d - 1) hk_X5_addThing hb hM) csV_X6_59 (tb_0 hb) vc_5 rfl hp0 (rm_f hk1) (rm_l hk1 (by decide)) (Nat.le_of_ble_eq_true rfl) dX6_perform_40 (fun r4 h3 hM => ?_)
    exact B_iret ⟨_, rfl, hM⟩ trivial dX6_perform_43
  refine ite_p hM (fun hc2 hM => ?_) (fun hc2 hM => ?_)
  · refine B_tin hc2 (by decide) (by decide) rfl dX6_perform_6 (tgt := 44) rfl ?_
    refine B_aload_n dX6_perform_44 rfl ?_
    refine B_aload_n dX6_perform_45 rfl ?_
    refine B_getR (sc_44) vc_6 (k := 7) (j := 50) rfl (by decide) inG6 ⟨rfl, rfl, rfl⟩ ww_fl_X6_35 dX6_perform_46 ?_
    refine B_iload_n dX6_perform_49 rfl ?_
    refine B_iald (sc_50) hM dX6_perform_50 (fun hM => ?_)
    refine B_iconst dX6_perform_51 k_ic_1 ?_
    refine B_cV2i (c_X5_addThing (d := d - 1) hk_X5_addThing hb hM) csV_X6_59 (tb_0 hb) vc_5 rfl hp0 (rm_f hk1) (rm_l hk1 (by decide)) (Nat.le_of_ble_eq_true rfl) dX6_perform_52 (fun r6 h5 hM => ?_)
    exact B_iret ⟨_, rfl, hM⟩ trivial dX6_perform_55
  refine B_tout (tsw_out1 hc0 hc1 hc2) dX6_perform_6 (tgt := 79) rfl ?_
  refine B_aload_n dX6_perform_79 rfl ?_
  refine B_aload_n dX6_perform_80 rfl ?_
  refine B_getR (sc_44) vc_6 (k := 6) (j := 49) rfl (by decide) inG6 ⟨rfl, rfl, rfl⟩ ww_fl_X6_32 dX6_perform_81 ?_
  refine B_iload_n dX6_perform_84 rfl ?_
  refine B_iald (sc_49) hM dX6_perform_85 (fun hM => ?_)
  refine B_aload_n dX6_perform_86 rfl ?_
  refine B_getR (sc_44) vc_6 (k := 7) (j := 50) rfl (by decide) inG6 ⟨rfl, rfl, rfl⟩ ww_fl_X6_35 dX6_perform_87 ?_
  refine B_iload_n dX6_perform_90 rfl ?_
  refine B_iald (sc_50) hM dX6_perform_91 (fun hM => ?_)
  refine B_aload_n dX6_perform_92 rfl ?_
  refine B_getR (sc_44) vc_6 (k := 5) (j := 48) rfl (by decide) inG6 ⟨rfl, rfl, rfl⟩ ww_fl_X6_29 dX6_perform_93 ?_
  refine B_iload_n dX6_perform_96 rfl ?_
  refine B_iald (sc_48) hM dX6_perform_97 (fun hM => ?_)
  refine B_cV3i (c_X5_request (d := d - 1) hk_X5_request hb hM) csV_X6_69 (tb_0 hb) vc_5 rfl hp0 (rm_f hk1) (rm_l hk1 (by decide)) (Nat.le_of_ble_eq_true rfl) dX6_perform_98 (fun r8 h7 hM => ?_)
  exact B_iret ⟨_, rfl, hM⟩ trivial dX6_perform_101

def P_X7_thing (F : Nat) (a1 : Int32) (a2 : Int32) (h : AH) (K : Int32 → AH → Prop) : Prop := P_X5_addThing F 1 a1 a2 h (fun (r2 : Int32) (h1 : AH) => K r2 h1)
set_option maxHeartbeats 4000000 in
theorem c_X7_thing {l : Launch} {d : Nat} {F : Nat} {a1 : Int32} {a2 : Int32} {h : AH} {K : Int32 → AH → Prop} (hd : 2 ≤ d) (hM : P_X7_thing F a1 a2 h K) : Ct l yX7_thing cX7_thing 3 (some .int) (rmD d) [.ref 0, .int a1, .int a2] h (Qi K) := by
  have hk1 : 1 ≤ d := by omega
  have hk_X5_addThing : 1 ≤ d - 1 := by omega
  refine Ct_ofBW (by decide) rfl (Nat.le_of_ble_eq_true rfl) ⟨rfl, rfl⟩ ?_
  show BW RX7 cX7_thing 3 (some .int) l (rmD d) tb0 3 [.ref 0, .int a1, .int a2] [] 0 h (Qi K)
  unfold P_X7_thing at hM
  refine B_aload_n dX7_thing_0 rfl ?_
  refine B_getR (sc_0) vc_7 (k := 0) (j := 1) rfl (by decide) inG7 ⟨rfl, rfl, rfl⟩ ww_fl_X7_12 dX7_thing_1 ?_
  refine B_iload_n dX7_thing_4 rfl ?_
  refine B_iload_n dX7_thing_5 rfl ?_
  refine B_cV2i (c_X5_addThing (d := d - 1) hk_X5_addThing isTbl_1 hM) csV_X7_70 (sc_1) vc_5 rfl hp0 (rm_f hk1) (rm_l hk1 (by decide)) (Nat.le_of_ble_eq_true rfl) dX7_thing_6 (fun r2 h1 hM => ?_)
  exact B_iret ⟨_, rfl, hM⟩ trivial dX7_thing_9

def P_X7_thingOf (F : Nat) (a1 : Int32) (a2 : Int32) (h : AH) (K : Int32 → AH → Prop) : Prop := P_X5_isThing F 1 a1 h (fun (r2 : Int32) (h1 : AH) => if ¬ r2 = (nI 0) then (if a2 = (nI 0) then (vp_in a1 12 ∧ (K (h1 2 a1.toNatClampNeg) h1)) else (if a2 = (nI 1) then (vp_in a1 12 ∧ (K (h1 3 a1.toNatClampNeg) h1)) else (if a2 = (nI 2) then (P_X5_wholesAbove F 1 a1 h1 (fun (r4 : Int32) (h3 : AH) => K r4 h3)) else (if a2 = (nI 3) then (P_X5_partBits F 1 a1 h1 (fun (r6 : Int32) (h5 : AH) => K r6 h5)) else (if a2 = (nI 4) then (P_X5_countsAt F 1 a1 h1 (fun (r8 : Int32) (h7 : AH) => K r8 h7)) else (if a2 = (nI 5) then (P_X5_asksFor F 1 a1 h1 (fun (r10 : Int32) (h9 : AH) => K r10 h9)) else (K (-1 : Int32) h1))))))) else (K (-1 : Int32) h1))
set_option maxHeartbeats 4000000 in
theorem c_X7_thingOf {l : Launch} {d : Nat} {F : Nat} {a1 : Int32} {a2 : Int32} {h : AH} {K : Int32 → AH → Prop} (hd : 2 ≤ d) (hM : P_X7_thingOf F a1 a2 h K) : Ct l yX7_thingOf cX7_thingOf 3 (some .int) (rmD d) [.ref 0, .int a1, .int a2] h (Qi K) := by
  have hk1 : 1 ≤ d := by omega
  have hk_X5_asksFor : 1 ≤ d - 1 := by omega
  have hk_X5_countsAt : 0 ≤ d - 1 := by omega
  have hk_X5_isThing : 0 ≤ d - 1 := by omega
  have hk_X5_partBits : 0 ≤ d - 1 := by omega
  have hk_X5_wholesAbove : 0 ≤ d - 1 := by omega
  refine Ct_ofBW (by decide) rfl (Nat.le_of_ble_eq_true rfl) ⟨rfl, rfl⟩ ?_
  show BW RX7 cX7_thingOf 3 (some .int) l (rmD d) tb0 3 [.ref 0, .int a1, .int a2] [] 0 h (Qi K)
  unfold P_X7_thingOf at hM
  refine B_aload_n dX7_thingOf_0 rfl ?_
  refine B_getR (sc_0) vc_7 (k := 0) (j := 1) rfl (by decide) inG7 ⟨rfl, rfl, rfl⟩ ww_fl_X7_12 dX7_thingOf_1 ?_
  refine B_iload_n dX7_thingOf_4 rfl ?_
  refine B_cV1i (c_X5_isThing (d := d - 1) hk_X5_isThing isTbl_1 hM) csV_X7_74 (sc_1) vc_5 rfl hp0 (rm_f hk1) (rm_l hk1 (by decide)) (Nat.le_of_ble_eq_true rfl) dX7_thingOf_5 (fun r2 h1 hM => ?_)
  refine B_if_ne dX7_thingOf_8 hM (tgt := 13) rfl (fun hM => ?_) (fun hM => ?_)
  · refine B_iload_n dX7_thingOf_13 rfl ?_
    refine ite_p hM (fun hc0 hM => ?_) (fun hc0 hM => ?_)
    · refine B_tin hc0 (by decide) (by decide) rfl dX7_thingOf_14 (tgt := 52) rfl ?_
      refine B_aload_n dX7_thingOf_52 rfl ?_
      refine B_getR (sc_0) vc_7 (k := 0) (j := 1) rfl (by decide) inG7 ⟨rfl, rfl, rfl⟩ ww_fl_X7_12 dX7_thingOf_53 ?_
      refine B_getR (sc_1) vc_5 (k := 1) (j := 2) rfl (by decide) inG5 ⟨rfl, rfl, rfl⟩ ww_fl_X7_78 dX7_thingOf_56 ?_
      refine B_iload_n dX7_thingOf_59 rfl ?_
      refine B_iald (sc_2) hM dX7_thingOf_60 (fun hM => ?_)
      exact B_iret ⟨_, rfl, hM⟩ trivial dX7_thingOf_61
    refine ite_p hM (fun hc1 hM => ?_) (fun hc1 hM => ?_)
    · refine B_tin hc1 (by decide) (by decide) rfl dX7_thingOf_14 (tgt := 62) rfl ?_
      refine B_aload_n dX7_thingOf_62 rfl ?_
      refine B_getR (sc_0) vc_7 (k := 0) (j := 1) rfl (by decide) inG7 ⟨rfl, rfl, rfl⟩ ww_fl_X7_12 dX7_thingOf_63 ?_
      refine B_getR (sc_1) vc_5 (k := 2) (j := 3) rfl (by decide) inG5 ⟨rfl, rfl, rfl⟩ ww_fl_X7_82 dX7_thingOf_66 ?_
      refine B_iload_n dX7_thingOf_69 rfl ?_
      refine B_iald (sc_3) hM dX7_thingOf_70 (fun hM => ?_)
      exact B_iret ⟨_, rfl, hM⟩ trivial dX7_thingOf_71
    refine ite_p hM (fun hc2 hM => ?_) (fun hc2 hM => ?_)
    · refine B_tin hc2 (by decide) (by decide) rfl dX7_thingOf_14 (tgt := 72) rfl ?_
      refine B_aload_n dX7_thingOf_72 rfl ?_
      refine B_getR (sc_0) vc_7 (k := 0) (j := 1) rfl (by decide) inG7 ⟨rfl, rfl, rfl⟩ ww_fl_X7_12 dX7_thingOf_73 ?_
      refine B_iload_n dX7_thingOf_76 rfl ?_
      refine B_cV1i (c_X5_wholesAbove (d := d - 1) hk_X5_wholesAbove isTbl_1 hM) csV_X7_85 (sc_1) vc_5 rfl hp0 (rm_f hk1) (rm_l hk1 (by decide)) (Nat.le_of_ble_eq_true rfl) dX7_thingOf_77 (fun r4 h3 hM => ?_)
      exact B_iret ⟨_, rfl, hM⟩ trivial dX7_thingOf_80
    refine ite_p hM (fun hc3 hM => ?_) (fun hc3 hM => ?_)
    · refine B_tin hc3 (by decide) (by decide) rfl dX7_thingOf_14 (tgt := 81) rfl ?_
      refine B_aload_n dX7_thingOf_81 rfl ?_
      refine B_getR (sc_0) vc_7 (k := 0) (j := 1) rfl (by decide) inG7 ⟨rfl, rfl, rfl⟩ ww_fl_X7_12 dX7_thingOf_82 ?_
      refine B_iload_n dX7_thingOf_85 rfl ?_
      refine B_cV1i (c_X5_partBits (d := d - 1) hk_X5_partBits isTbl_1 hM) csV_X7_89 (sc_1) vc_5 rfl hp0 (rm_f hk1) (rm_l hk1 (by decide)) (Nat.le_of_ble_eq_true rfl) dX7_thingOf_86 (fun r6 h5 hM => ?_)
      exact B_iret ⟨_, rfl, hM⟩ trivial dX7_thingOf_89
    refine ite_p hM (fun hc4 hM => ?_) (fun hc4 hM => ?_)
    · refine B_tin hc4 (by decide) (by decide) rfl dX7_thingOf_14 (tgt := 90) rfl ?_
      refine B_aload_n dX7_thingOf_90 rfl ?_
      refine B_getR (sc_0) vc_7 (k := 0) (j := 1) rfl (by decide) inG7 ⟨rfl, rfl, rfl⟩ ww_fl_X7_12 dX7_thingOf_91 ?_
      refine B_iload_n dX7_thingOf_94 rfl ?_
      refine B_cV1i (c_X5_countsAt (d := d - 1) hk_X5_countsAt isTbl_1 hM) csV_X7_92 (sc_1) vc_5 rfl hp0 (rm_f hk1) (rm_l hk1 (by decide)) (Nat.le_of_ble_eq_true rfl) dX7_thingOf_95 (fun r8 h7 hM => ?_)
      exact B_iret ⟨_, rfl, hM⟩ trivial dX7_thingOf_98
    refine ite_p hM (fun hc5 hM => ?_) (fun hc5 hM => ?_)
    · refine B_tin hc5 (by decide) (by decide) rfl dX7_thingOf_14 (tgt := 99) rfl ?_
      refine B_aload_n dX7_thingOf_99 rfl ?_
      refine B_getR (sc_0) vc_7 (k := 0) (j := 1) rfl (by decide) inG7 ⟨rfl, rfl, rfl⟩ ww_fl_X7_12 dX7_thingOf_100 ?_
      refine B_iload_n dX7_thingOf_103 rfl ?_
      refine B_cV1i (c_X5_asksFor (d := d - 1) hk_X5_asksFor isTbl_1 hM) csV_X7_95 (sc_1) vc_5 rfl hp0 (rm_f hk1) (rm_l hk1 (by decide)) (Nat.le_of_ble_eq_true rfl) dX7_thingOf_104 (fun r10 h9 hM => ?_)
      exact B_iret ⟨_, rfl, hM⟩ trivial dX7_thingOf_107
    refine B_tout (tsw_out2 (n := 6) (by decide) (lt_s (lt_s (lt_s (lt_s (lt_s (lt_s lt_0 hc0) hc1) hc2) hc3) hc4) hc5) (by decide)) dX7_thingOf_14 (tgt := 108) rfl ?_
    refine B_iconst dX7_thingOf_108 k_ic_m1 ?_
    exact B_iret ⟨_, rfl, hM⟩ trivial dX7_thingOf_109
  · refine B_iconst dX7_thingOf_11 k_ic_m1 ?_
    exact B_iret ⟨_, rfl, hM⟩ trivial dX7_thingOf_12

def P_X7_ask (F : Nat) (a1 : Int32) (a2 : Int32) (a3 : Int32) (h : AH) (K : Int32 → AH → Prop) : Prop := P_X5_request F 1 a1 a2 a3 h (fun (r2 : Int32) (h1 : AH) => K r2 h1)
set_option maxHeartbeats 4000000 in
theorem c_X7_ask {l : Launch} {d : Nat} {F : Nat} {a1 : Int32} {a2 : Int32} {a3 : Int32} {h : AH} {K : Int32 → AH → Prop} (hd : 4 ≤ d) (hM : P_X7_ask F a1 a2 a3 h K) : Ct l yX7_ask cX7_ask 4 (some .int) (rmD d) [.ref 0, .int a1, .int a2, .int a3] h (Qi K) := by
  have hk1 : 1 ≤ d := by omega
  have hk_X5_request : 3 ≤ d - 1 := by omega
  refine Ct_ofBW (by decide) rfl (Nat.le_of_ble_eq_true rfl) ⟨rfl, rfl⟩ ?_
  show BW RX7 cX7_ask 4 (some .int) l (rmD d) tb0 3 [.ref 0, .int a1, .int a2, .int a3] [] 0 h (Qi K)
  unfold P_X7_ask at hM
  refine B_aload_n dX7_ask_0 rfl ?_
  refine B_getR (sc_0) vc_7 (k := 0) (j := 1) rfl (by decide) inG7 ⟨rfl, rfl, rfl⟩ ww_fl_X7_12 dX7_ask_1 ?_
  refine B_iload_n dX7_ask_4 rfl ?_
  refine B_iload_n dX7_ask_5 rfl ?_
  refine B_iload_n dX7_ask_6 rfl ?_
  refine B_cV3i (c_X5_request (d := d - 1) hk_X5_request isTbl_1 hM) csV_X7_98 (sc_1) vc_5 rfl hp0 (rm_f hk1) (rm_l hk1 (by decide)) (Nat.le_of_ble_eq_true rfl) dX7_ask_7 (fun r2 h1 hM => ?_)
  exact B_iret ⟨_, rfl, hM⟩ trivial dX7_ask_10

def P_X7_give (F : Nat) (a1 : Int32) (a2 : Int32) (a3 : Int32) (h : AH) (K : Int32 → AH → Prop) : Prop := P_X5_giveUp F 1 a1 a2 a3 h (fun (r2 : Int32) (h1 : AH) => K r2 h1)
set_option maxHeartbeats 4000000 in
theorem c_X7_give {l : Launch} {d : Nat} {F : Nat} {a1 : Int32} {a2 : Int32} {a3 : Int32} {h : AH} {K : Int32 → AH → Prop} (hd : 5 ≤ d) (hM : P_X7_give F a1 a2 a3 h K) : Ct l yX7_give cX7_give 4 (some .int) (rmD d) [.ref 0, .int a1, .int a2, .int a3] h (Qi K) := by
  have hk1 : 1 ≤ d := by omega
  have hk_X5_giveUp : 4 ≤ d - 1 := by omega
  refine Ct_ofBW (by decide) rfl (Nat.le_of_ble_eq_true rfl) ⟨rfl, rfl⟩ ?_
  show BW RX7 cX7_give 4 (some .int) l (rmD d) tb0 3 [.ref 0, .int a1, .int a2, .int a3] [] 0 h (Qi K)
  unfold P_X7_give at hM
  refine B_aload_n dX7_give_0 rfl ?_
  refine B_getR (sc_0) vc_7 (k := 0) (j := 1) rfl (by decide) inG7 ⟨rfl, rfl, rfl⟩ ww_fl_X7_12 dX7_give_1 ?_
  refine B_iload_n dX7_give_4 rfl ?_
  refine B_iload_n dX7_give_5 rfl ?_
  refine B_iload_n dX7_give_6 rfl ?_
  refine B_cV3i (c_X5_giveUp (d := d - 1) hk_X5_giveUp isTbl_1 hM) csV_X7_102 (sc_1) vc_5 rfl hp0 (rm_f hk1) (rm_l hk1 (by decide)) (Nat.le_of_ble_eq_true rfl) dX7_give_7 (fun r2 h1 hM => ?_)
  exact B_iret ⟨_, rfl, hM⟩ trivial dX7_give_10

def P_X7_leaves (F : Nat) (a1 : Int32) (h : AH) (K : Int32 → AH → Prop) : Prop := P_X7_isOwner F a1 h (fun (r2 : Int32) (h1 : AH) => if r2 = (nI 0) then (K (-1 : Int32) h1) else (P_X5_giveUpAll F 1 a1 h1 (fun (r4 : Int32) (h3 : AH) => K r4 h3)))
set_option maxHeartbeats 4000000 in
theorem c_X7_leaves {l : Launch} {d : Nat} {F : Nat} {a1 : Int32} {h : AH} {K : Int32 → AH → Prop} (hd : 5 ≤ d) (hM : P_X7_leaves F a1 h K) : Ct l yX7_leaves cX7_leaves 2 (some .int) (rmD d) [.ref 0, .int a1] h (Qi K) := by
  have hk1 : 1 ≤ d := by omega
  have hk_X5_giveUpAll : 4 ≤ d - 1 := by omega
  have hk_X7_isOwner : 0 ≤ d - 1 := by omega
  refine Ct_ofBW (by decide) rfl (Nat.le_of_ble_eq_true rfl) ⟨rfl, rfl⟩ ?_
  show BW RX7 cX7_leaves 2 (some .int) l (rmD d) tb0 3 [.ref 0, .int a1] [] 0 h (Qi K)
  unfold P_X7_leaves at hM
  refine B_iload_n dX7_leaves_0 rfl ?_
  refine B_cS1i (c_X7_isOwner (d := d - 1) hk_X7_isOwner  hM) csS_X7_105 hp0 (rm_f hk1) (rm_l hk1 (by decide)) (Nat.le_of_ble_eq_true rfl) dX7_leaves_1 (fun r2 h1 hM => ?_)
  refine B_if_eq dX7_leaves_4 hM (tgt := 18) rfl (fun hM => ?_) (fun hM => ?_)
  · refine B_iconst dX7_leaves_18 k_ic_m1 ?_
    exact B_iret ⟨_, rfl, hM⟩ trivial dX7_leaves_19
  · refine B_aload_n dX7_leaves_7 rfl ?_
    refine B_getR (sc_0) vc_7 (k := 0) (j := 1) rfl (by decide) inG7 ⟨rfl, rfl, rfl⟩ ww_fl_X7_12 dX7_leaves_8 ?_
    refine B_iload_n dX7_leaves_11 rfl ?_
    refine B_cV1i (c_X5_giveUpAll (d := d - 1) hk_X5_giveUpAll isTbl_1 hM) csV_X7_108 (sc_1) vc_5 rfl hp0 (rm_f hk1) (rm_l hk1 (by decide)) (Nat.le_of_ble_eq_true rfl) dX7_leaves_12 (fun r4 h3 hM => ?_)
    refine B_goto (tgt := 19) dX7_leaves_15 rfl ?_
    exact B_iret ⟨_, rfl, hM⟩ trivial dX7_leaves_19

def P_X7_forgets (F : Nat) (a1 : Int32) (h : AH) (K : Int32 → AH → Prop) : Prop := P_X7_isOwner F a1 h (fun (r2 : Int32) (h1 : AH) => if ¬ r2 = (nI 0) then (P_X5_isWaiting F 1 a1 h1 (fun (r4 : Int32) (h3 : AH) => if ¬ r4 = (nI 0) then (P_X5_quitLine F 1 a1 h3 (fun (h5 : AH) => P_X5_serve F 1 h5 (fun (r7 : Int32) (h6 : AH) => K r7 h6))) else (K (-5 : Int32) h3))) else (K (-1 : Int32) h1))
set_option maxHeartbeats 4000000 in
theorem c_X7_forgets {l : Launch} {d : Nat} {F : Nat} {a1 : Int32} {h : AH} {K : Int32 → AH → Prop} (hd : 4 ≤ d) (hM : P_X7_forgets F a1 h K) : Ct l yX7_forgets cX7_forgets 2 (some .int) (rmD d) [.ref 0, .int a1] h (Qi K) := by
  have hk1 : 1 ≤ d := by omega
  have hk_X5_isWaiting : 0 ≤ d - 1 := by omega
  have hk_X5_quitLine : 0 ≤ d - 1 := by omega
  have hk_X5_serve : 3 ≤ d - 1 := by omega
  have hk_X7_isOwner : 0 ≤ d - 1 := by omega
  refine Ct_ofBW (by decide) rfl (Nat.le_of_ble_eq_true rfl) ⟨rfl, rfl⟩ ?_
  show BW RX7 cX7_forgets 2 (some .int) l (rmD d) tb0 3 [.ref 0, .int a1] [] 0 h (Qi K)
  unfold P_X7_forgets at hM
  refine B_iload_n dX7_forgets_0 rfl ?_
  refine B_cS1i (c_X7_isOwner (d := d - 1) hk_X7_isOwner  hM) csS_X7_105 hp0 (rm_f hk1) (rm_l hk1 (by decide)) (Nat.le_of_ble_eq_true rfl) dX7_forgets_1 (fun r2 h1 hM => ?_)
  refine B_if_ne dX7_forgets_4 hM (tgt := 9) rfl (fun hM => ?_) (fun hM => ?_)
  · refine B_aload_n dX7_forgets_9 rfl ?_
    refine B_getR (sc_0) vc_7 (k := 0) (j := 1) rfl (by decide) inG7 ⟨rfl, rfl, rfl⟩ ww_fl_X7_12 dX7_forgets_10 ?_
    refine B_iload_n dX7_forgets_13 rfl ?_
    refine B_cV1i (c_X5_isWaiting (d := d - 1) hk_X5_isWaiting isTbl_1 hM) csV_X7_111 (sc_1) vc_5 rfl hp0 (rm_f hk1) (rm_l hk1 (by decide)) (Nat.le_of_ble_eq_true rfl) dX7_forgets_14 (fun r4 h3 hM => ?_)
    refine B_if_ne dX7_forgets_17 hM (tgt := 23) rfl (fun hM => ?_) (fun hM => ?_)
    · refine B_aload_n dX7_forgets_23 rfl ?_
      refine B_getR (sc_0) vc_7 (k := 0) (j := 1) rfl (by decide) inG7 ⟨rfl, rfl, rfl⟩ ww_fl_X7_12 dX7_forgets_24 ?_
      refine B_iload_n dX7_forgets_27 rfl ?_
      refine B_cV1v (c_X5_quitLine (d := d - 1) hk_X5_quitLine isTbl_1 hM) csV_X7_114 (sc_1) vc_5 rfl hp0 (rm_f hk1) (rm_l hk1 (by decide)) (Nat.le_of_ble_eq_true rfl) dX7_forgets_28 (fun h5 hM => ?_)
      refine B_aload_n dX7_forgets_31 rfl ?_
      refine B_getR (sc_0) vc_7 (k := 0) (j := 1) rfl (by decide) inG7 ⟨rfl, rfl, rfl⟩ ww_fl_X7_12 dX7_forgets_32 ?_
      refine B_cV0i (c_X5_serve (d := d - 1) hk_X5_serve isTbl_1 hM) csV_X7_118 (sc_1) vc_5 rfl hp0 (rm_f hk1) (rm_l hk1 (by decide)) (Nat.le_of_ble_eq_true rfl) dX7_forgets_35 (fun r7 h6 hM => ?_)
      exact B_iret ⟨_, rfl, hM⟩ trivial dX7_forgets_38
    · refine B_bipush dX7_forgets_20 k_bi_m5 ?_
      exact B_iret ⟨_, rfl, hM⟩ trivial dX7_forgets_22
  · refine B_iconst dX7_forgets_7 k_ic_m1 ?_
    exact B_iret ⟨_, rfl, hM⟩ trivial dX7_forgets_8

def P_X7_breaks (F : Nat) (h : AH) (K : Int32 → AH → Prop) : Prop := P_X5_ringBits F 1 h (fun (r2 : Int32) (h1 : AH) => P_X5_leastOf F 1 r2 h1 (fun (r4 : Int32) (h3 : AH) => if (nI 0) ≤ r4 then (P_X5_giveUpAll F 1 r4 h3 (fun (r6 : Int32) (h5 : AH) => K r4 h5)) else (K (-2 : Int32) h3)))
set_option maxHeartbeats 4000000 in
theorem c_X7_breaks {l : Launch} {d : Nat} {F : Nat} {h : AH} {K : Int32 → AH → Prop} (hd : 5 ≤ d) (hM : P_X7_breaks F h K) : Ct l yX7_breaks cX7_breaks 2 (some .int) (rmD d) [.ref 0] h (Qi K) := by
  have hk1 : 1 ≤ d := by omega
  have hk_X5_giveUpAll : 4 ≤ d - 1 := by omega
  have hk_X5_leastOf : 2 ≤ d - 1 := by omega
  have hk_X5_ringBits : 3 ≤ d - 1 := by omega
  refine Ct_ofBW (by decide) rfl (Nat.le_of_ble_eq_true rfl) ⟨rfl, rfl⟩ ?_
  show BW RX7 cX7_breaks 2 (some .int) l (rmD d) tb0 3 [.ref 0, .null] [] 0 h (Qi K)
  unfold P_X7_breaks at hM
  refine B_aload_n dX7_breaks_0 rfl ?_
  refine B_getR (sc_0) vc_7 (k := 0) (j := 1) rfl (by decide) inG7 ⟨rfl, rfl, rfl⟩ ww_fl_X7_12 dX7_breaks_1 ?_
  refine B_aload_n dX7_breaks_4 rfl ?_
  refine B_getR (sc_0) vc_7 (k := 0) (j := 1) rfl (by decide) inG7 ⟨rfl, rfl, rfl⟩ ww_fl_X7_12 dX7_breaks_5 ?_
  refine B_cV0i (c_X5_ringBits (d := d - 1) hk_X5_ringBits isTbl_1 hM) csV_X7_122 (sc_1) vc_5 rfl hp0 (rm_f hk1) (rm_l hk1 (by decide)) (Nat.le_of_ble_eq_true rfl) dX7_breaks_8 (fun r2 h1 hM => ?_)
  refine B_cV1i (c_X5_leastOf (d := d - 1) hk_X5_leastOf isTbl_1 hM) csV_X7_125 (sc_1) vc_5 rfl hp0 (rm_f hk1) (rm_l hk1 (by decide)) (Nat.le_of_ble_eq_true rfl) dX7_breaks_11 (fun r4 h3 hM => ?_)
  refine B_istore_n dX7_breaks_14 (Nat.le_of_ble_eq_true rfl) ?_
  refine B_iload_n dX7_breaks_15 rfl ?_
  refine B_if_ge dX7_breaks_16 hM (tgt := 22) rfl (fun hM => ?_) (fun hM => ?_)
  · refine B_aload_n dX7_breaks_22 rfl ?_
    refine B_getR (sc_0) vc_7 (k := 0) (j := 1) rfl (by decide) inG7 ⟨rfl, rfl, rfl⟩ ww_fl_X7_12 dX7_breaks_23 ?_
    refine B_iload_n dX7_breaks_26 rfl ?_
    refine B_cV1i (c_X5_giveUpAll (d := d - 1) hk_X5_giveUpAll isTbl_1 hM) csV_X7_108 (sc_1) vc_5 rfl hp0 (rm_f hk1) (rm_l hk1 (by decide)) (Nat.le_of_ble_eq_true rfl) dX7_breaks_27 (fun r6 h5 hM => ?_)
    refine B_popI dX7_breaks_30 ?_
    refine B_iload_n dX7_breaks_31 rfl ?_
    exact B_iret ⟨_, rfl, hM⟩ trivial dX7_breaks_32
  · refine B_bipush dX7_breaks_19 k_bi_m2 ?_
    exact B_iret ⟨_, rfl, hM⟩ trivial dX7_breaks_21

def P_X7_isMode (F : Nat) (a1 : Int32) (h : AH) (K : Int32 → AH → Prop) : Prop := if a1 < (nI 1) then (K (nI 0) h) else (if (nI 5) < a1 then (K (nI 0) h) else (K (nI 1) h))
set_option maxHeartbeats 4000000 in
theorem c_X7_isMode {l : Launch} {d : Nat} {F : Nat} {a1 : Int32} {h : AH} {K : Int32 → AH → Prop} (hd : 0 ≤ d) (hM : P_X7_isMode F a1 h K) : Ct l yX7_isMode cX7_isMode 1 (some .boolean) (rmD d) [.int a1] h (Qi K) := by
  refine Ct_ofBW (by decide) rfl (Nat.le_of_ble_eq_true rfl) ⟨rfl, rfl⟩ ?_
  show BW RX7 cX7_isMode 1 (some .boolean) l (rmD d) tb0 3 [.int a1] [] 0 h (Qi K)
  unfold P_X7_isMode at hM
  refine B_iload_n dX7_isMode_0 rfl ?_
  refine B_iconst dX7_isMode_1 k_ic_1 ?_
  refine B_icmp_lt dX7_isMode_2 hM (tgt := 14) rfl (fun hM => ?_) (fun hM => ?_)
  · refine B_iconst dX7_isMode_14 k_ic_0 ?_
    exact B_iret ⟨_, rfl, hM⟩ zB_0 dX7_isMode_15
  · refine B_iload_n dX7_isMode_5 rfl ?_
    refine B_iconst dX7_isMode_6 k_ic_5 ?_
    refine B_icmp_gt dX7_isMode_7 hM (tgt := 14) rfl (fun hM => ?_) (fun hM => ?_)
    · refine B_iconst dX7_isMode_14 k_ic_0 ?_
      exact B_iret ⟨_, rfl, hM⟩ zB_0 dX7_isMode_15
    · refine B_iconst dX7_isMode_10 k_ic_1 ?_
      refine B_goto (tgt := 15) dX7_isMode_11 rfl ?_
      exact B_iret ⟨_, rfl, hM⟩ zB_1 dX7_isMode_15

def P_X7_held (F : Nat) (a1 : Int32) (a2 : Int32) (a3 : Int32) (h : AH) (K : Int32 → AH → Prop) : Prop := P_X7_isOwner F a1 h (fun (r2 : Int32) (h1 : AH) => if r2 = (nI 0) then (K (-1 : Int32) h1) else (P_X5_isThing F 1 a2 h1 (fun (r4 : Int32) (h3 : AH) => if r4 = (nI 0) then (K (-1 : Int32) h3) else (P_X7_isMode F a3 h3 (fun (r6 : Int32) (h5 : AH) => if ¬ r6 = (nI 0) then (P_X5_cell F a1 a2 a3 h5 (fun (r8 : Int32) (h7 : AH) => vp_in r8 360 ∧ (K (h7 4 r8.toNatClampNeg) h7))) else (K (-1 : Int32) h5))))))
set_option maxHeartbeats 4000000 in
theorem c_X7_held {l : Launch} {d : Nat} {F : Nat} {a1 : Int32} {a2 : Int32} {a3 : Int32} {h : AH} {K : Int32 → AH → Prop} (hd : 1 ≤ d) (hM : P_X7_held F a1 a2 a3 h K) : Ct l yX7_held cX7_held 4 (some .int) (rmD d) [.ref 0, .int a1, .int a2, .int a3] h (Qi K) := by
  have hk1 : 1 ≤ d := by omega
  have hk_X5_cell : 0 ≤ d - 1 := by omega
  have hk_X5_isThing : 0 ≤ d - 1 := by omega
  have hk_X7_isMode : 0 ≤ d - 1 := by omega
  have hk_X7_isOwner : 0 ≤ d - 1 := by omega
  refine Ct_ofBW (by decide) rfl (Nat.le_of_ble_eq_true rfl) ⟨rfl, rfl⟩ ?_
  show BW RX7 cX7_held 4 (some .int) l (rmD d) tb0 3 [.ref 0, .int a1, .int a2, .int a3] [] 0 h (Qi K)
  unfold P_X7_held at hM
  refine B_iload_n dX7_held_0 rfl ?_
  refine B_cS1i (c_X7_isOwner (d := d - 1) hk_X7_isOwner  hM) csS_X7_105 hp0 (rm_f hk1) (rm_l hk1 (by decide)) (Nat.le_of_ble_eq_true rfl) dX7_held_1 (fun r2 h1 hM => ?_)
  refine B_if_eq dX7_held_4 hM (tgt := 25) rfl (fun hM => ?_) (fun hM => ?_)
  · refine B_iconst dX7_held_25 k_ic_m1 ?_
    exact B_iret ⟨_, rfl, hM⟩ trivial dX7_held_26
  · refine B_aload_n dX7_held_7 rfl ?_
    refine B_getR (sc_0) vc_7 (k := 0) (j := 1) rfl (by decide) inG7 ⟨rfl, rfl, rfl⟩ ww_fl_X7_12 dX7_held_8 ?_
    refine B_iload_n dX7_held_11 rfl ?_
    refine B_cV1i (c_X5_isThing (d := d - 1) hk_X5_isThing isTbl_1 hM) csV_X7_74 (sc_1) vc_5 rfl hp0 (rm_f hk1) (rm_l hk1 (by decide)) (Nat.le_of_ble_eq_true rfl) dX7_held_12 (fun r4 h3 hM => ?_)
    refine B_if_eq dX7_held_15 hM (tgt := 25) rfl (fun hM => ?_) (fun hM => ?_)
    · refine B_iconst dX7_held_25 k_ic_m1 ?_
      exact B_iret ⟨_, rfl, hM⟩ trivial dX7_held_26
    · refine B_iload_n dX7_held_18 rfl ?_
      refine B_cS1i (c_X7_isMode (d := d - 1) hk_X7_isMode  hM) csS_X7_128 hp0 (rm_f hk1) (rm_l hk1 (by decide)) (Nat.le_of_ble_eq_true rfl) dX7_held_19 (fun r6 h5 hM => ?_)
      refine B_if_ne dX7_held_22 hM (tgt := 27) rfl (fun hM => ?_) (fun hM => ?_)
      · refine B_aload_n dX7_held_27 rfl ?_
        refine B_getR (sc_0) vc_7 (k := 0) (j := 1) rfl (by decide) inG7 ⟨rfl, rfl, rfl⟩ ww_fl_X7_12 dX7_held_28 ?_
        refine B_getR (sc_1) vc_5 (k := 3) (j := 4) rfl (by decide) inG5 ⟨rfl, rfl, rfl⟩ ww_fl_X7_131 dX7_held_31 ?_
        refine B_iload_n dX7_held_34 rfl ?_
        refine B_iload_n dX7_held_35 rfl ?_
        refine B_iload_n dX7_held_36 rfl ?_
        refine B_cS3i (c_X5_cell (d := d - 1) hk_X5_cell  hM) csS_X7_134 hp0 (rm_f hk1) (rm_l hk1 (by decide)) (Nat.le_of_ble_eq_true rfl) dX7_held_37 (fun r8 h7 hM => ?_)
        refine B_iald (sc_4) hM dX7_held_40 (fun hM => ?_)
        exact B_iret ⟨_, rfl, hM⟩ trivial dX7_held_41
      · refine B_iconst dX7_held_25 k_ic_m1 ?_
        exact B_iret ⟨_, rfl, hM⟩ trivial dX7_held_26

def P_X7_holders (F : Nat) (a1 : Int32) (a2 : Int32) (h : AH) (K : Int32 → AH → Prop) : Prop := P_X5_isThing F 1 a1 h (fun (r2 : Int32) (h1 : AH) => if ¬ r2 = (nI 0) then (if ¬ a2 = (nI 0) then (P_X7_isMode F a2 h1 (fun (r4 : Int32) (h3 : AH) => if r4 = (nI 0) then (K (-1 : Int32) h3) else (P_X5_row F a1 a2 h3 (fun (r6 : Int32) (h5 : AH) => vp_in r6 60 ∧ (K (h5 5 r6.toNatClampNeg) h5))))) else (P_X5_holdersInAny F 1 a1 h1 (fun (r8 : Int32) (h7 : AH) => K r8 h7))) else (K (-1 : Int32) h1))
set_option maxHeartbeats 4000000 in
theorem c_X7_holders {l : Launch} {d : Nat} {F : Nat} {a1 : Int32} {a2 : Int32} {h : AH} {K : Int32 → AH → Prop} (hd : 2 ≤ d) (hM : P_X7_holders F a1 a2 h K) : Ct l yX7_holders cX7_holders 3 (some .int) (rmD d) [.ref 0, .int a1, .int a2] h (Qi K) := by
  have hk1 : 1 ≤ d := by omega
  have hk_X5_holdersInAny : 1 ≤ d - 1 := by omega
  have hk_X5_isThing : 0 ≤ d - 1 := by omega
  have hk_X5_row : 0 ≤ d - 1 := by omega
  have hk_X7_isMode : 0 ≤ d - 1 := by omega
  refine Ct_ofBW (by decide) rfl (Nat.le_of_ble_eq_true rfl) ⟨rfl, rfl⟩ ?_
  show BW RX7 cX7_holders 3 (some .int) l (rmD d) tb0 3 [.ref 0, .int a1, .int a2] [] 0 h (Qi K)
  unfold P_X7_holders at hM
  refine B_aload_n dX7_holders_0 rfl ?_
  refine B_getR (sc_0) vc_7 (k := 0) (j := 1) rfl (by decide) inG7 ⟨rfl, rfl, rfl⟩ ww_fl_X7_12 dX7_holders_1 ?_
  refine B_iload_n dX7_holders_4 rfl ?_
  refine B_cV1i (c_X5_isThing (d := d - 1) hk_X5_isThing isTbl_1 hM) csV_X7_74 (sc_1) vc_5 rfl hp0 (rm_f hk1) (rm_l hk1 (by decide)) (Nat.le_of_ble_eq_true rfl) dX7_holders_5 (fun r2 h1 hM => ?_)
  refine B_if_ne dX7_holders_8 hM (tgt := 13) rfl (fun hM => ?_) (fun hM => ?_)
  · refine B_iload_n dX7_holders_13 rfl ?_
    refine B_if_ne dX7_holders_14 hM (tgt := 26) rfl (fun hM => ?_) (fun hM => ?_)
    · refine B_iload_n dX7_holders_26 rfl ?_
      refine B_cS1i (c_X7_isMode (d := d - 1) hk_X7_isMode  hM) csS_X7_128 hp0 (rm_f hk1) (rm_l hk1 (by decide)) (Nat.le_of_ble_eq_true rfl) dX7_holders_27 (fun r4 h3 hM => ?_)
      refine B_if_eq dX7_holders_30 hM (tgt := 49) rfl (fun hM => ?_) (fun hM => ?_)
      · refine B_iconst dX7_holders_49 k_ic_m1 ?_
        exact B_iret ⟨_, rfl, hM⟩ trivial dX7_holders_50
      · refine B_aload_n dX7_holders_33 rfl ?_
        refine B_getR (sc_0) vc_7 (k := 0) (j := 1) rfl (by decide) inG7 ⟨rfl, rfl, rfl⟩ ww_fl_X7_12 dX7_holders_34 ?_
        refine B_getR (sc_1) vc_5 (k := 4) (j := 5) rfl (by decide) inG5 ⟨rfl, rfl, rfl⟩ ww_fl_X7_140 dX7_holders_37 ?_
        refine B_iload_n dX7_holders_40 rfl ?_
        refine B_iload_n dX7_holders_41 rfl ?_
        refine B_cS2i (c_X5_row (d := d - 1) hk_X5_row  hM) csS_X7_143 hp0 (rm_f hk1) (rm_l hk1 (by decide)) (Nat.le_of_ble_eq_true rfl) dX7_holders_42 (fun r6 h5 hM => ?_)
        refine B_iald (sc_5) hM dX7_holders_45 (fun hM => ?_)
        refine B_goto (tgt := 50) dX7_holders_46 rfl ?_
        exact B_iret ⟨_, rfl, hM⟩ trivial dX7_holders_50
    · refine B_aload_n dX7_holders_17 rfl ?_
      refine B_getR (sc_0) vc_7 (k := 0) (j := 1) rfl (by decide) inG7 ⟨rfl, rfl, rfl⟩ ww_fl_X7_12 dX7_holders_18 ?_
      refine B_iload_n dX7_holders_21 rfl ?_
      refine B_cV1i (c_X5_holdersInAny (d := d - 1) hk_X5_holdersInAny isTbl_1 hM) csV_X7_137 (sc_1) vc_5 rfl hp0 (rm_f hk1) (rm_l hk1 (by decide)) (Nat.le_of_ble_eq_true rfl) dX7_holders_22 (fun r8 h7 hM => ?_)
      exact B_iret ⟨_, rfl, hM⟩ trivial dX7_holders_25
  · refine B_iconst dX7_holders_11 k_ic_m1 ?_
    exact B_iret ⟨_, rfl, hM⟩ trivial dX7_holders_12

def P_X7_waits (F : Nat) (a1 : Int32) (h : AH) (K : Int32 → AH → Prop) : Prop := P_X7_isOwner F a1 h (fun (r2 : Int32) (h1 : AH) => if ¬ r2 = (nI 0) then (P_X5_isWaiting F 1 a1 h1 (fun (r4 : Int32) (h3 : AH) => if ¬ r4 = (nI 0) then (vp_in a1 6 ∧ (vp_in a1 6 ∧ (P_X5_isRaise F 1 a1 (h3 7 a1.toNatClampNeg) h3 (fun (r6 : Int32) (h5 : AH) => if r6 = (nI 0) then (K ((((nI 100) * (h3 7 a1.toNatClampNeg)) + ((nI 10) * (h3 8 a1.toNatClampNeg))) + (nI 0)) h5) else (K ((((nI 100) * (h3 7 a1.toNatClampNeg)) + ((nI 10) * (h3 8 a1.toNatClampNeg))) + (nI 1)) h5))))) else (K (-2 : Int32) h3))) else (K (-1 : Int32) h1))
set_option maxHeartbeats 4000000 in
theorem c_X7_waits {l : Launch} {d : Nat} {F : Nat} {a1 : Int32} {h : AH} {K : Int32 → AH → Prop} (hd : 1 ≤ d) (hM : P_X7_waits F a1 h K) : Ct l yX7_waits cX7_waits 3 (some .int) (rmD d) [.ref 0, .int a1] h (Qi K) := by
  have hk1 : 1 ≤ d := by omega
  have hk_X5_isRaise : 0 ≤ d - 1 := by omega
  have hk_X5_isWaiting : 0 ≤ d - 1 := by omega
  have hk_X7_isOwner : 0 ≤ d - 1 := by omega
  refine Ct_ofBW (by decide) rfl (Nat.le_of_ble_eq_true rfl) ⟨rfl, rfl⟩ ?_
  show BW RX7 cX7_waits 3 (some .int) l (rmD d) tb0 3 [.ref 0, .int a1, .null] [] 0 h (Qi K)
  unfold P_X7_waits at hM
  refine B_iload_n dX7_waits_0 rfl ?_
  refine B_cS1i (c_X7_isOwner (d := d - 1) hk_X7_isOwner  hM) csS_X7_105 hp0 (rm_f hk1) (rm_l hk1 (by decide)) (Nat.le_of_ble_eq_true rfl) dX7_waits_1 (fun r2 h1 hM => ?_)
  refine B_if_ne dX7_waits_4 hM (tgt := 9) rfl (fun hM => ?_) (fun hM => ?_)
  · refine B_aload_n dX7_waits_9 rfl ?_
    refine B_getR (sc_0) vc_7 (k := 0) (j := 1) rfl (by decide) inG7 ⟨rfl, rfl, rfl⟩ ww_fl_X7_12 dX7_waits_10 ?_
    refine B_iload_n dX7_waits_13 rfl ?_
    refine B_cV1i (c_X5_isWaiting (d := d - 1) hk_X5_isWaiting isTbl_1 hM) csV_X7_111 (sc_1) vc_5 rfl hp0 (rm_f hk1) (rm_l hk1 (by decide)) (Nat.le_of_ble_eq_true rfl) dX7_waits_14 (fun r4 h3 hM => ?_)
    refine B_if_ne dX7_waits_17 hM (tgt := 23) rfl (fun hM => ?_) (fun hM => ?_)
    · refine B_aload_n dX7_waits_23 rfl ?_
      refine B_getR (sc_0) vc_7 (k := 0) (j := 1) rfl (by decide) inG7 ⟨rfl, rfl, rfl⟩ ww_fl_X7_12 dX7_waits_24 ?_
      refine B_getR (sc_1) vc_5 (k := 7) (j := 7) rfl (by decide) inG5 ⟨rfl, rfl, rfl⟩ ww_fl_X7_146 dX7_waits_27 ?_
      refine B_iload_n dX7_waits_30 rfl ?_
      refine B_iald (sc_7) hM dX7_waits_31 (fun hM => ?_)
      refine B_istore_n dX7_waits_32 (Nat.le_of_ble_eq_true rfl) ?_
      refine B_bipush dX7_waits_33 k_bi_100 ?_
      refine B_iload_n dX7_waits_35 rfl ?_
      refine B_imul dX7_waits_36 ?_
      refine B_bipush dX7_waits_37 k_bi_10 ?_
      refine B_aload_n dX7_waits_39 rfl ?_
      refine B_getR (sc_0) vc_7 (k := 0) (j := 1) rfl (by decide) inG7 ⟨rfl, rfl, rfl⟩ ww_fl_X7_12 dX7_waits_40 ?_
      refine B_getR (sc_1) vc_5 (k := 8) (j := 8) rfl (by decide) inG5 ⟨rfl, rfl, rfl⟩ ww_fl_X7_149 dX7_waits_43 ?_
      refine B_iload_n dX7_waits_46 rfl ?_
      refine B_iald (sc_8) hM dX7_waits_47 (fun hM => ?_)
      refine B_imul dX7_waits_48 ?_
      refine B_iadd dX7_waits_49 ?_
      refine B_aload_n dX7_waits_50 rfl ?_
      refine B_getR (sc_0) vc_7 (k := 0) (j := 1) rfl (by decide) inG7 ⟨rfl, rfl, rfl⟩ ww_fl_X7_12 dX7_waits_51 ?_
      refine B_iload_n dX7_waits_54 rfl ?_
      refine B_iload_n dX7_waits_55 rfl ?_
      refine B_cV2i (c_X5_isRaise (d := d - 1) hk_X5_isRaise isTbl_1 hM) csV_X7_152 (sc_1) vc_5 rfl hp0 (rm_f hk1) (rm_l hk1 (by decide)) (Nat.le_of_ble_eq_true rfl) dX7_waits_56 (fun r6 h5 hM => ?_)
      refine B_if_eq dX7_waits_59 hM (tgt := 66) rfl (fun hM => ?_) (fun hM => ?_)
      · refine B_iconst dX7_waits_66 k_ic_0 ?_
        refine B_iadd dX7_waits_67 ?_
        exact B_iret ⟨_, rfl, hM⟩ trivial dX7_waits_68
      · refine B_iconst dX7_waits_62 k_ic_1 ?_
        refine B_goto (tgt := 67) dX7_waits_63 rfl ?_
        refine B_iadd dX7_waits_67 ?_
        exact B_iret ⟨_, rfl, hM⟩ trivial dX7_waits_68
    · refine B_bipush dX7_waits_20 k_bi_m2 ?_
      exact B_iret ⟨_, rfl, hM⟩ trivial dX7_waits_22
  · refine B_iconst dX7_waits_7 k_ic_m1 ?_
    exact B_iret ⟨_, rfl, hM⟩ trivial dX7_waits_8

def P_X7_line (F : Nat) (a1 : Int32) (h : AH) (K : Int32 → AH → Prop) : Prop := if (-1 : Int32) ≤ a1 then (if ¬ a1 = (-1 : Int32) then (if (h 1 5) ≤ a1 then (K (-2 : Int32) h) else (vp_in a1 6 ∧ (K (h 6 a1.toNatClampNeg) h))) else (K (h 1 5) h)) else (K (-1 : Int32) h)
set_option maxHeartbeats 4000000 in
theorem c_X7_line {l : Launch} {d : Nat} {F : Nat} {a1 : Int32} {h : AH} {K : Int32 → AH → Prop} (hd : 0 ≤ d) (hM : P_X7_line F a1 h K) : Ct l yX7_line cX7_line 2 (some .int) (rmD d) [.ref 0, .int a1] h (Qi K) := by
  refine Ct_ofBW (by decide) rfl (Nat.le_of_ble_eq_true rfl) ⟨rfl, rfl⟩ ?_
  show BW RX7 cX7_line 2 (some .int) l (rmD d) tb0 3 [.ref 0, .int a1] [] 0 h (Qi K)
  unfold P_X7_line at hM
  refine B_iload_n dX7_line_0 rfl ?_
  refine B_iconst dX7_line_1 k_ic_m1 ?_
  refine B_icmp_ge dX7_line_2 hM (tgt := 7) rfl (fun hM => ?_) (fun hM => ?_)
  · refine B_iload_n dX7_line_7 rfl ?_
    refine B_iconst dX7_line_8 k_ic_m1 ?_
    refine B_icmp_ne dX7_line_9 hM (tgt := 20) rfl (fun hM => ?_) (fun hM => ?_)
    · refine B_iload_n dX7_line_20 rfl ?_
      refine B_aload_n dX7_line_21 rfl ?_
      refine B_getR (sc_0) vc_7 (k := 0) (j := 1) rfl (by decide) inG7 ⟨rfl, rfl, rfl⟩ ww_fl_X7_12 dX7_line_22 ?_
      refine B_getI (sc_1) vc_5 (k := 5) rfl (by decide) inG5 ⟨rfl, rfl, rfl⟩ ww_fl_X7_156 dX7_line_25 ?_
      refine B_icmp_ge dX7_line_28 hM (tgt := 43) rfl (fun hM => ?_) (fun hM => ?_)
      · refine B_bipush dX7_line_43 k_bi_m2 ?_
        exact B_iret ⟨_, rfl, hM⟩ trivial dX7_line_45
      · refine B_aload_n dX7_line_31 rfl ?_
        refine B_getR (sc_0) vc_7 (k := 0) (j := 1) rfl (by decide) inG7 ⟨rfl, rfl, rfl⟩ ww_fl_X7_12 dX7_line_32 ?_
        refine B_getR (sc_1) vc_5 (k := 6) (j := 6) rfl (by decide) inG5 ⟨rfl, rfl, rfl⟩ ww_fl_X7_160 dX7_line_35 ?_
        refine B_iload_n dX7_line_38 rfl ?_
        refine B_iald (sc_6) hM dX7_line_39 (fun hM => ?_)
        refine B_goto (tgt := 45) dX7_line_40 rfl ?_
        exact B_iret ⟨_, rfl, hM⟩ trivial dX7_line_45
    · refine B_aload_n dX7_line_12 rfl ?_
      refine B_getR (sc_0) vc_7 (k := 0) (j := 1) rfl (by decide) inG7 ⟨rfl, rfl, rfl⟩ ww_fl_X7_12 dX7_line_13 ?_
      refine B_getI (sc_1) vc_5 (k := 5) rfl (by decide) inG5 ⟨rfl, rfl, rfl⟩ ww_fl_X7_156 dX7_line_16 ?_
      exact B_iret ⟨_, rfl, hM⟩ trivial dX7_line_19
  · refine B_iconst dX7_line_5 k_ic_m1 ?_
    exact B_iret ⟨_, rfl, hM⟩ trivial dX7_line_6

def P_X7_waitsFor (F : Nat) (a1 : Int32) (h : AH) (K : Int32 → AH → Prop) : Prop := P_X7_isOwner F a1 h (fun (r2 : Int32) (h1 : AH) => if r2 = (nI 0) then (K (-1 : Int32) h1) else (P_X5_waitsForBits F 1 a1 h1 (fun (r4 : Int32) (h3 : AH) => K r4 h3)))
set_option maxHeartbeats 4000000 in
theorem c_X7_waitsFor {l : Launch} {d : Nat} {F : Nat} {a1 : Int32} {h : AH} {K : Int32 → AH → Prop} (hd : 3 ≤ d) (hM : P_X7_waitsFor F a1 h K) : Ct l yX7_waitsFor cX7_waitsFor 2 (some .int) (rmD d) [.ref 0, .int a1] h (Qi K) := by
  have hk1 : 1 ≤ d := by omega
  have hk_X5_waitsForBits : 2 ≤ d - 1 := by omega
  have hk_X7_isOwner : 0 ≤ d - 1 := by omega
  refine Ct_ofBW (by decide) rfl (Nat.le_of_ble_eq_true rfl) ⟨rfl, rfl⟩ ?_
  show BW RX7 cX7_waitsFor 2 (some .int) l (rmD d) tb0 3 [.ref 0, .int a1] [] 0 h (Qi K)
  unfold P_X7_waitsFor at hM
  refine B_iload_n dX7_waitsFor_0 rfl ?_
  refine B_cS1i (c_X7_isOwner (d := d - 1) hk_X7_isOwner  hM) csS_X7_105 hp0 (rm_f hk1) (rm_l hk1 (by decide)) (Nat.le_of_ble_eq_true rfl) dX7_waitsFor_1 (fun r2 h1 hM => ?_)
  refine B_if_eq dX7_waitsFor_4 hM (tgt := 18) rfl (fun hM => ?_) (fun hM => ?_)
  · refine B_iconst dX7_waitsFor_18 k_ic_m1 ?_
    exact B_iret ⟨_, rfl, hM⟩ trivial dX7_waitsFor_19
  · refine B_aload_n dX7_waitsFor_7 rfl ?_
    refine B_getR (sc_0) vc_7 (k := 0) (j := 1) rfl (by decide) inG7 ⟨rfl, rfl, rfl⟩ ww_fl_X7_12 dX7_waitsFor_8 ?_
    refine B_iload_n dX7_waitsFor_11 rfl ?_
    refine B_cV1i (c_X5_waitsForBits (d := d - 1) hk_X5_waitsForBits isTbl_1 hM) csV_X7_163 (sc_1) vc_5 rfl hp0 (rm_f hk1) (rm_l hk1 (by decide)) (Nat.le_of_ble_eq_true rfl) dX7_waitsFor_12 (fun r4 h3 hM => ?_)
    refine B_goto (tgt := 19) dX7_waitsFor_15 rfl ?_
    exact B_iret ⟨_, rfl, hM⟩ trivial dX7_waitsFor_19

def P_X7_ring (F : Nat) (a1 : Int32) (h : AH) (K : Int32 → AH → Prop) : Prop := if a1 < (nI 0) then (K (-1 : Int32) h) else (if a1 ≤ (nI 2) then (P_X5_ringBits F 1 h (fun (r2 : Int32) (h1 : AH) => if ¬ a1 = (nI 0) then (P_X5_leastOf F 1 r2 h1 (fun (r4 : Int32) (h3 : AH) => if (nI 0) ≤ r4 then (if ¬ a1 = (nI 1) then (P_X5_askedCounts F 1 r4 h3 (fun (r6 : Int32) (h5 : AH) => K r6 h5)) else (K r4 h3)) else (K (-2 : Int32) h3))) else (K r2 h1))) else (K (-1 : Int32) h))
set_option maxHeartbeats 4000000 in
theorem c_X7_ring {l : Launch} {d : Nat} {F : Nat} {a1 : Int32} {h : AH} {K : Int32 → AH → Prop} (hd : 4 ≤ d) (hM : P_X7_ring F a1 h K) : Ct l yX7_ring cX7_ring 4 (some .int) (rmD d) [.ref 0, .int a1] h (Qi K) := by
  have hk1 : 1 ≤ d := by omega
  have hk_X5_askedCounts : 1 ≤ d - 1 := by omega
  have hk_X5_leastOf : 2 ≤ d - 1 := by omega
  have hk_X5_ringBits : 3 ≤ d - 1 := by omega
  refine Ct_ofBW (by decide) rfl (Nat.le_of_ble_eq_true rfl) ⟨rfl, rfl⟩ ?_
  show BW RX7 cX7_ring 4 (some .int) l (rmD d) tb0 3 [.ref 0, .int a1, .null, .null] [] 0 h (Qi K)
  unfold P_X7_ring at hM
  refine B_iload_n dX7_ring_0 rfl ?_
  refine B_if_lt dX7_ring_1 hM (tgt := 9) rfl (fun hM => ?_) (fun hM => ?_)
  · refine B_iconst dX7_ring_9 k_ic_m1 ?_
    exact B_iret ⟨_, rfl, hM⟩ trivial dX7_ring_10
  · refine B_iload_n dX7_ring_4 rfl ?_
    refine B_iconst dX7_ring_5 k_ic_2 ?_
    refine B_icmp_le dX7_ring_6 hM (tgt := 11) rfl (fun hM => ?_) (fun hM => ?_)
    · refine B_aload_n dX7_ring_11 rfl ?_
      refine B_getR (sc_0) vc_7 (k := 0) (j := 1) rfl (by decide) inG7 ⟨rfl, rfl, rfl⟩ ww_fl_X7_12 dX7_ring_12 ?_
      refine B_cV0i (c_X5_ringBits (d := d - 1) hk_X5_ringBits isTbl_1 hM) csV_X7_122 (sc_1) vc_5 rfl hp0 (rm_f hk1) (rm_l hk1 (by decide)) (Nat.le_of_ble_eq_true rfl) dX7_ring_15 (fun r2 h1 hM => ?_)
      refine B_istore_n dX7_ring_18 (Nat.le_of_ble_eq_true rfl) ?_
      refine B_iload_n dX7_ring_19 rfl ?_
      refine B_if_ne dX7_ring_20 hM (tgt := 25) rfl (fun hM => ?_) (fun hM => ?_)
      · refine B_aload_n dX7_ring_25 rfl ?_
        refine B_getR (sc_0) vc_7 (k := 0) (j := 1) rfl (by decide) inG7 ⟨rfl, rfl, rfl⟩ ww_fl_X7_12 dX7_ring_26 ?_
        refine B_iload_n dX7_ring_29 rfl ?_
        refine B_cV1i (c_X5_leastOf (d := d - 1) hk_X5_leastOf isTbl_1 hM) csV_X7_125 (sc_1) vc_5 rfl hp0 (rm_f hk1) (rm_l hk1 (by decide)) (Nat.le_of_ble_eq_true rfl) dX7_ring_30 (fun r4 h3 hM => ?_)
        refine B_istore_n dX7_ring_33 (Nat.le_of_ble_eq_true rfl) ?_
        refine B_iload_n dX7_ring_34 rfl ?_
        refine B_if_ge dX7_ring_35 hM (tgt := 41) rfl (fun hM => ?_) (fun hM => ?_)
        · refine B_iload_n dX7_ring_41 rfl ?_
          refine B_iconst dX7_ring_42 k_ic_1 ?_
          refine B_icmp_ne dX7_ring_43 hM (tgt := 50) rfl (fun hM => ?_) (fun hM => ?_)
          · refine B_aload_n dX7_ring_50 rfl ?_
            refine B_getR (sc_0) vc_7 (k := 0) (j := 1) rfl (by decide) inG7 ⟨rfl, rfl, rfl⟩ ww_fl_X7_12 dX7_ring_51 ?_
            refine B_iload_n dX7_ring_54 rfl ?_
            refine B_cV1i (c_X5_askedCounts (d := d - 1) hk_X5_askedCounts isTbl_1 hM) csV_X7_166 (sc_1) vc_5 rfl hp0 (rm_f hk1) (rm_l hk1 (by decide)) (Nat.le_of_ble_eq_true rfl) dX7_ring_55 (fun r6 h5 hM => ?_)
            exact B_iret ⟨_, rfl, hM⟩ trivial dX7_ring_58
          · refine B_iload_n dX7_ring_46 rfl ?_
            refine B_goto (tgt := 58) dX7_ring_47 rfl ?_
            exact B_iret ⟨_, rfl, hM⟩ trivial dX7_ring_58
        · refine B_bipush dX7_ring_38 k_bi_m2 ?_
          exact B_iret ⟨_, rfl, hM⟩ trivial dX7_ring_40
      · refine B_iload_n dX7_ring_23 rfl ?_
        exact B_iret ⟨_, rfl, hM⟩ trivial dX7_ring_24
    · refine B_iconst dX7_ring_9 k_ic_m1 ?_
      exact B_iret ⟨_, rfl, hM⟩ trivial dX7_ring_10

def P_X7_count (F : Nat) (a1 : Int32) (h : AH) (K : Int32 → AH → Prop) : Prop := if a1 = (nI 0) then (K (h 1 0) h) else (if a1 = (nI 1) then (K (h 1 5) h) else (if a1 = (nI 2) then (P_X5_allCounts F 1 h (fun (r2 : Int32) (h1 : AH) => K r2 h1)) else (if a1 = (nI 3) then (K (h 1 9) h) else (if a1 = (nI 4) then (K (h 44 0) h) else (if a1 = (nI 5) then (K (h 51 0) h) else (if a1 = (nI 6) then (K (h 1 13) h) else (K (-1 : Int32) h)))))))
set_option maxHeartbeats 4000000 in
theorem c_X7_count {l : Launch} {d : Nat} {F : Nat} {a1 : Int32} {h : AH} {K : Int32 → AH → Prop} (hd : 2 ≤ d) (hM : P_X7_count F a1 h K) : Ct l yX7_count cX7_count 2 (some .int) (rmD d) [.ref 0, .int a1] h (Qi K) := by
  have hk1 : 1 ≤ d := by omega
  have hk_X5_allCounts : 1 ≤ d - 1 := by omega
  refine Ct_ofBW (by decide) rfl (Nat.le_of_ble_eq_true rfl) ⟨rfl, rfl⟩ ?_
  show BW RX7 cX7_count 2 (some .int) l (rmD d) tb0 3 [.ref 0, .int a1] [] 0 h (Qi K)
  unfold P_X7_count at hM
  refine B_iload_n dX7_count_0 rfl ?_
  refine ite_p hM (fun hc0 hM => ?_) (fun hc0 hM => ?_)
  · refine B_tin hc0 (by decide) (by decide) rfl dX7_count_1 (tgt := 44) rfl ?_
    refine B_aload_n dX7_count_44 rfl ?_
    refine B_getR (sc_0) vc_7 (k := 0) (j := 1) rfl (by decide) inG7 ⟨rfl, rfl, rfl⟩ ww_fl_X7_12 dX7_count_45 ?_
    refine B_getI (sc_1) vc_5 (k := 0) rfl (by decide) inG5 ⟨rfl, rfl, rfl⟩ ww_fl_X7_169 dX7_count_48 ?_
    exact B_iret ⟨_, rfl, hM⟩ trivial dX7_count_51
  refine ite_p hM (fun hc1 hM => ?_) (fun hc1 hM => ?_)
  · refine B_tin hc1 (by decide) (by decide) rfl dX7_count_1 (tgt := 52) rfl ?_
    refine B_aload_n dX7_count_52 rfl ?_
    refine B_getR (sc_0) vc_7 (k := 0) (j := 1) rfl (by decide) inG7 ⟨rfl, rfl, rfl⟩ ww_fl_X7_12 dX7_count_53 ?_
    refine B_getI (sc_1) vc_5 (k := 5) rfl (by decide) inG5 ⟨rfl, rfl, rfl⟩ ww_fl_X7_156 dX7_count_56 ?_
    exact B_iret ⟨_, rfl, hM⟩ trivial dX7_count_59
  refine ite_p hM (fun hc2 hM => ?_) (fun hc2 hM => ?_)
  · refine B_tin hc2 (by decide) (by decide) rfl dX7_count_1 (tgt := 60) rfl ?_
    refine B_aload_n dX7_count_60 rfl ?_
    refine B_getR (sc_0) vc_7 (k := 0) (j := 1) rfl (by decide) inG7 ⟨rfl, rfl, rfl⟩ ww_fl_X7_12 dX7_count_61 ?_
    refine B_cV0i (c_X5_allCounts (d := d - 1) hk_X5_allCounts isTbl_1 hM) csV_X7_172 (sc_1) vc_5 rfl hp0 (rm_f hk1) (rm_l hk1 (by decide)) (Nat.le_of_ble_eq_true rfl) dX7_count_64 (fun r2 h1 hM => ?_)
    exact B_iret ⟨_, rfl, hM⟩ trivial dX7_count_67
  refine ite_p hM (fun hc3 hM => ?_) (fun hc3 hM => ?_)
  · refine B_tin hc3 (by decide) (by decide) rfl dX7_count_1 (tgt := 68) rfl ?_
    refine B_aload_n dX7_count_68 rfl ?_
    refine B_getR (sc_0) vc_7 (k := 0) (j := 1) rfl (by decide) inG7 ⟨rfl, rfl, rfl⟩ ww_fl_X7_12 dX7_count_69 ?_
    refine B_getI (sc_1) vc_5 (k := 9) rfl (by decide) inG5 ⟨rfl, rfl, rfl⟩ ww_fl_X7_175 dX7_count_72 ?_
    exact B_iret ⟨_, rfl, hM⟩ trivial dX7_count_75
  refine ite_p hM (fun hc4 hM => ?_) (fun hc4 hM => ?_)
  · refine B_tin hc4 (by decide) (by decide) rfl dX7_count_1 (tgt := 76) rfl ?_
    refine B_aload_n dX7_count_76 rfl ?_
    refine B_getR (sc_0) vc_7 (k := 7) (j := 44) rfl (by decide) inG7 ⟨rfl, rfl, rfl⟩ ww_fl_X7_52 dX7_count_77 ?_
    refine B_getI (sc_44) vc_6 (k := 0) rfl (by decide) inG6 ⟨rfl, rfl, rfl⟩ ww_fl_X7_178 dX7_count_80 ?_
    exact B_iret ⟨_, rfl, hM⟩ trivial dX7_count_83
  refine ite_p hM (fun hc5 hM => ?_) (fun hc5 hM => ?_)
  · refine B_tin hc5 (by decide) (by decide) rfl dX7_count_1 (tgt := 84) rfl ?_
    refine B_aload_n dX7_count_84 rfl ?_
    refine B_getR (sc_0) vc_7 (k := 8) (j := 51) rfl (by decide) inG7 ⟨rfl, rfl, rfl⟩ ww_fl_X7_59 dX7_count_85 ?_
    refine B_getI (sc_51) vc_3 (k := 0) rfl (by decide) inG3 ⟨rfl, rfl, rfl⟩ ww_fl_X7_181 dX7_count_88 ?_
    exact B_iret ⟨_, rfl, hM⟩ trivial dX7_count_91
  refine ite_p hM (fun hc6 hM => ?_) (fun hc6 hM => ?_)
  · refine B_tin hc6 (by decide) (by decide) rfl dX7_count_1 (tgt := 92) rfl ?_
    refine B_aload_n dX7_count_92 rfl ?_
    refine B_getR (sc_0) vc_7 (k := 0) (j := 1) rfl (by decide) inG7 ⟨rfl, rfl, rfl⟩ ww_fl_X7_12 dX7_count_93 ?_
    refine B_getI (sc_1) vc_5 (k := 13) rfl (by decide) inG5 ⟨rfl, rfl, rfl⟩ ww_fl_X7_182 dX7_count_96 ?_
    exact B_iret ⟨_, rfl, hM⟩ trivial dX7_count_99
  refine B_tout (tsw_out2 (n := 7) (by decide) (lt_s (lt_s (lt_s (lt_s (lt_s (lt_s (lt_s lt_0 hc0) hc1) hc2) hc3) hc4) hc5) hc6) (by decide)) dX7_count_1 (tgt := 100) rfl ?_
  refine B_iconst dX7_count_100 k_ic_m1 ?_
  exact B_iret ⟨_, rfl, hM⟩ trivial dX7_count_101

def P_X7_would (F : Nat) (a1 : Int32) (a2 : Int32) (a3 : Int32) (h : AH) (K : Int32 → AH → Prop) : Prop := P_X5_isAsk F 1 a1 a2 a3 h (fun (r2 : Int32) (h1 : AH) => if ¬ r2 = (nI 0) then (P_X5_isWaiting F 1 a1 h1 (fun (r4 : Int32) (h3 : AH) => if r4 = (nI 0) then (P_X5_hindrances F 1 a1 a2 a3 h3 (fun (r6 : Int32) (h5 : AH) => if ¬ r6 = (nI 0) then (P_X5_copyFrom F 13 1 h5 (fun (h7 : AH) => P_X5_joinLine F 13 a1 a2 a3 h7 (fun (h8 : AH) => P_X5_ringBits F 13 h8 (fun (r10 : Int32) (h9 : AH) => P_X7_hasBit F r10 a1 h9 (fun (r12 : Int32) (h11 : AH) => if r12 = (nI 0) then (K (nI 0) h11) else (K (nI 2) h11)))))) else (K (nI 1) h5))) else (K (-5 : Int32) h3))) else (K (-1 : Int32) h1))
set_option maxHeartbeats 4000000 in
theorem c_X7_would {l : Launch} {d : Nat} {F : Nat} {a1 : Int32} {a2 : Int32} {a3 : Int32} {h : AH} {K : Int32 → AH → Prop} (hd : 4 ≤ d) (hM : P_X7_would F a1 a2 a3 h K) : Ct l yX7_would cX7_would 4 (some .int) (rmD d) [.ref 0, .int a1, .int a2, .int a3] h (Qi K) := by
  have hk1 : 1 ≤ d := by omega
  have hk_X5_copyFrom : 1 ≤ d - 1 := by omega
  have hk_X5_hindrances : 1 ≤ d - 1 := by omega
  have hk_X5_isAsk : 1 ≤ d - 1 := by omega
  have hk_X5_isWaiting : 0 ≤ d - 1 := by omega
  have hk_X5_joinLine : 0 ≤ d - 1 := by omega
  have hk_X5_ringBits : 3 ≤ d - 1 := by omega
  have hk_X7_hasBit : 0 ≤ d - 1 := by omega
  refine Ct_ofBW (by decide) rfl (Nat.le_of_ble_eq_true rfl) ⟨rfl, rfl⟩ ?_
  show BW RX7 cX7_would 4 (some .int) l (rmD d) tb0 3 [.ref 0, .int a1, .int a2, .int a3] [] 0 h (Qi K)
  unfold P_X7_would at hM
  refine B_aload_n dX7_would_0 rfl ?_
  refine B_getR (sc_0) vc_7 (k := 0) (j := 1) rfl (by decide) inG7 ⟨rfl, rfl, rfl⟩ ww_fl_X7_12 dX7_would_1 ?_
  refine B_iload_n dX7_would_4 rfl ?_
  refine B_iload_n dX7_would_5 rfl ?_
  refine B_iload_n dX7_would_6 rfl ?_
  refine B_cV3i (c_X5_isAsk (d := d - 1) hk_X5_isAsk isTbl_1 hM) csV_X7_185 (sc_1) vc_5 rfl hp0 (rm_f hk1) (rm_l hk1 (by decide)) (Nat.le_of_ble_eq_true rfl) dX7_would_7 (fun r2 h1 hM => ?_)
  refine B_if_ne dX7_would_10 hM (tgt := 15) rfl (fun hM => ?_) (fun hM => ?_)
  · refine B_aload_n dX7_would_15 rfl ?_
    refine B_getR (sc_0) vc_7 (k := 0) (j := 1) rfl (by decide) inG7 ⟨rfl, rfl, rfl⟩ ww_fl_X7_12 dX7_would_16 ?_
    refine B_iload_n dX7_would_19 rfl ?_
    refine B_cV1i (c_X5_isWaiting (d := d - 1) hk_X5_isWaiting isTbl_1 hM) csV_X7_111 (sc_1) vc_5 rfl hp0 (rm_f hk1) (rm_l hk1 (by decide)) (Nat.le_of_ble_eq_true rfl) dX7_would_20 (fun r4 h3 hM => ?_)
    refine B_if_eq dX7_would_23 hM (tgt := 29) rfl (fun hM => ?_) (fun hM => ?_)
    · refine B_aload_n dX7_would_29 rfl ?_
      refine B_getR (sc_0) vc_7 (k := 0) (j := 1) rfl (by decide) inG7 ⟨rfl, rfl, rfl⟩ ww_fl_X7_12 dX7_would_30 ?_
      refine B_iload_n dX7_would_33 rfl ?_
      refine B_iload_n dX7_would_34 rfl ?_
      refine B_iload_n dX7_would_35 rfl ?_
      refine B_cV3i (c_X5_hindrances (d := d - 1) hk_X5_hindrances isTbl_1 hM) csV_X7_189 (sc_1) vc_5 rfl hp0 (rm_f hk1) (rm_l hk1 (by decide)) (Nat.le_of_ble_eq_true rfl) dX7_would_36 (fun r6 h5 hM => ?_)
      refine B_if_ne dX7_would_39 hM (tgt := 44) rfl (fun hM => ?_) (fun hM => ?_)
      · refine B_aload_n dX7_would_44 rfl ?_
        refine B_getR (sc_0) vc_7 (k := 1) (j := 13) rfl (by decide) inG7 ⟨rfl, rfl, rfl⟩ ww_fl_X7_18 dX7_would_45 ?_
        refine B_aload_n dX7_would_48 rfl ?_
        refine B_getR (sc_0) vc_7 (k := 0) (j := 1) rfl (by decide) inG7 ⟨rfl, rfl, rfl⟩ ww_fl_X7_12 dX7_would_49 ?_
        refine B_cV1v (c_X5_copyFrom (d := d - 1) hk_X5_copyFrom isTbl_13 isTbl_1 hM) csV_X7_192 (sc_13) vc_5 rfl hp0 (rm_f hk1) (rm_l hk1 (by decide)) (Nat.le_of_ble_eq_true rfl) dX7_would_52 (fun h7 hM => ?_)
        refine B_aload_n dX7_would_55 rfl ?_
        refine B_getR (sc_0) vc_7 (k := 1) (j := 13) rfl (by decide) inG7 ⟨rfl, rfl, rfl⟩ ww_fl_X7_18 dX7_would_56 ?_
        refine B_iload_n dX7_would_59 rfl ?_
        refine B_iload_n dX7_would_60 rfl ?_
        refine B_iload_n dX7_would_61 rfl ?_
        refine B_cV3v (c_X5_joinLine (d := d - 1) hk_X5_joinLine isTbl_13 hM) csV_X7_196 (sc_13) vc_5 rfl hp0 (rm_f hk1) (rm_l hk1 (by decide)) (Nat.le_of_ble_eq_true rfl) dX7_would_62 (fun h8 hM => ?_)
        refine B_aload_n dX7_would_65 rfl ?_
        refine B_getR (sc_0) vc_7 (k := 1) (j := 13) rfl (by decide) inG7 ⟨rfl, rfl, rfl⟩ ww_fl_X7_18 dX7_would_66 ?_
        refine B_cV0i (c_X5_ringBits (d := d - 1) hk_X5_ringBits isTbl_13 hM) csV_X7_122 (sc_13) vc_5 rfl hp0 (rm_f hk1) (rm_l hk1 (by decide)) (Nat.le_of_ble_eq_true rfl) dX7_would_69 (fun r10 h9 hM => ?_)
        refine B_iload_n dX7_would_72 rfl ?_
        refine B_cS2i (c_X7_hasBit (d := d - 1) hk_X7_hasBit  hM) csS_X7_200 hp0 (rm_f hk1) (rm_l hk1 (by decide)) (Nat.le_of_ble_eq_true rfl) dX7_would_73 (fun r12 h11 hM => ?_)
        refine B_if_eq dX7_would_76 hM (tgt := 83) rfl (fun hM => ?_) (fun hM => ?_)
        · refine B_iconst dX7_would_83 k_ic_0 ?_
          exact B_iret ⟨_, rfl, hM⟩ trivial dX7_would_84
        · refine B_iconst dX7_would_79 k_ic_2 ?_
          refine B_goto (tgt := 84) dX7_would_80 rfl ?_
          exact B_iret ⟨_, rfl, hM⟩ trivial dX7_would_84
      · refine B_iconst dX7_would_42 k_ic_1 ?_
        exact B_iret ⟨_, rfl, hM⟩ trivial dX7_would_43
    · refine B_bipush dX7_would_26 k_bi_m5 ?_
      exact B_iret ⟨_, rfl, hM⟩ trivial dX7_would_28
  · refine B_iconst dX7_would_13 k_ic_m1 ?_
    exact B_iret ⟨_, rfl, hM⟩ trivial dX7_would_14

def P_X7_needs (F : Nat) (a1 : Int32) (a2 : Int32) (a3 : Int32) (h : AH) (K : Int32 → AH → Prop) : Prop := P_X5_isAsk F 1 a1 a2 a3 h (fun (r2 : Int32) (h1 : AH) => if ¬ r2 = (nI 0) then (P_X5_isWaiting F 1 a1 h1 (fun (r4 : Int32) (h3 : AH) => if r4 = (nI 0) then (P_X5_hindrances F 1 a1 a2 a3 h3 (fun (r6 : Int32) (h5 : AH) => K r6 h5)) else (K (-5 : Int32) h3))) else (K (-1 : Int32) h1))
set_option maxHeartbeats 4000000 in
theorem c_X7_needs {l : Launch} {d : Nat} {F : Nat} {a1 : Int32} {a2 : Int32} {a3 : Int32} {h : AH} {K : Int32 → AH → Prop} (hd : 2 ≤ d) (hM : P_X7_needs F a1 a2 a3 h K) : Ct l yX7_needs cX7_needs 4 (some .int) (rmD d) [.ref 0, .int a1, .int a2, .int a3] h (Qi K) := by
  have hk1 : 1 ≤ d := by omega
  have hk_X5_hindrances : 1 ≤ d - 1 := by omega
  have hk_X5_isAsk : 1 ≤ d - 1 := by omega
  have hk_X5_isWaiting : 0 ≤ d - 1 := by omega
  refine Ct_ofBW (by decide) rfl (Nat.le_of_ble_eq_true rfl) ⟨rfl, rfl⟩ ?_
  show BW RX7 cX7_needs 4 (some .int) l (rmD d) tb0 3 [.ref 0, .int a1, .int a2, .int a3] [] 0 h (Qi K)
  unfold P_X7_needs at hM
  refine B_aload_n dX7_needs_0 rfl ?_
  refine B_getR (sc_0) vc_7 (k := 0) (j := 1) rfl (by decide) inG7 ⟨rfl, rfl, rfl⟩ ww_fl_X7_12 dX7_needs_1 ?_
  refine B_iload_n dX7_needs_4 rfl ?_
  refine B_iload_n dX7_needs_5 rfl ?_
  refine B_iload_n dX7_needs_6 rfl ?_
  refine B_cV3i (c_X5_isAsk (d := d - 1) hk_X5_isAsk isTbl_1 hM) csV_X7_185 (sc_1) vc_5 rfl hp0 (rm_f hk1) (rm_l hk1 (by decide)) (Nat.le_of_ble_eq_true rfl) dX7_needs_7 (fun r2 h1 hM => ?_)
  refine B_if_ne dX7_needs_10 hM (tgt := 15) rfl (fun hM => ?_) (fun hM => ?_)
  · refine B_aload_n dX7_needs_15 rfl ?_
    refine B_getR (sc_0) vc_7 (k := 0) (j := 1) rfl (by decide) inG7 ⟨rfl, rfl, rfl⟩ ww_fl_X7_12 dX7_needs_16 ?_
    refine B_iload_n dX7_needs_19 rfl ?_
    refine B_cV1i (c_X5_isWaiting (d := d - 1) hk_X5_isWaiting isTbl_1 hM) csV_X7_111 (sc_1) vc_5 rfl hp0 (rm_f hk1) (rm_l hk1 (by decide)) (Nat.le_of_ble_eq_true rfl) dX7_needs_20 (fun r4 h3 hM => ?_)
    refine B_if_eq dX7_needs_23 hM (tgt := 29) rfl (fun hM => ?_) (fun hM => ?_)
    · refine B_aload_n dX7_needs_29 rfl ?_
      refine B_getR (sc_0) vc_7 (k := 0) (j := 1) rfl (by decide) inG7 ⟨rfl, rfl, rfl⟩ ww_fl_X7_12 dX7_needs_30 ?_
      refine B_iload_n dX7_needs_33 rfl ?_
      refine B_iload_n dX7_needs_34 rfl ?_
      refine B_iload_n dX7_needs_35 rfl ?_
      refine B_cV3i (c_X5_hindrances (d := d - 1) hk_X5_hindrances isTbl_1 hM) csV_X7_189 (sc_1) vc_5 rfl hp0 (rm_f hk1) (rm_l hk1 (by decide)) (Nat.le_of_ble_eq_true rfl) dX7_needs_36 (fun r6 h5 hM => ?_)
      exact B_iret ⟨_, rfl, hM⟩ trivial dX7_needs_39
    · refine B_bipush dX7_needs_26 k_bi_m5 ?_
      exact B_iret ⟨_, rfl, hM⟩ trivial dX7_needs_28
  · refine B_iconst dX7_needs_13 k_ic_m1 ?_
    exact B_iret ⟨_, rfl, hM⟩ trivial dX7_needs_14

def X7_strongest_c41 (F : Nat) (K : Int32 → AH → Prop) (n : Nat) : Int32 → Int32 → Int32 → AH → Prop := Nat.rec (motive := fun _ => Int32 → Int32 → Int32 → AH → Prop) (fun _ _ _ _ => False) (fun _ rc41 x1 x2 x3 h => if x3 < (nI 0) then (K (-2 : Int32) h) else (vp_in x3 3 ∧ (P_X5_hindrances F 1 x1 x2 (tAM x3.toNatClampNeg) h (fun (r2 : Int32) (h1 : AH) => if ¬ r2 = (nI 0) then (rc41 x1 x2 (x3 + (-1 : Int32)) h1) else (vp_in x3 3 ∧ (K (tAM x3.toNatClampNeg) h1)))))) n
theorem X7_strongest_c41_s {F : Nat} {K : Int32 → AH → Prop} {n : Nat} {x1 : Int32} {x2 : Int32} {x3 : Int32} {h : AH} : X7_strongest_c41 F K (n + 1) x1 x2 x3 h = (if x3 < (nI 0) then (K (-2 : Int32) h) else (vp_in x3 3 ∧ (P_X5_hindrances F 1 x1 x2 (tAM x3.toNatClampNeg) h (fun (r2 : Int32) (h1 : AH) => if ¬ r2 = (nI 0) then ((X7_strongest_c41 F K n) x1 x2 (x3 + (-1 : Int32)) h1) else (vp_in x3 3 ∧ (K (tAM x3.toNatClampNeg) h1)))))) := rfl
set_option maxHeartbeats 4000000 in
theorem bw_X7_strongest_c41 {l : Launch} {d : Nat} {F : Nat} {K : Int32 → AH → Prop} (hd : 2 ≤ d) : ∀ (n : Nat) (x1 : Int32) (x2 : Int32) (x3 : Int32) (h : AH), X7_strongest_c41 F K n x1 x2 x3 h → BW RX7 cX7_strongest 4 (some .int) l (rmD d) tb0 3 [.ref 0, .int x1, .int x2, .int x3] [] 41 h (Qi K) := by
  have hk1 : 1 ≤ d := by omega
  have hk_X5_hindrances : 1 ≤ d - 1 := by omega
  have hk_X5_isThing : 0 ≤ d - 1 := by omega
  have hk_X5_isWaiting : 0 ≤ d - 1 := by omega
  have hk_X7_isOwner : 0 ≤ d - 1 := by omega
  intro n
  induction n with
  | zero =>
    intro x1 x2 x3 h hM
    exact hM.elim
  | succ n hr41 =>
    intro x1 x2 x3 h hM
    rw [X7_strongest_c41_s] at hM
    refine B_iload_n dX7_strongest_41 rfl ?_
    refine B_if_lt dX7_strongest_42 hM (tgt := 74) rfl (fun hM => ?_) (fun hM => ?_)
    · refine B_bipush dX7_strongest_74 k_bi_m2 ?_
      exact B_iret ⟨_, rfl, hM⟩ trivial dX7_strongest_76
    · refine B_aload_n dX7_strongest_45 rfl ?_
      refine B_getR (sc_0) vc_7 (k := 0) (j := 1) rfl (by decide) inG7 ⟨rfl, rfl, rfl⟩ ww_fl_X7_12 dX7_strongest_46 ?_
      refine B_iload_n dX7_strongest_49 rfl ?_
      refine B_iload_n dX7_strongest_50 rfl ?_
      refine B_gs2 rfl ww_fl_X7_203 dX7_strongest_51 ?_
      refine B_iload_n dX7_strongest_54 rfl ?_
      refine B_tald (t := 2) (by decide) hM dX7_strongest_55 (fun hM => ?_)
      refine B_cV3i (c_X5_hindrances (d := d - 1) hk_X5_hindrances isTbl_1 hM) csV_X7_189 (sc_1) vc_5 rfl hp0 (rm_f hk1) (rm_l hk1 (by decide)) (Nat.le_of_ble_eq_true rfl) dX7_strongest_56 (fun r2 h1 hM => ?_)
      refine B_if_ne dX7_strongest_59 hM (tgt := 68) rfl (fun hM => ?_) (fun hM => ?_)
      · refine B_iinc dX7_strongest_68 rfl k_ic_m1 (Nat.le_of_ble_eq_true rfl) ?_
        refine B_goto (tgt := 41) dX7_strongest_71 rfl ?_
        exact B_wk (hr41 _ _ _ _ hM) (wk_1 (wk_1 (wk_1 (wk_1 wk_n))))
      · refine B_gs2 rfl ww_fl_X7_203 dX7_strongest_62 ?_
        refine B_iload_n dX7_strongest_65 rfl ?_
        refine B_tald (t := 2) (by decide) hM dX7_strongest_66 (fun hM => ?_)
        exact B_iret ⟨_, rfl, hM⟩ trivial dX7_strongest_67
def P_X7_strongest (F : Nat) (a1 : Int32) (a2 : Int32) (h : AH) (K : Int32 → AH → Prop) : Prop := P_X7_isOwner F a1 h (fun (r2 : Int32) (h1 : AH) => if r2 = (nI 0) then (K (-1 : Int32) h1) else (P_X5_isThing F 1 a2 h1 (fun (r4 : Int32) (h3 : AH) => if ¬ r4 = (nI 0) then (P_X5_isWaiting F 1 a1 h3 (fun (r6 : Int32) (h5 : AH) => if r6 = (nI 0) then (X7_strongest_c41 F K F a1 a2 ((nI 3) - (nI 1)) h5) else (K (-5 : Int32) h5))) else (K (-1 : Int32) h3))))
set_option maxHeartbeats 4000000 in
theorem c_X7_strongest {l : Launch} {d : Nat} {F : Nat} {a1 : Int32} {a2 : Int32} {h : AH} {K : Int32 → AH → Prop} (hd : 2 ≤ d) (hM : P_X7_strongest F a1 a2 h K) : Ct l yX7_strongest cX7_strongest 4 (some .int) (rmD d) [.ref 0, .int a1, .int a2] h (Qi K) := by
  have hk1 : 1 ≤ d := by omega
  have hk_X5_hindrances : 1 ≤ d - 1 := by omega
  have hk_X5_isThing : 0 ≤ d - 1 := by omega
  have hk_X5_isWaiting : 0 ≤ d - 1 := by omega
  have hk_X7_isOwner : 0 ≤ d - 1 := by omega
  refine Ct_ofBW (by decide) rfl (Nat.le_of_ble_eq_true rfl) ⟨rfl, rfl⟩ ?_
  show BW RX7 cX7_strongest 4 (some .int) l (rmD d) tb0 3 [.ref 0, .int a1, .int a2, .null] [] 0 h (Qi K)
  unfold P_X7_strongest at hM
  refine B_iload_n dX7_strongest_0 rfl ?_
  refine B_cS1i (c_X7_isOwner (d := d - 1) hk_X7_isOwner  hM) csS_X7_105 hp0 (rm_f hk1) (rm_l hk1 (by decide)) (Nat.le_of_ble_eq_true rfl) dX7_strongest_1 (fun r2 h1 hM => ?_)
  refine B_if_eq dX7_strongest_4 hM (tgt := 18) rfl (fun hM => ?_) (fun hM => ?_)
  · refine B_iconst dX7_strongest_18 k_ic_m1 ?_
    exact B_iret ⟨_, rfl, hM⟩ trivial dX7_strongest_19
  · refine B_aload_n dX7_strongest_7 rfl ?_
    refine B_getR (sc_0) vc_7 (k := 0) (j := 1) rfl (by decide) inG7 ⟨rfl, rfl, rfl⟩ ww_fl_X7_12 dX7_strongest_8 ?_
    refine B_iload_n dX7_strongest_11 rfl ?_
    refine B_cV1i (c_X5_isThing (d := d - 1) hk_X5_isThing isTbl_1 hM) csV_X7_74 (sc_1) vc_5 rfl hp0 (rm_f hk1) (rm_l hk1 (by decide)) (Nat.le_of_ble_eq_true rfl) dX7_strongest_12 (fun r4 h3 hM => ?_)
    refine B_if_ne dX7_strongest_15 hM (tgt := 20) rfl (fun hM => ?_) (fun hM => ?_)
    · refine B_aload_n dX7_strongest_20 rfl ?_
      refine B_getR (sc_0) vc_7 (k := 0) (j := 1) rfl (by decide) inG7 ⟨rfl, rfl, rfl⟩ ww_fl_X7_12 dX7_strongest_21 ?_
      refine B_iload_n dX7_strongest_24 rfl ?_
      refine B_cV1i (c_X5_isWaiting (d := d - 1) hk_X5_isWaiting isTbl_1 hM) csV_X7_111 (sc_1) vc_5 rfl hp0 (rm_f hk1) (rm_l hk1 (by decide)) (Nat.le_of_ble_eq_true rfl) dX7_strongest_25 (fun r6 h5 hM => ?_)
      refine B_if_eq dX7_strongest_28 hM (tgt := 34) rfl (fun hM => ?_) (fun hM => ?_)
      · refine B_gs2 rfl ww_fl_X7_203 dX7_strongest_34 ?_
        refine B_tlen (t := 2) (v := (nI 3)) (by decide) rfl dX7_strongest_37 ?_
        refine B_iconst dX7_strongest_38 k_ic_1 ?_
        refine B_isub dX7_strongest_39 ?_
        refine B_istore_n dX7_strongest_40 (Nat.le_of_ble_eq_true rfl) ?_
        exact B_wk (bw_X7_strongest_c41 hd  _ _ _ _ _ hM) (wk_1 (wk_1 (wk_1 (wk_1 wk_n))))
      · refine B_bipush dX7_strongest_31 k_bi_m5 ?_
        exact B_iret ⟨_, rfl, hM⟩ trivial dX7_strongest_33
    · refine B_iconst dX7_strongest_18 k_ic_m1 ?_
      exact B_iret ⟨_, rfl, hM⟩ trivial dX7_strongest_19

def P_X7_plan (F : Nat) (a1 : Int32) (a2 : Int32) (a3 : Int32) (h : AH) (K : Int32 → AH → Prop) : Prop := if ¬ a1 = (-1 : Int32) then (P_X5_addRow F 1 a1 a2 a3 h (fun (r2 : Int32) (h1 : AH) => K r2 h1)) else ((fun (h3 : AH) => K (nI 0) h3) (up h 1 9 (nI 0)))
set_option maxHeartbeats 4000000 in
theorem c_X7_plan {l : Launch} {d : Nat} {F : Nat} {a1 : Int32} {a2 : Int32} {a3 : Int32} {h : AH} {K : Int32 → AH → Prop} (hd : 3 ≤ d) (hM : P_X7_plan F a1 a2 a3 h K) : Ct l yX7_plan cX7_plan 4 (some .int) (rmD d) [.ref 0, .int a1, .int a2, .int a3] h (Qi K) := by
  have hk1 : 1 ≤ d := by omega
  have hk_X5_addRow : 2 ≤ d - 1 := by omega
  refine Ct_ofBW (by decide) rfl (Nat.le_of_ble_eq_true rfl) ⟨rfl, rfl⟩ ?_
  show BW RX7 cX7_plan 4 (some .int) l (rmD d) tb0 3 [.ref 0, .int a1, .int a2, .int a3] [] 0 h (Qi K)
  unfold P_X7_plan at hM
  refine B_iload_n dX7_plan_0 rfl ?_
  refine B_iconst dX7_plan_1 k_ic_m1 ?_
  refine B_icmp_ne dX7_plan_2 hM (tgt := 15) rfl (fun hM => ?_) (fun hM => ?_)
  · refine B_aload_n dX7_plan_15 rfl ?_
    refine B_getR (sc_0) vc_7 (k := 0) (j := 1) rfl (by decide) inG7 ⟨rfl, rfl, rfl⟩ ww_fl_X7_12 dX7_plan_16 ?_
    refine B_iload_n dX7_plan_19 rfl ?_
    refine B_iload_n dX7_plan_20 rfl ?_
    refine B_iload_n dX7_plan_21 rfl ?_
    refine B_cV3i (c_X5_addRow (d := d - 1) hk_X5_addRow isTbl_1 hM) csV_X7_206 (sc_1) vc_5 rfl hp0 (rm_f hk1) (rm_l hk1 (by decide)) (Nat.le_of_ble_eq_true rfl) dX7_plan_22 (fun r2 h1 hM => ?_)
    exact B_iret ⟨_, rfl, hM⟩ trivial dX7_plan_25
  · refine B_aload_n dX7_plan_5 rfl ?_
    refine B_getR (sc_0) vc_7 (k := 0) (j := 1) rfl (by decide) inG7 ⟨rfl, rfl, rfl⟩ ww_fl_X7_12 dX7_plan_6 ?_
    refine B_iconst dX7_plan_9 k_ic_0 ?_
    refine B_putI (fits_I _) (sc_1) vc_5 (k := 9) rfl (by decide) inG5 ⟨rfl, rfl, rfl⟩ tyX5 tyX5_ok nmX5 rfl rfl ww_fl_X7_175 dX7_plan_10 ?_
    refine B_iconst dX7_plan_13 k_ic_0 ?_
    exact B_iret ⟨_, rfl, hM⟩ trivial dX7_plan_14

def X7_plays_c76 (F : Nat) (K : Int32 → AH → Prop) (x1 : Int32) (h : AH) : Prop := if x1 = (nI 0) then (if ¬ (h 37 1) = (nI 0) then (K (nI 41) h) else (K (h 37 2) h)) else (if x1 = (nI 1) then (K (h 37 3) h) else (K (h 13 13) h))
set_option maxHeartbeats 4000000 in
theorem bw_X7_plays_c76 {l : Launch} {d : Nat} {F : Nat} {K : Int32 → AH → Prop} {x1 : Int32} {h : AH} (hd : 6 ≤ d) (hM : X7_plays_c76 F K x1 h) : BW RX7 cX7_plays 3 (some .int) l (rmD d) tb0 3 [.ref 0, .int x1, .null] [] 76 h (Qi K) := by
  have hk1 : 1 ≤ d := by omega
  have hk_X4_playRound : 5 ≤ d - 1 := by omega
  have hk_X4_start : 0 ≤ d - 1 := by omega
  have hk_X5_copyFrom : 1 ≤ d - 1 := by omega
  unfold X7_plays_c76 at hM
  refine B_iload_n dX7_plays_76 rfl ?_
  refine ite_p hM (fun hc0 hM => ?_) (fun hc0 hM => ?_)
  · refine B_look (off := 27) (by decide) (by rw [hc0] <;> rfl) dX7_plays_77 (tgt := 104) rfl ?_
    refine B_aload_n dX7_plays_104 rfl ?_
    refine B_getR (sc_0) vc_7 (k := 4) (j := 37) rfl (by decide) inG7 ⟨rfl, rfl, rfl⟩ ww_fl_X7_31 dX7_plays_105 ?_
    refine B_getI (sc_37) vc_4 (k := 1) rfl (by decide) inG4 ⟨rfl, rfl, rfl⟩ ww_fl_X7_212 dX7_plays_108 ?_
    refine B_if_ne dX7_plays_111 hM (tgt := 124) rfl (fun hM => ?_) (fun hM => ?_)
    · refine B_bipush dX7_plays_124 k_bi_41 ?_
      exact B_iret ⟨_, rfl, hM⟩ trivial dX7_plays_126
    · refine B_aload_n dX7_plays_114 rfl ?_
      refine B_getR (sc_0) vc_7 (k := 4) (j := 37) rfl (by decide) inG7 ⟨rfl, rfl, rfl⟩ ww_fl_X7_31 dX7_plays_115 ?_
      refine B_getI (sc_37) vc_4 (k := 2) rfl (by decide) inG4 ⟨rfl, rfl, rfl⟩ ww_fl_X7_218 dX7_plays_118 ?_
      refine B_goto (tgt := 126) dX7_plays_121 rfl ?_
      exact B_iret ⟨_, rfl, hM⟩ trivial dX7_plays_126
  refine ite_p hM (fun hc1 hM => ?_) (fun hc1 hM => ?_)
  · refine B_look (off := 50) (by decide) (by rw [hc1] <;> rfl) dX7_plays_77 (tgt := 127) rfl ?_
    refine B_aload_n dX7_plays_127 rfl ?_
    refine B_getR (sc_0) vc_7 (k := 4) (j := 37) rfl (by decide) inG7 ⟨rfl, rfl, rfl⟩ ww_fl_X7_31 dX7_plays_128 ?_
    refine B_getI (sc_37) vc_4 (k := 3) rfl (by decide) inG4 ⟨rfl, rfl, rfl⟩ ww_fl_X7_221 dX7_plays_131 ?_
    exact B_iret ⟨_, rfl, hM⟩ trivial dX7_plays_134
  refine B_look (off := 58) (by decide) (by show Op.lookupswitch.offset [(0, 27), (1, 50)] 58 (x1).toInt = 58; rw [Op.lookupswitch.offset_cons, if_neg (lk_ne (by decide) hc0)]; rw [Op.lookupswitch.offset_cons, if_neg (lk_ne (by decide) hc1)]; rfl) dX7_plays_77 (tgt := 135) rfl ?_
  refine B_aload_n dX7_plays_135 rfl ?_
  refine B_getR (sc_0) vc_7 (k := 1) (j := 13) rfl (by decide) inG7 ⟨rfl, rfl, rfl⟩ ww_fl_X7_18 dX7_plays_136 ?_
  refine B_getI (sc_13) vc_5 (k := 13) rfl (by decide) inG5 ⟨rfl, rfl, rfl⟩ ww_fl_X7_182 dX7_plays_139 ?_
  exact B_iret ⟨_, rfl, hM⟩ trivial dX7_plays_142
def X7_plays_c43 (F : Nat) (K : Int32 → AH → Prop) (n : Nat) : Int32 → Int32 → AH → Prop := Nat.rec (motive := fun _ => Int32 → Int32 → AH → Prop) (fun _ _ _ => False) (fun _ rc43 x1 x2 h => if (nI 40) ≤ x2 then (X7_plays_c76 F K x1 h) else (if (h 37 1) = (nI 0) then (X7_plays_c76 F K x1 h) else (P_X4_playRound F 13 h (fun (h1 : AH) => rc43 x1 (x2 + (nI 1)) h1)))) n
theorem X7_plays_c43_s {F : Nat} {K : Int32 → AH → Prop} {n : Nat} {x1 : Int32} {x2 : Int32} {h : AH} : X7_plays_c43 F K (n + 1) x1 x2 h = (if (nI 40) ≤ x2 then (X7_plays_c76 F K x1 h) else (if (h 37 1) = (nI 0) then (X7_plays_c76 F K x1 h) else (P_X4_playRound F 13 h (fun (h1 : AH) => (X7_plays_c43 F K n) x1 (x2 + (nI 1)) h1)))) := rfl
set_option maxHeartbeats 4000000 in
theorem bw_X7_plays_c43 {l : Launch} {d : Nat} {F : Nat} {K : Int32 → AH → Prop} (hd : 6 ≤ d) : ∀ (n : Nat) (x1 : Int32) (x2 : Int32) (h : AH), X7_plays_c43 F K n x1 x2 h → BW RX7 cX7_plays 3 (some .int) l (rmD d) tb0 3 [.ref 0, .int x1, .int x2] [] 43 h (Qi K) := by
  have hk1 : 1 ≤ d := by omega
  have hk_X4_playRound : 5 ≤ d - 1 := by omega
  have hk_X4_start : 0 ≤ d - 1 := by omega
  have hk_X5_copyFrom : 1 ≤ d - 1 := by omega
  intro n
  induction n with
  | zero =>
    intro x1 x2 h hM
    exact hM.elim
  | succ n hr43 =>
    intro x1 x2 h hM
    rw [X7_plays_c43_s] at hM
    refine B_iload_n dX7_plays_43 rfl ?_
    refine B_bipush dX7_plays_44 k_bi_40 ?_
    refine B_icmp_ge dX7_plays_46 hM (tgt := 76) rfl (fun hM => ?_) (fun hM => ?_)
    · exact B_wk (bw_X7_plays_c76 hd  hM) (wk_1 (wk_1 (wk_0 wk_n)))
    · refine B_aload_n dX7_plays_49 rfl ?_
      refine B_getR (sc_0) vc_7 (k := 4) (j := 37) rfl (by decide) inG7 ⟨rfl, rfl, rfl⟩ ww_fl_X7_31 dX7_plays_50 ?_
      refine B_getI (sc_37) vc_4 (k := 1) rfl (by decide) inG4 ⟨rfl, rfl, rfl⟩ ww_fl_X7_212 dX7_plays_53 ?_
      refine B_if_eq dX7_plays_56 hM (tgt := 76) rfl (fun hM => ?_) (fun hM => ?_)
      · exact B_wk (bw_X7_plays_c76 hd  hM) (wk_1 (wk_1 (wk_0 wk_n)))
      · refine B_aload_n dX7_plays_59 rfl ?_
        refine B_getR (sc_0) vc_7 (k := 4) (j := 37) rfl (by decide) inG7 ⟨rfl, rfl, rfl⟩ ww_fl_X7_31 dX7_plays_60 ?_
        refine B_aload_n dX7_plays_63 rfl ?_
        refine B_getR (sc_0) vc_7 (k := 1) (j := 13) rfl (by decide) inG7 ⟨rfl, rfl, rfl⟩ ww_fl_X7_18 dX7_plays_64 ?_
        refine B_cV1v (c_X4_playRound (d := d - 1) hk_X4_playRound isTbl_13 hM) csV_X7_215 (sc_37) vc_4 rfl hp0 (rm_f hk1) (rm_l hk1 (by decide)) (Nat.le_of_ble_eq_true rfl) dX7_plays_67 (fun h1 hM => ?_)
        refine B_iinc dX7_plays_70 rfl k_ic_1 (Nat.le_of_ble_eq_true rfl) ?_
        refine B_goto (tgt := 43) dX7_plays_73 rfl ?_
        exact B_wk (hr43 _ _ _ hM) (wk_1 (wk_1 (wk_1 wk_n)))
def P_X7_plays (F : Nat) (a1 : Int32) (h : AH) (K : Int32 → AH → Prop) : Prop := if a1 < (nI 0) then (K (-1 : Int32) h) else (if a1 ≤ (nI 2) then (P_X5_copyFrom F 13 1 h (fun (h1 : AH) => (fun (h2 : AH) => P_X4_start F 13 h2 (fun (h3 : AH) => X7_plays_c43 F K F a1 (nI 0) h3)) (up h1 13 13 (nI 0)))) else (K (-1 : Int32) h))
set_option maxHeartbeats 4000000 in
theorem c_X7_plays {l : Launch} {d : Nat} {F : Nat} {a1 : Int32} {h : AH} {K : Int32 → AH → Prop} (hd : 6 ≤ d) (hM : P_X7_plays F a1 h K) : Ct l yX7_plays cX7_plays 3 (some .int) (rmD d) [.ref 0, .int a1] h (Qi K) := by
  have hk1 : 1 ≤ d := by omega
  have hk_X4_playRound : 5 ≤ d - 1 := by omega
  have hk_X4_start : 0 ≤ d - 1 := by omega
  have hk_X5_copyFrom : 1 ≤ d - 1 := by omega
  refine Ct_ofBW (by decide) rfl (Nat.le_of_ble_eq_true rfl) ⟨rfl, rfl⟩ ?_
  show BW RX7 cX7_plays 3 (some .int) l (rmD d) tb0 3 [.ref 0, .int a1, .null] [] 0 h (Qi K)
  unfold P_X7_plays at hM
  refine B_iload_n dX7_plays_0 rfl ?_
  refine B_if_lt dX7_plays_1 hM (tgt := 9) rfl (fun hM => ?_) (fun hM => ?_)
  · refine B_iconst dX7_plays_9 k_ic_m1 ?_
    exact B_iret ⟨_, rfl, hM⟩ trivial dX7_plays_10
  · refine B_iload_n dX7_plays_4 rfl ?_
    refine B_iconst dX7_plays_5 k_ic_2 ?_
    refine B_icmp_le dX7_plays_6 hM (tgt := 11) rfl (fun hM => ?_) (fun hM => ?_)
    · refine B_aload_n dX7_plays_11 rfl ?_
      refine B_getR (sc_0) vc_7 (k := 1) (j := 13) rfl (by decide) inG7 ⟨rfl, rfl, rfl⟩ ww_fl_X7_18 dX7_plays_12 ?_
      refine B_aload_n dX7_plays_15 rfl ?_
      refine B_getR (sc_0) vc_7 (k := 0) (j := 1) rfl (by decide) inG7 ⟨rfl, rfl, rfl⟩ ww_fl_X7_12 dX7_plays_16 ?_
      refine B_cV1v (c_X5_copyFrom (d := d - 1) hk_X5_copyFrom isTbl_13 isTbl_1 hM) csV_X7_192 (sc_13) vc_5 rfl hp0 (rm_f hk1) (rm_l hk1 (by decide)) (Nat.le_of_ble_eq_true rfl) dX7_plays_19 (fun h1 hM => ?_)
      refine B_aload_n dX7_plays_22 rfl ?_
      refine B_getR (sc_0) vc_7 (k := 1) (j := 13) rfl (by decide) inG7 ⟨rfl, rfl, rfl⟩ ww_fl_X7_18 dX7_plays_23 ?_
      refine B_iconst dX7_plays_26 k_ic_0 ?_
      refine B_putI (fits_I _) (sc_13) vc_5 (k := 13) rfl (by decide) inG5 ⟨rfl, rfl, rfl⟩ tyX5 tyX5_ok nmX5 rfl rfl ww_fl_X7_182 dX7_plays_27 ?_
      refine B_aload_n dX7_plays_30 rfl ?_
      refine B_getR (sc_0) vc_7 (k := 4) (j := 37) rfl (by decide) inG7 ⟨rfl, rfl, rfl⟩ ww_fl_X7_31 dX7_plays_31 ?_
      refine B_aload_n dX7_plays_34 rfl ?_
      refine B_getR (sc_0) vc_7 (k := 1) (j := 13) rfl (by decide) inG7 ⟨rfl, rfl, rfl⟩ ww_fl_X7_18 dX7_plays_35 ?_
      refine B_cV1v (c_X4_start (d := d - 1) hk_X4_start isTbl_13 hM) csV_X7_209 (sc_37) vc_4 rfl hp0 (rm_f hk1) (rm_l hk1 (by decide)) (Nat.le_of_ble_eq_true rfl) dX7_plays_38 (fun h3 hM => ?_)
      refine B_iconst dX7_plays_41 k_ic_0 ?_
      refine B_istore_n dX7_plays_42 (Nat.le_of_ble_eq_true rfl) ?_
      exact B_wk (bw_X7_plays_c43 hd  _ _ _ _ hM) (wk_1 (wk_1 (wk_1 wk_n)))
    · refine B_iconst dX7_plays_9 k_ic_m1 ?_
      exact B_iret ⟨_, rfl, hM⟩ trivial dX7_plays_10
