def P_X8_gate (F : Nat) (a1 : Int32) (a2 : Int32) (h : AH) (K : Int32 → AH → Prop) : Prop := P_X8_isThing F a1 h (fun (r2 : Int32) (h1 : AH) => if r2 = (nI 0) then (K (-1 : Int32) h1) else (P_X8_in F a2 (nI 0) (nI 2) h1 (fun (r4 : Int32) (h3 : AH) => if ¬ r4 = (nI 0) then (P_X8_isBare F a1 h3 (fun (r6 : Int32) (h5 : AH) => if r6 = (nI 0) then (if ¬ a2 = (nI 0) then (if ¬ a2 = (nI 1) then (vp_in a1 12 ∧ (K (h5 62 a1.toNatClampNeg) h5)) else (vp_in a1 12 ∧ (K (h5 61 a1.toNatClampNeg) h5))) else (vp_in a1 12 ∧ (K (h5 60 a1.toNatClampNeg) h5))) else (K (-11 : Int32) h5))) else (K (-1 : Int32) h3))))
set_option maxHeartbeats 4000000 in
theorem c_X8_gate {l : Launch} {d : Nat} {F : Nat} {a1 : Int32} {a2 : Int32} {h : AH} {K : Int32 → AH → Prop} (hd : 2 ≤ d) (hM : P_X8_gate F a1 a2 h K) : Ct l yX8_gate cX8_gate 3 (some .int) (rmD d) [.ref 56, .int a1, .int a2] h (Qi K) := by
  have hk1 : 1 ≤ d := by omega
  have hk_X8_in : 0 ≤ d - 1 := by omega
  have hk_X8_isBare : 0 ≤ d - 1 := by omega
  have hk_X8_isThing : 1 ≤ d - 1 := by omega
  refine Ct_ofBW (by decide) rfl (Nat.le_of_ble_eq_true rfl) ⟨rfl, rfl⟩ ?_
  show BW RX8 cX8_gate 3 (some .int) l (rmD d) tb0 3 [.ref 56, .int a1, .int a2] [] 0 h (Qi K)
  unfold P_X8_gate at hM
  refine B_aload_n dX8_gate_0 rfl ?_
  refine B_iload_n dX8_gate_1 rfl ?_
  refine B_cV1i (c_X8_isThing (d := d - 1) hk_X8_isThing  hM) csV_X8_70 (sc_56) vc_8 rfl hp0 (rm_f hk1) (rm_l hk1 (by decide)) (Nat.le_of_ble_eq_true rfl) dX8_gate_2 (fun r2 h1 hM => ?_)
  refine B_if_eq dX8_gate_5 hM (tgt := 17) rfl (fun hM => ?_) (fun hM => ?_)
  · refine B_iconst dX8_gate_17 k_ic_m1 ?_
    exact B_iret ⟨_, rfl, hM⟩ trivial dX8_gate_18
  · refine B_iload_n dX8_gate_8 rfl ?_
    refine B_iconst dX8_gate_9 k_ic_0 ?_
    refine B_iconst dX8_gate_10 k_ic_2 ?_
    refine B_cS3i (c_X8_in (d := d - 1) hk_X8_in  hM) csS_X8_62 hp0 (rm_f hk1) (rm_l hk1 (by decide)) (Nat.le_of_ble_eq_true rfl) dX8_gate_11 (fun r4 h3 hM => ?_)
    refine B_if_ne dX8_gate_14 hM (tgt := 19) rfl (fun hM => ?_) (fun hM => ?_)
    · refine B_aload_n dX8_gate_19 rfl ?_
      refine B_iload_n dX8_gate_20 rfl ?_
      refine B_cV1i (c_X8_isBare (d := d - 1) hk_X8_isBare  hM) csV_X8_248 (sc_56) vc_8 rfl hp0 (rm_f hk1) (rm_l hk1 (by decide)) (Nat.le_of_ble_eq_true rfl) dX8_gate_21 (fun r6 h5 hM => ?_)
      refine B_if_eq dX8_gate_24 hM (tgt := 30) rfl (fun hM => ?_) (fun hM => ?_)
      · refine B_iload_n dX8_gate_30 rfl ?_
        refine B_if_ne dX8_gate_31 hM (tgt := 43) rfl (fun hM => ?_) (fun hM => ?_)
        · refine B_iload_n dX8_gate_43 rfl ?_
          refine B_iconst dX8_gate_44 k_ic_1 ?_
          refine B_icmp_ne dX8_gate_45 hM (tgt := 57) rfl (fun hM => ?_) (fun hM => ?_)
          · refine B_aload_n dX8_gate_57 rfl ?_
            refine B_getR (sc_56) vc_8 (k := 8) (j := 62) rfl (by decide) inG8 ⟨rfl, rfl, rfl⟩ ww_fl_X8_31 dX8_gate_58 ?_
            refine B_iload_n dX8_gate_61 rfl ?_
            refine B_iald (sc_62) hM dX8_gate_62 (fun hM => ?_)
            exact B_iret ⟨_, rfl, hM⟩ trivial dX8_gate_63
          · refine B_aload_n dX8_gate_48 rfl ?_
            refine B_getR (sc_56) vc_8 (k := 7) (j := 61) rfl (by decide) inG8 ⟨rfl, rfl, rfl⟩ ww_fl_X8_28 dX8_gate_49 ?_
            refine B_iload_n dX8_gate_52 rfl ?_
            refine B_iald (sc_61) hM dX8_gate_53 (fun hM => ?_)
            refine B_goto (tgt := 63) dX8_gate_54 rfl ?_
            exact B_iret ⟨_, rfl, hM⟩ trivial dX8_gate_63
        · refine B_aload_n dX8_gate_34 rfl ?_
          refine B_getR (sc_56) vc_8 (k := 6) (j := 60) rfl (by decide) inG8 ⟨rfl, rfl, rfl⟩ ww_fl_X8_25 dX8_gate_35 ?_
          refine B_iload_n dX8_gate_38 rfl ?_
          refine B_iald (sc_60) hM dX8_gate_39 (fun hM => ?_)
          refine B_goto (tgt := 63) dX8_gate_40 rfl ?_
          exact B_iret ⟨_, rfl, hM⟩ trivial dX8_gate_63
      · refine B_bipush dX8_gate_27 k_bi_m11 ?_
        exact B_iret ⟨_, rfl, hM⟩ trivial dX8_gate_29
    · refine B_iconst dX8_gate_17 k_ic_m1 ?_
      exact B_iret ⟨_, rfl, hM⟩ trivial dX8_gate_18

def P_X8_feed (F : Nat) (a1 : Int32) (h : AH) (K : Int32 → AH → Prop) : Prop := P_X8_in F a1 (nI 1) (nI 127) h (fun (r2 : Int32) (h1 : AH) => if ¬ r2 = (nI 0) then (if ¬ (h1 56 16) = (nI 120) then (vp_in (h1 56 16) 120 ∧ ((fun (h3 : AH) => (fun (h4 : AH) => K (h4 56 16) h4) (up h3 56 16 ((h3 56 16) + (nI 1)))) (up h1 64 (h1 56 16).toNatClampNeg a1))) else (K (-3 : Int32) h1)) else (K (-1 : Int32) h1))
set_option maxHeartbeats 4000000 in
theorem c_X8_feed {l : Launch} {d : Nat} {F : Nat} {a1 : Int32} {h : AH} {K : Int32 → AH → Prop} (hd : 1 ≤ d) (hM : P_X8_feed F a1 h K) : Ct l yX8_feed cX8_feed 2 (some .int) (rmD d) [.ref 56, .int a1] h (Qi K) := by
  have hk1 : 1 ≤ d := by omega
  have hk_X8_in : 0 ≤ d - 1 := by omega
  refine Ct_ofBW (by decide) rfl (Nat.le_of_ble_eq_true rfl) ⟨rfl, rfl⟩ ?_
  show BW RX8 cX8_feed 2 (some .int) l (rmD d) tb0 3 [.ref 56, .int a1] [] 0 h (Qi K)
  unfold P_X8_feed at hM
  refine B_iload_n dX8_feed_0 rfl ?_
  refine B_iconst dX8_feed_1 k_ic_1 ?_
  refine B_bipush dX8_feed_2 k_bi_127 ?_
  refine B_cS3i (c_X8_in (d := d - 1) hk_X8_in  hM) csS_X8_62 hp0 (rm_f hk1) (rm_l hk1 (by decide)) (Nat.le_of_ble_eq_true rfl) dX8_feed_4 (fun r2 h1 hM => ?_)
  refine B_if_ne dX8_feed_7 hM (tgt := 12) rfl (fun hM => ?_) (fun hM => ?_)
  · refine B_aload_n dX8_feed_12 rfl ?_
    refine B_getI (sc_56) vc_8 (k := 16) rfl (by decide) inG8 ⟨rfl, rfl, rfl⟩ ww_fl_X8_180 dX8_feed_13 ?_
    refine B_bipush dX8_feed_16 k_bi_120 ?_
    refine B_icmp_ne dX8_feed_18 hM (tgt := 24) rfl (fun hM => ?_) (fun hM => ?_)
    · refine B_aload_n dX8_feed_24 rfl ?_
      refine B_getR (sc_56) vc_8 (k := 15) (j := 64) rfl (by decide) inG8 ⟨rfl, rfl, rfl⟩ ww_fl_X8_37 dX8_feed_25 ?_
      refine B_aload_n dX8_feed_28 rfl ?_
      refine B_getI (sc_56) vc_8 (k := 16) rfl (by decide) inG8 ⟨rfl, rfl, rfl⟩ ww_fl_X8_180 dX8_feed_29 ?_
      refine B_iload_n dX8_feed_32 rfl ?_
      refine B_iast (sc_64) hM dX8_feed_33 (fun hM => ?_)
      refine B_aload_n dX8_feed_34 rfl ?_
      refine B_dupR dX8_feed_35 ?_
      refine B_getI (sc_56) vc_8 (k := 16) rfl (by decide) inG8 ⟨rfl, rfl, rfl⟩ ww_fl_X8_180 dX8_feed_36 ?_
      refine B_iconst dX8_feed_39 k_ic_1 ?_
      refine B_iadd dX8_feed_40 ?_
      refine B_putI (fits_I _) (sc_56) vc_8 (k := 16) rfl (by decide) inG8 ⟨rfl, rfl, rfl⟩ tyX8 tyX8_ok nmX8 rfl rfl ww_fl_X8_180 dX8_feed_41 ?_
      refine B_aload_n dX8_feed_44 rfl ?_
      refine B_getI (sc_56) vc_8 (k := 16) rfl (by decide) inG8 ⟨rfl, rfl, rfl⟩ ww_fl_X8_180 dX8_feed_45 ?_
      exact B_iret ⟨_, rfl, hM⟩ trivial dX8_feed_48
    · refine B_bipush dX8_feed_21 k_bi_m3 ?_
      exact B_iret ⟨_, rfl, hM⟩ trivial dX8_feed_23
  · refine B_iconst dX8_feed_10 k_ic_m1 ?_
    exact B_iret ⟨_, rfl, hM⟩ trivial dX8_feed_11

def P_X8_here (F : Nat) (h : AH) (K : Int32 → AH → Prop) : Prop := if (h 56 16) ≤ (h 56 17) then (K (nI 0) h) else (vp_in (h 56 17) 120 ∧ (K (h 64 (h 56 17).toNatClampNeg) h))
set_option maxHeartbeats 4000000 in
theorem c_X8_here {l : Launch} {d : Nat} {F : Nat} {h : AH} {K : Int32 → AH → Prop} (hd : 0 ≤ d) (hM : P_X8_here F h K) : Ct l yX8_here cX8_here 1 (some .int) (rmD d) [.ref 56] h (Qi K) := by
  refine Ct_ofBW (by decide) rfl (Nat.le_of_ble_eq_true rfl) ⟨rfl, rfl⟩ ?_
  show BW RX8 cX8_here 1 (some .int) l (rmD d) tb0 3 [.ref 56] [] 0 h (Qi K)
  unfold P_X8_here at hM
  refine B_aload_n dX8_here_0 rfl ?_
  refine B_getI (sc_56) vc_8 (k := 17) rfl (by decide) inG8 ⟨rfl, rfl, rfl⟩ ww_fl_X8_251 dX8_here_1 ?_
  refine B_aload_n dX8_here_4 rfl ?_
  refine B_getI (sc_56) vc_8 (k := 16) rfl (by decide) inG8 ⟨rfl, rfl, rfl⟩ ww_fl_X8_180 dX8_here_5 ?_
  refine B_icmp_ge dX8_here_8 hM (tgt := 23) rfl (fun hM => ?_) (fun hM => ?_)
  · refine B_iconst dX8_here_23 k_ic_0 ?_
    exact B_iret ⟨_, rfl, hM⟩ trivial dX8_here_24
  · refine B_aload_n dX8_here_11 rfl ?_
    refine B_getR (sc_56) vc_8 (k := 15) (j := 64) rfl (by decide) inG8 ⟨rfl, rfl, rfl⟩ ww_fl_X8_37 dX8_here_12 ?_
    refine B_aload_n dX8_here_15 rfl ?_
    refine B_getI (sc_56) vc_8 (k := 17) rfl (by decide) inG8 ⟨rfl, rfl, rfl⟩ ww_fl_X8_251 dX8_here_16 ?_
    refine B_iald (sc_64) hM dX8_here_19 (fun hM => ?_)
    refine B_goto (tgt := 24) dX8_here_20 rfl ?_
    exact B_iret ⟨_, rfl, hM⟩ trivial dX8_here_24

def P_X8_isFigure (F : Nat) (a1 : Int32) (h : AH) (K : Int32 → AH → Prop) : Prop := P_X8_in F a1 (nI 48) (nI 57) h (fun (r2 : Int32) (h1 : AH) => zB r2 ∧ K r2 h1)
set_option maxHeartbeats 4000000 in
theorem c_X8_isFigure {l : Launch} {d : Nat} {F : Nat} {a1 : Int32} {h : AH} {K : Int32 → AH → Prop} (hd : 1 ≤ d) (hM : P_X8_isFigure F a1 h K) : Ct l yX8_isFigure cX8_isFigure 1 (some .boolean) (rmD d) [.int a1] h (Qi K) := by
  have hk1 : 1 ≤ d := by omega
  have hk_X8_in : 0 ≤ d - 1 := by omega
  refine Ct_ofBW (by decide) rfl (Nat.le_of_ble_eq_true rfl) ⟨rfl, rfl⟩ ?_
  show BW RX8 cX8_isFigure 1 (some .boolean) l (rmD d) tb0 3 [.int a1] [] 0 h (Qi K)
  unfold P_X8_isFigure at hM
  refine B_iload_n dX8_isFigure_0 rfl ?_
  refine B_bipush dX8_isFigure_1 k_bi_48 ?_
  refine B_bipush dX8_isFigure_3 k_bi_57 ?_
  refine B_cS3i (c_X8_in (d := d - 1) hk_X8_in  hM) csS_X8_62 hp0 (rm_f hk1) (rm_l hk1 (by decide)) (Nat.le_of_ble_eq_true rfl) dX8_isFigure_5 (fun r2 h1 hM => ?_)
  exact B_iret ⟨_, rfl, hM.2⟩ hM.1 dX8_isFigure_8

def X8_number_c7 (F : Nat) (K : AH → Prop) (n : Nat) : Int32 → AH → Prop := Nat.rec (motive := fun _ => Int32 → AH → Prop) (fun _ _ => False) (fun _ rc7 x1 h => if (nI 2) ≤ x1 then (K h) else (P_X8_here F h (fun (r2 : Int32) (h1 : AH) => P_X8_isFigure F r2 h1 (fun (r4 : Int32) (h3 : AH) => if r4 = (nI 0) then (K h3) else (P_X8_here F h3 (fun (r6 : Int32) (h5 : AH) => (fun (h7 : AH) => (fun (h8 : AH) => rc7 (x1 + (nI 1)) h8) (up h7 56 17 ((h7 56 17) + (nI 1)))) (up h5 56 22 ((((nI 10) * (if (nI 0) < (h3 56 22) then (h3 56 22) else (nI 0))) + r6) - (nI 48))))))))) n
theorem X8_number_c7_s {F : Nat} {K : AH → Prop} {n : Nat} {x1 : Int32} {h : AH} : X8_number_c7 F K (n + 1) x1 h = (if (nI 2) ≤ x1 then (K h) else (P_X8_here F h (fun (r2 : Int32) (h1 : AH) => P_X8_isFigure F r2 h1 (fun (r4 : Int32) (h3 : AH) => if r4 = (nI 0) then (K h3) else (P_X8_here F h3 (fun (r6 : Int32) (h5 : AH) => (fun (h7 : AH) => (fun (h8 : AH) => (X8_number_c7 F K n) (x1 + (nI 1)) h8) (up h7 56 17 ((h7 56 17) + (nI 1)))) (up h5 56 22 ((((nI 10) * (if (nI 0) < (h3 56 22) then (h3 56 22) else (nI 0))) + r6) - (nI 48))))))))) := rfl
set_option maxHeartbeats 4000000 in
theorem bw_X8_number_c7 {l : Launch} {d : Nat} {F : Nat} {K : AH → Prop} (hd : 2 ≤ d) : ∀ (n : Nat) (x1 : Int32) (h : AH), X8_number_c7 F K n x1 h → BW RX8 cX8_number 2 none l (rmD d) tb0 3 [.ref 56, .int x1] [] 7 h (Qv K) := by
  have hk1 : 1 ≤ d := by omega
  have hk_X8_here : 0 ≤ d - 1 := by omega
  have hk_X8_isFigure : 1 ≤ d - 1 := by omega
  intro n
  induction n with
  | zero =>
    intro x1 h hM
    exact hM.elim
  | succ n hr7 =>
    intro x1 h hM
    rw [X8_number_c7_s] at hM
    refine B_iload_n dX8_number_7 rfl ?_
    refine B_iconst dX8_number_8 k_ic_2 ?_
    refine B_icmp_ge dX8_number_9 hM (tgt := 61) rfl (fun hM => ?_) (fun hM => ?_)
    · exact B_vret ⟨rfl, hM⟩ trivial dX8_number_61
    · refine B_aload_n dX8_number_12 rfl ?_
      refine B_cV0i (c_X8_here (d := d - 1) hk_X8_here  hM) csV_X8_257 (sc_56) vc_8 rfl hp0 (rm_f hk1) (rm_l hk1 (by decide)) (Nat.le_of_ble_eq_true rfl) dX8_number_13 (fun r2 h1 hM => ?_)
      refine B_cS1i (c_X8_isFigure (d := d - 1) hk_X8_isFigure  hM) csS_X8_260 hp0 (rm_f hk1) (rm_l hk1 (by decide)) (Nat.le_of_ble_eq_true rfl) dX8_number_16 (fun r4 h3 hM => ?_)
      refine B_if_eq dX8_number_19 hM (tgt := 61) rfl (fun hM => ?_) (fun hM => ?_)
      · exact B_vret ⟨rfl, hM⟩ trivial dX8_number_61
      · refine B_aload_n dX8_number_22 rfl ?_
        refine B_bipush dX8_number_23 k_bi_10 ?_
        refine B_iconst dX8_number_25 k_ic_0 ?_
        refine B_aload_n dX8_number_26 rfl ?_
        refine B_getI (sc_56) vc_8 (k := 22) rfl (by decide) inG8 ⟨rfl, rfl, rfl⟩ ww_fl_X8_254 dX8_number_27 ?_
        refine B_max ⟨ww_ml_X8_233, ww_mx_s, ww_mx_i, ww_mx_c⟩ hk1 (rm_n hk1 (Nat.le_of_ble_eq_true rfl)) dX8_number_30 ?_
        refine B_imul dX8_number_33 ?_
        refine B_aload_n dX8_number_34 rfl ?_
        refine B_cV0i (c_X8_here (d := d - 1) hk_X8_here  hM) csV_X8_257 (sc_56) vc_8 rfl hp0 (rm_f hk1) (rm_l hk1 (by decide)) (Nat.le_of_ble_eq_true rfl) dX8_number_35 (fun r6 h5 hM => ?_)
        refine B_iadd dX8_number_38 ?_
        refine B_bipush dX8_number_39 k_bi_48 ?_
        refine B_isub dX8_number_41 ?_
        refine B_putI (fits_I _) (sc_56) vc_8 (k := 22) rfl (by decide) inG8 ⟨rfl, rfl, rfl⟩ tyX8 tyX8_ok nmX8 rfl rfl ww_fl_X8_254 dX8_number_42 ?_
        refine B_aload_n dX8_number_45 rfl ?_
        refine B_dupR dX8_number_46 ?_
        refine B_getI (sc_56) vc_8 (k := 17) rfl (by decide) inG8 ⟨rfl, rfl, rfl⟩ ww_fl_X8_251 dX8_number_47 ?_
        refine B_iconst dX8_number_50 k_ic_1 ?_
        refine B_iadd dX8_number_51 ?_
        refine B_putI (fits_I _) (sc_56) vc_8 (k := 17) rfl (by decide) inG8 ⟨rfl, rfl, rfl⟩ tyX8 tyX8_ok nmX8 rfl rfl ww_fl_X8_251 dX8_number_52 ?_
        refine B_iinc dX8_number_55 rfl k_ic_1 (Nat.le_of_ble_eq_true rfl) ?_
        refine B_goto (tgt := 7) dX8_number_58 rfl ?_
        exact B_wk (hr7 _ _ hM) (wk_1 (wk_1 wk_n))
def P_X8_number (F : Nat) (h : AH) (K : AH → Prop) : Prop := (fun (h1 : AH) => X8_number_c7 F K F (nI 0) h1) (up h 56 22 (-1 : Int32))
set_option maxHeartbeats 4000000 in
theorem c_X8_number {l : Launch} {d : Nat} {F : Nat} {h : AH} {K : AH → Prop} (hd : 2 ≤ d) (hM : P_X8_number F h K) : Ct l yX8_number cX8_number 2 none (rmD d) [.ref 56] h (Qv K) := by
  have hk1 : 1 ≤ d := by omega
  have hk_X8_here : 0 ≤ d - 1 := by omega
  have hk_X8_isFigure : 1 ≤ d - 1 := by omega
  refine Ct_ofBW (by decide) rfl (Nat.le_of_ble_eq_true rfl) ⟨rfl, rfl⟩ ?_
  show BW RX8 cX8_number 2 none l (rmD d) tb0 3 [.ref 56, .null] [] 0 h (Qv K)
  unfold P_X8_number at hM
  refine B_aload_n dX8_number_0 rfl ?_
  refine B_iconst dX8_number_1 k_ic_m1 ?_
  refine B_putI (fits_I _) (sc_56) vc_8 (k := 22) rfl (by decide) inG8 ⟨rfl, rfl, rfl⟩ tyX8 tyX8_ok nmX8 rfl rfl ww_fl_X8_254 dX8_number_2 ?_
  refine B_iconst dX8_number_5 k_ic_0 ?_
  refine B_istore_n dX8_number_6 (Nat.le_of_ble_eq_true rfl) ?_
  exact B_wk (bw_X8_number_c7 hd  _ _ _ hM) (wk_1 (wk_1 wk_n))

def X8_asking_c170 (F : Nat) (K : AH → Prop) (s1 : Int32) (h : AH) : Prop := zB s1 ∧ ((fun (h1 : AH) => K h1) (up h 56 18 s1))
set_option maxHeartbeats 4000000 in
theorem bw_X8_asking_c170 {l : Launch} {d : Nat} {F : Nat} {K : AH → Prop} {s1 : Int32} {h : AH} (hd : 3 ≤ d) (hM : X8_asking_c170 F K s1 h) : BW RX8 cX8_asking 1 none l (rmD d) tb0 3 [.null] [.int s1, .ref 56] 170 h (Qv K) := by
  have hk1 : 1 ≤ d := by omega
  have hk_X8_here : 0 ≤ d - 1 := by omega
  have hk_X8_isFigure : 1 ≤ d - 1 := by omega
  have hk_X8_number : 2 ≤ d - 1 := by omega
  unfold X8_asking_c170 at hM
  refine B_putI (fits_Z hM.1) (sc_56) vc_8 (k := 18) rfl (by decide) inG8 ⟨rfl, rfl, rfl⟩ tyX8 tyX8_ok nmX8 rfl rfl ww_fl_X8_269 dX8_asking_170 ?_
  replace hM := hM.2
  exact B_vret ⟨rfl, hM⟩ trivial dX8_asking_173
def X8_asking_c80 (F : Nat) (K : AH → Prop) (h : AH) : Prop := (fun (h1 : AH) => P_X8_here F h1 (fun (r3 : Int32) (h2 : AH) => P_X8_isFigure F r3 h2 (fun (r5 : Int32) (h4 : AH) => if ¬ r5 = (nI 0) then (P_X8_here F h4 (fun (r7 : Int32) (h6 : AH) => (fun (h8 : AH) => (fun (h9 : AH) => P_X8_here F h9 (fun (r11 : Int32) (h10 : AH) => if r11 = (nI 32) then ((fun (h12 : AH) => P_X8_number F h12 (fun (h13 : AH) => if ¬ (h13 56 22) = (-1 : Int32) then (X8_asking_c170 F K (nI 0) h13) else (X8_asking_c170 F K (nI 1) h13))) (up h10 56 17 ((h10 56 17) + (nI 1)))) else ((fun (h14 : AH) => K h14) (up h10 56 18 (nI 1))))) (up h8 56 17 ((h8 56 17) + (nI 1)))) (up h6 56 21 (r7 - (nI 48))))) else ((fun (h15 : AH) => K h15) (up h4 56 18 (nI 1)))))) (up h 56 17 ((h 56 17) + (nI 1)))
set_option maxHeartbeats 4000000 in
theorem bw_X8_asking_c80 {l : Launch} {d : Nat} {F : Nat} {K : AH → Prop} {h : AH} (hd : 3 ≤ d) (hM : X8_asking_c80 F K h) : BW RX8 cX8_asking 1 none l (rmD d) tb0 3 [.ref 56] [] 80 h (Qv K) := by
  have hk1 : 1 ≤ d := by omega
  have hk_X8_here : 0 ≤ d - 1 := by omega
  have hk_X8_isFigure : 1 ≤ d - 1 := by omega
  have hk_X8_number : 2 ≤ d - 1 := by omega
  unfold X8_asking_c80 at hM
  refine B_aload_n dX8_asking_80 rfl ?_
  refine B_dupR dX8_asking_81 ?_
  refine B_getI (sc_56) vc_8 (k := 17) rfl (by decide) inG8 ⟨rfl, rfl, rfl⟩ ww_fl_X8_251 dX8_asking_82 ?_
  refine B_iconst dX8_asking_85 k_ic_1 ?_
  refine B_iadd dX8_asking_86 ?_
  refine B_putI (fits_I _) (sc_56) vc_8 (k := 17) rfl (by decide) inG8 ⟨rfl, rfl, rfl⟩ tyX8 tyX8_ok nmX8 rfl rfl ww_fl_X8_251 dX8_asking_87 ?_
  refine B_aload_n dX8_asking_90 rfl ?_
  refine B_cV0i (c_X8_here (d := d - 1) hk_X8_here  hM) csV_X8_257 (sc_56) vc_8 rfl hp0 (rm_f hk1) (rm_l hk1 (by decide)) (Nat.le_of_ble_eq_true rfl) dX8_asking_91 (fun r3 h2 hM => ?_)
  refine B_cS1i (c_X8_isFigure (d := d - 1) hk_X8_isFigure  hM) csS_X8_260 hp0 (rm_f hk1) (rm_l hk1 (by decide)) (Nat.le_of_ble_eq_true rfl) dX8_asking_94 (fun r5 h4 hM => ?_)
  refine B_if_ne dX8_asking_97 hM (tgt := 106) rfl (fun hM => ?_) (fun hM => ?_)
  · refine B_aload_n dX8_asking_106 rfl ?_
    refine B_aload_n dX8_asking_107 rfl ?_
    refine B_cV0i (c_X8_here (d := d - 1) hk_X8_here  hM) csV_X8_257 (sc_56) vc_8 rfl hp0 (rm_f hk1) (rm_l hk1 (by decide)) (Nat.le_of_ble_eq_true rfl) dX8_asking_108 (fun r7 h6 hM => ?_)
    refine B_bipush dX8_asking_111 k_bi_48 ?_
    refine B_isub dX8_asking_113 ?_
    refine B_putI (fits_I _) (sc_56) vc_8 (k := 21) rfl (by decide) inG8 ⟨rfl, rfl, rfl⟩ tyX8 tyX8_ok nmX8 rfl rfl ww_fl_X8_272 dX8_asking_114 ?_
    refine B_aload_n dX8_asking_117 rfl ?_
    refine B_dupR dX8_asking_118 ?_
    refine B_getI (sc_56) vc_8 (k := 17) rfl (by decide) inG8 ⟨rfl, rfl, rfl⟩ ww_fl_X8_251 dX8_asking_119 ?_
    refine B_iconst dX8_asking_122 k_ic_1 ?_
    refine B_iadd dX8_asking_123 ?_
    refine B_putI (fits_I _) (sc_56) vc_8 (k := 17) rfl (by decide) inG8 ⟨rfl, rfl, rfl⟩ tyX8 tyX8_ok nmX8 rfl rfl ww_fl_X8_251 dX8_asking_124 ?_
    refine B_aload_n dX8_asking_127 rfl ?_
    refine B_cV0i (c_X8_here (d := d - 1) hk_X8_here  hM) csV_X8_257 (sc_56) vc_8 rfl hp0 (rm_f hk1) (rm_l hk1 (by decide)) (Nat.le_of_ble_eq_true rfl) dX8_asking_128 (fun r11 h10 hM => ?_)
    refine B_bipush dX8_asking_131 k_bi_32 ?_
    refine B_icmp_eq dX8_asking_133 hM (tgt := 142) rfl (fun hM => ?_) (fun hM => ?_)
    · refine B_aload_n dX8_asking_142 rfl ?_
      refine B_dupR dX8_asking_143 ?_
      refine B_getI (sc_56) vc_8 (k := 17) rfl (by decide) inG8 ⟨rfl, rfl, rfl⟩ ww_fl_X8_251 dX8_asking_144 ?_
      refine B_iconst dX8_asking_147 k_ic_1 ?_
      refine B_iadd dX8_asking_148 ?_
      refine B_putI (fits_I _) (sc_56) vc_8 (k := 17) rfl (by decide) inG8 ⟨rfl, rfl, rfl⟩ tyX8 tyX8_ok nmX8 rfl rfl ww_fl_X8_251 dX8_asking_149 ?_
      refine B_aload_n dX8_asking_152 rfl ?_
      refine B_cV0v (c_X8_number (d := d - 1) hk_X8_number  hM) csV_X8_275 (sc_56) vc_8 rfl hp0 (rm_f hk1) (rm_l hk1 (by decide)) (Nat.le_of_ble_eq_true rfl) dX8_asking_153 (fun h13 hM => ?_)
      refine B_aload_n dX8_asking_156 rfl ?_
      refine B_aload_n dX8_asking_157 rfl ?_
      refine B_getI (sc_56) vc_8 (k := 22) rfl (by decide) inG8 ⟨rfl, rfl, rfl⟩ ww_fl_X8_254 dX8_asking_158 ?_
      refine B_iconst dX8_asking_161 k_ic_m1 ?_
      refine B_icmp_ne dX8_asking_162 hM (tgt := 169) rfl (fun hM => ?_) (fun hM => ?_)
      · refine B_iconst dX8_asking_169 k_ic_0 ?_
        exact B_wk (bw_X8_asking_c170 hd  hM) (wk_0 wk_n)
      · refine B_iconst dX8_asking_165 k_ic_1 ?_
        refine B_goto (tgt := 170) dX8_asking_166 rfl ?_
        exact B_wk (bw_X8_asking_c170 hd  hM) (wk_0 wk_n)
    · refine B_aload_n dX8_asking_136 rfl ?_
      refine B_iconst dX8_asking_137 k_ic_1 ?_
      refine B_putI (fits_Z zB_1) (sc_56) vc_8 (k := 18) rfl (by decide) inG8 ⟨rfl, rfl, rfl⟩ tyX8 tyX8_ok nmX8 rfl rfl ww_fl_X8_269 dX8_asking_138 ?_
      exact B_vret ⟨rfl, hM⟩ trivial dX8_asking_141
  · refine B_aload_n dX8_asking_100 rfl ?_
    refine B_iconst dX8_asking_101 k_ic_1 ?_
    refine B_putI (fits_Z zB_1) (sc_56) vc_8 (k := 18) rfl (by decide) inG8 ⟨rfl, rfl, rfl⟩ tyX8 tyX8_ok nmX8 rfl rfl ww_fl_X8_269 dX8_asking_102 ?_
    exact B_vret ⟨rfl, hM⟩ trivial dX8_asking_105
def X8_asking_c35 (F : Nat) (K : AH → Prop) (s1 : Int32) (s2 : Int32) (h : AH) : Prop := (fun (h1 : AH) => P_X8_here F h1 (fun (r3 : Int32) (h2 : AH) => (fun (h4 : AH) => if (h4 56 19) = (nI 115) then (X8_asking_c80 F K h4) else (if (h4 56 19) = (nI 117) then (X8_asking_c80 F K h4) else (if (h4 56 19) = (nI 111) then (X8_asking_c80 F K h4) else ((fun (h5 : AH) => K h5) (up h4 56 18 (nI 1)))))) (up h2 56 19 r3))) (up h 56 17 (s1 + s2))
set_option maxHeartbeats 4000000 in
theorem bw_X8_asking_c35 {l : Launch} {d : Nat} {F : Nat} {K : AH → Prop} {s1 : Int32} {s2 : Int32} {h : AH} (hd : 3 ≤ d) (hM : X8_asking_c35 F K s1 s2 h) : BW RX8 cX8_asking 1 none l (rmD d) tb0 3 [.ref 56] [.int s2, .int s1, .ref 56] 35 h (Qv K) := by
  have hk1 : 1 ≤ d := by omega
  have hk_X8_here : 0 ≤ d - 1 := by omega
  have hk_X8_isFigure : 1 ≤ d - 1 := by omega
  have hk_X8_number : 2 ≤ d - 1 := by omega
  unfold X8_asking_c35 at hM
  refine B_iadd dX8_asking_35 ?_
  refine B_putI (fits_I _) (sc_56) vc_8 (k := 17) rfl (by decide) inG8 ⟨rfl, rfl, rfl⟩ tyX8 tyX8_ok nmX8 rfl rfl ww_fl_X8_251 dX8_asking_36 ?_
  refine B_aload_n dX8_asking_39 rfl ?_
  refine B_aload_n dX8_asking_40 rfl ?_
  refine B_cV0i (c_X8_here (d := d - 1) hk_X8_here  hM) csV_X8_257 (sc_56) vc_8 rfl hp0 (rm_f hk1) (rm_l hk1 (by decide)) (Nat.le_of_ble_eq_true rfl) dX8_asking_41 (fun r3 h2 hM => ?_)
  refine B_putI (fits_I _) (sc_56) vc_8 (k := 19) rfl (by decide) inG8 ⟨rfl, rfl, rfl⟩ tyX8 tyX8_ok nmX8 rfl rfl ww_fl_X8_266 dX8_asking_44 ?_
  refine B_aload_n dX8_asking_47 rfl ?_
  refine B_getI (sc_56) vc_8 (k := 19) rfl (by decide) inG8 ⟨rfl, rfl, rfl⟩ ww_fl_X8_266 dX8_asking_48 ?_
  refine B_bipush dX8_asking_51 k_bi_115 ?_
  refine B_icmp_eq dX8_asking_53 hM (tgt := 80) rfl (fun hM => ?_) (fun hM => ?_)
  · exact B_wk (bw_X8_asking_c80 hd  hM) (wk_1 wk_n)
  · refine B_aload_n dX8_asking_56 rfl ?_
    refine B_getI (sc_56) vc_8 (k := 19) rfl (by decide) inG8 ⟨rfl, rfl, rfl⟩ ww_fl_X8_266 dX8_asking_57 ?_
    refine B_bipush dX8_asking_60 k_bi_117 ?_
    refine B_icmp_eq dX8_asking_62 hM (tgt := 80) rfl (fun hM => ?_) (fun hM => ?_)
    · exact B_wk (bw_X8_asking_c80 hd  hM) (wk_1 wk_n)
    · refine B_aload_n dX8_asking_65 rfl ?_
      refine B_getI (sc_56) vc_8 (k := 19) rfl (by decide) inG8 ⟨rfl, rfl, rfl⟩ ww_fl_X8_266 dX8_asking_66 ?_
      refine B_bipush dX8_asking_69 k_bi_111 ?_
      refine B_icmp_eq dX8_asking_71 hM (tgt := 80) rfl (fun hM => ?_) (fun hM => ?_)
      · exact B_wk (bw_X8_asking_c80 hd  hM) (wk_1 wk_n)
      · refine B_aload_n dX8_asking_74 rfl ?_
        refine B_iconst dX8_asking_75 k_ic_1 ?_
        refine B_putI (fits_Z zB_1) (sc_56) vc_8 (k := 18) rfl (by decide) inG8 ⟨rfl, rfl, rfl⟩ tyX8 tyX8_ok nmX8 rfl rfl ww_fl_X8_269 dX8_asking_76 ?_
        exact B_vret ⟨rfl, hM⟩ trivial dX8_asking_79
def X8_asking_c15 (F : Nat) (K : AH → Prop) (s1 : Int32) (h : AH) : Prop := zB s1 ∧ ((fun (h1 : AH) => if (h1 56 20) = (nI 0) then (X8_asking_c35 F K (h1 56 17) (nI 0) h1) else (X8_asking_c35 F K (h1 56 17) (nI 1) h1)) (up h 56 20 s1))
set_option maxHeartbeats 4000000 in
theorem bw_X8_asking_c15 {l : Launch} {d : Nat} {F : Nat} {K : AH → Prop} {s1 : Int32} {h : AH} (hd : 3 ≤ d) (hM : X8_asking_c15 F K s1 h) : BW RX8 cX8_asking 1 none l (rmD d) tb0 3 [.ref 56] [.int s1, .ref 56] 15 h (Qv K) := by
  have hk1 : 1 ≤ d := by omega
  have hk_X8_here : 0 ≤ d - 1 := by omega
  have hk_X8_isFigure : 1 ≤ d - 1 := by omega
  have hk_X8_number : 2 ≤ d - 1 := by omega
  unfold X8_asking_c15 at hM
  refine B_putI (fits_Z hM.1) (sc_56) vc_8 (k := 20) rfl (by decide) inG8 ⟨rfl, rfl, rfl⟩ tyX8 tyX8_ok nmX8 rfl rfl ww_fl_X8_263 dX8_asking_15 ?_
  replace hM := hM.2
  refine B_aload_n dX8_asking_18 rfl ?_
  refine B_dupR dX8_asking_19 ?_
  refine B_getI (sc_56) vc_8 (k := 17) rfl (by decide) inG8 ⟨rfl, rfl, rfl⟩ ww_fl_X8_251 dX8_asking_20 ?_
  refine B_aload_n dX8_asking_23 rfl ?_
  refine B_getI (sc_56) vc_8 (k := 20) rfl (by decide) inG8 ⟨rfl, rfl, rfl⟩ ww_fl_X8_263 dX8_asking_24 ?_
  refine B_if_eq dX8_asking_27 hM (tgt := 34) rfl (fun hM => ?_) (fun hM => ?_)
  · refine B_iconst dX8_asking_34 k_ic_0 ?_
    exact B_wk (bw_X8_asking_c35 hd  hM) (wk_1 wk_n)
  · refine B_iconst dX8_asking_30 k_ic_1 ?_
    refine B_goto (tgt := 35) dX8_asking_31 rfl ?_
    exact B_wk (bw_X8_asking_c35 hd  hM) (wk_1 wk_n)
def P_X8_asking (F : Nat) (h : AH) (K : AH → Prop) : Prop := P_X8_here F h (fun (r2 : Int32) (h1 : AH) => if ¬ r2 = (nI 103) then (X8_asking_c15 F K (nI 0) h1) else (X8_asking_c15 F K (nI 1) h1))
set_option maxHeartbeats 4000000 in
theorem c_X8_asking {l : Launch} {d : Nat} {F : Nat} {h : AH} {K : AH → Prop} (hd : 3 ≤ d) (hM : P_X8_asking F h K) : Ct l yX8_asking cX8_asking 1 none (rmD d) [.ref 56] h (Qv K) := by
  have hk1 : 1 ≤ d := by omega
  have hk_X8_here : 0 ≤ d - 1 := by omega
  have hk_X8_isFigure : 1 ≤ d - 1 := by omega
  have hk_X8_number : 2 ≤ d - 1 := by omega
  refine Ct_ofBW (by decide) rfl (Nat.le_of_ble_eq_true rfl) ⟨rfl, rfl⟩ ?_
  show BW RX8 cX8_asking 1 none l (rmD d) tb0 3 [.ref 56] [] 0 h (Qv K)
  unfold P_X8_asking at hM
  refine B_aload_n dX8_asking_0 rfl ?_
  refine B_aload_n dX8_asking_1 rfl ?_
  refine B_cV0i (c_X8_here (d := d - 1) hk_X8_here  hM) csV_X8_257 (sc_56) vc_8 rfl hp0 (rm_f hk1) (rm_l hk1 (by decide)) (Nat.le_of_ble_eq_true rfl) dX8_asking_2 (fun r2 h1 hM => ?_)
  refine B_bipush dX8_asking_5 k_bi_103 ?_
  refine B_icmp_ne dX8_asking_7 hM (tgt := 14) rfl (fun hM => ?_) (fun hM => ?_)
  · refine B_iconst dX8_asking_14 k_ic_0 ?_
    exact B_wk (bw_X8_asking_c15 hd  hM) (wk_1 wk_n)
  · refine B_iconst dX8_asking_10 k_ic_1 ?_
    refine B_goto (tgt := 15) dX8_asking_11 rfl ?_
    exact B_wk (bw_X8_asking_c15 hd  hM) (wk_1 wk_n)

def X8_statement_c31 (F : Nat) (K : AH → Prop) (h : AH) : Prop := (fun (h1 : AH) => P_X8_number F h1 (fun (h2 : AH) => K h2)) (up h 56 17 ((h 56 17) + (nI 1)))
set_option maxHeartbeats 4000000 in
theorem bw_X8_statement_c31 {l : Launch} {d : Nat} {F : Nat} {K : AH → Prop} {h : AH} (hd : 4 ≤ d) (hM : X8_statement_c31 F K h) : BW RX8 cX8_statement 1 none l (rmD d) tb0 3 [.ref 56] [] 31 h (Qv K) := by
  have hk1 : 1 ≤ d := by omega
  have hk_X8_asking : 3 ≤ d - 1 := by omega
  have hk_X8_here : 0 ≤ d - 1 := by omega
  have hk_X8_number : 2 ≤ d - 1 := by omega
  unfold X8_statement_c31 at hM
  refine B_aload_n dX8_statement_31 rfl ?_
  refine B_dupR dX8_statement_32 ?_
  refine B_getI (sc_56) vc_8 (k := 17) rfl (by decide) inG8 ⟨rfl, rfl, rfl⟩ ww_fl_X8_251 dX8_statement_33 ?_
  refine B_iconst dX8_statement_36 k_ic_1 ?_
  refine B_iadd dX8_statement_37 ?_
  refine B_putI (fits_I _) (sc_56) vc_8 (k := 17) rfl (by decide) inG8 ⟨rfl, rfl, rfl⟩ tyX8 tyX8_ok nmX8 rfl rfl ww_fl_X8_251 dX8_statement_38 ?_
  refine B_aload_n dX8_statement_41 rfl ?_
  refine B_cV0v (c_X8_number (d := d - 1) hk_X8_number  hM) csV_X8_275 (sc_56) vc_8 rfl hp0 (rm_f hk1) (rm_l hk1 (by decide)) (Nat.le_of_ble_eq_true rfl) dX8_statement_42 (fun h2 hM => ?_)
  exact B_vret ⟨rfl, hM⟩ trivial dX8_statement_45
def P_X8_statement (F : Nat) (h : AH) (K : AH → Prop) : Prop := P_X8_here F h (fun (r2 : Int32) (h1 : AH) => (fun (h3 : AH) => if (h3 56 19) = (nI 43) then (X8_statement_c31 F K h3) else (if (h3 56 19) = (nI 45) then (X8_statement_c31 F K h3) else (P_X8_asking F h3 (fun (h4 : AH) => K h4)))) (up h1 56 19 r2))
set_option maxHeartbeats 4000000 in
theorem c_X8_statement {l : Launch} {d : Nat} {F : Nat} {h : AH} {K : AH → Prop} (hd : 4 ≤ d) (hM : P_X8_statement F h K) : Ct l yX8_statement cX8_statement 1 none (rmD d) [.ref 56] h (Qv K) := by
  have hk1 : 1 ≤ d := by omega
  have hk_X8_asking : 3 ≤ d - 1 := by omega
  have hk_X8_here : 0 ≤ d - 1 := by omega
  have hk_X8_number : 2 ≤ d - 1 := by omega
  refine Ct_ofBW (by decide) rfl (Nat.le_of_ble_eq_true rfl) ⟨rfl, rfl⟩ ?_
  show BW RX8 cX8_statement 1 none l (rmD d) tb0 3 [.ref 56] [] 0 h (Qv K)
  unfold P_X8_statement at hM
  refine B_aload_n dX8_statement_0 rfl ?_
  refine B_aload_n dX8_statement_1 rfl ?_
  refine B_cV0i (c_X8_here (d := d - 1) hk_X8_here  hM) csV_X8_257 (sc_56) vc_8 rfl hp0 (rm_f hk1) (rm_l hk1 (by decide)) (Nat.le_of_ble_eq_true rfl) dX8_statement_2 (fun r2 h1 hM => ?_)
  refine B_putI (fits_I _) (sc_56) vc_8 (k := 19) rfl (by decide) inG8 ⟨rfl, rfl, rfl⟩ tyX8 tyX8_ok nmX8 rfl rfl ww_fl_X8_266 dX8_statement_5 ?_
  refine B_aload_n dX8_statement_8 rfl ?_
  refine B_getI (sc_56) vc_8 (k := 19) rfl (by decide) inG8 ⟨rfl, rfl, rfl⟩ ww_fl_X8_266 dX8_statement_9 ?_
  refine B_bipush dX8_statement_12 k_bi_43 ?_
  refine B_icmp_eq dX8_statement_14 hM (tgt := 31) rfl (fun hM => ?_) (fun hM => ?_)
  · exact B_wk (bw_X8_statement_c31 hd  hM) (wk_1 wk_n)
  · refine B_aload_n dX8_statement_17 rfl ?_
    refine B_getI (sc_56) vc_8 (k := 19) rfl (by decide) inG8 ⟨rfl, rfl, rfl⟩ ww_fl_X8_266 dX8_statement_18 ?_
    refine B_bipush dX8_statement_21 k_bi_45 ?_
    refine B_icmp_eq dX8_statement_23 hM (tgt := 31) rfl (fun hM => ?_) (fun hM => ?_)
    · exact B_wk (bw_X8_statement_c31 hd  hM) (wk_1 wk_n)
    · refine B_aload_n dX8_statement_26 rfl ?_
      refine B_cV0v (c_X8_asking (d := d - 1) hk_X8_asking  hM) csV_X8_278 (sc_56) vc_8 rfl hp0 (rm_f hk1) (rm_l hk1 (by decide)) (Nat.le_of_ble_eq_true rfl) dX8_statement_27 (fun h4 hM => ?_)
      exact B_vret ⟨rfl, hM⟩ trivial dX8_statement_30

def P_X8_modeTold (F : Nat) (h : AH) (K : Int32 → AH → Prop) : Prop := if ¬ (h 56 19) = (nI 115) then (if ¬ (h 56 19) = (nI 117) then (K (nI 5) h) else (K (nI 4) h)) else (K (nI 2) h)
set_option maxHeartbeats 4000000 in
theorem c_X8_modeTold {l : Launch} {d : Nat} {F : Nat} {h : AH} {K : Int32 → AH → Prop} (hd : 0 ≤ d) (hM : P_X8_modeTold F h K) : Ct l yX8_modeTold cX8_modeTold 1 (some .int) (rmD d) [.ref 56] h (Qi K) := by
  refine Ct_ofBW (by decide) rfl (Nat.le_of_ble_eq_true rfl) ⟨rfl, rfl⟩ ?_
  show BW RX8 cX8_modeTold 1 (some .int) l (rmD d) tb0 3 [.ref 56] [] 0 h (Qi K)
  unfold P_X8_modeTold at hM
  refine B_aload_n dX8_modeTold_0 rfl ?_
  refine B_getI (sc_56) vc_8 (k := 19) rfl (by decide) inG8 ⟨rfl, rfl, rfl⟩ ww_fl_X8_266 dX8_modeTold_1 ?_
  refine B_bipush dX8_modeTold_4 k_bi_115 ?_
  refine B_icmp_ne dX8_modeTold_6 hM (tgt := 13) rfl (fun hM => ?_) (fun hM => ?_)
  · refine B_aload_n dX8_modeTold_13 rfl ?_
    refine B_getI (sc_56) vc_8 (k := 19) rfl (by decide) inG8 ⟨rfl, rfl, rfl⟩ ww_fl_X8_266 dX8_modeTold_14 ?_
    refine B_bipush dX8_modeTold_17 k_bi_117 ?_
    refine B_icmp_ne dX8_modeTold_19 hM (tgt := 26) rfl (fun hM => ?_) (fun hM => ?_)
    · refine B_iconst dX8_modeTold_26 k_ic_5 ?_
      exact B_iret ⟨_, rfl, hM⟩ trivial dX8_modeTold_27
    · refine B_iconst dX8_modeTold_22 k_ic_4 ?_
      refine B_goto (tgt := 27) dX8_modeTold_23 rfl ?_
      exact B_iret ⟨_, rfl, hM⟩ trivial dX8_modeTold_27
  · refine B_iconst dX8_modeTold_9 k_ic_2 ?_
    refine B_goto (tgt := 27) dX8_modeTold_10 rfl ?_
    exact B_iret ⟨_, rfl, hM⟩ trivial dX8_modeTold_27

def X8_does_c37 (F : Nat) (K : Int32 → AH → Prop) (s1 : Int32) (s2 : Int32) (h : AH) : Prop := P_X8_thing F s1 s2 h (fun (r2 : Int32) (h1 : AH) => K r2 h1)
set_option maxHeartbeats 4000000 in
theorem bw_X8_does_c37 {l : Launch} {d : Nat} {F : Nat} {K : Int32 → AH → Prop} {s1 : Int32} {s2 : Int32} {h : AH} (hd : 9 ≤ d) (hM : X8_does_c37 F K s1 s2 h) : BW RX8 cX8_does 1 (some .int) l (rmD d) tb0 3 [.null] [.int s2, .int s1, .ref 56] 37 h (Qi K) := by
  have hk1 : 1 ≤ d := by omega
  have hk_X8_ask : 6 ≤ d - 1 := by omega
  have hk_X8_give : 8 ≤ d - 1 := by omega
  have hk_X8_modeTold : 0 ≤ d - 1 := by omega
  have hk_X8_thing : 2 ≤ d - 1 := by omega
  unfold X8_does_c37 at hM
  refine B_cV2i (c_X8_thing (d := d - 1) hk_X8_thing  hM) csV_X8_281 (sc_56) vc_8 rfl hp0 (rm_f hk1) (rm_l hk1 (by decide)) (Nat.le_of_ble_eq_true rfl) dX8_does_37 (fun r2 h1 hM => ?_)
  exact B_iret ⟨_, rfl, hM⟩ trivial dX8_does_40
def X8_does_c18 (F : Nat) (K : Int32 → AH → Prop) (h : AH) : Prop := if ¬ (h 56 19) = (nI 43) then (X8_does_c37 F K (h 56 22) (nI 1) h) else (X8_does_c37 F K (h 56 22) (nI 0) h)
set_option maxHeartbeats 4000000 in
theorem bw_X8_does_c18 {l : Launch} {d : Nat} {F : Nat} {K : Int32 → AH → Prop} {h : AH} (hd : 9 ≤ d) (hM : X8_does_c18 F K h) : BW RX8 cX8_does 1 (some .int) l (rmD d) tb0 3 [.ref 56] [] 18 h (Qi K) := by
  have hk1 : 1 ≤ d := by omega
  have hk_X8_ask : 6 ≤ d - 1 := by omega
  have hk_X8_give : 8 ≤ d - 1 := by omega
  have hk_X8_modeTold : 0 ≤ d - 1 := by omega
  have hk_X8_thing : 2 ≤ d - 1 := by omega
  unfold X8_does_c18 at hM
  refine B_aload_n dX8_does_18 rfl ?_
  refine B_aload_n dX8_does_19 rfl ?_
  refine B_getI (sc_56) vc_8 (k := 22) rfl (by decide) inG8 ⟨rfl, rfl, rfl⟩ ww_fl_X8_254 dX8_does_20 ?_
  refine B_aload_n dX8_does_23 rfl ?_
  refine B_getI (sc_56) vc_8 (k := 19) rfl (by decide) inG8 ⟨rfl, rfl, rfl⟩ ww_fl_X8_266 dX8_does_24 ?_
  refine B_bipush dX8_does_27 k_bi_43 ?_
  refine B_icmp_ne dX8_does_29 hM (tgt := 36) rfl (fun hM => ?_) (fun hM => ?_)
  · refine B_iconst dX8_does_36 k_ic_1 ?_
    exact B_wk (bw_X8_does_c37 hd  hM) (wk_0 wk_n)
  · refine B_iconst dX8_does_32 k_ic_0 ?_
    refine B_goto (tgt := 37) dX8_does_33 rfl ?_
    exact B_wk (bw_X8_does_c37 hd  hM) (wk_0 wk_n)
def P_X8_does (F : Nat) (h : AH) (K : Int32 → AH → Prop) : Prop := if (h 56 19) = (nI 43) then (X8_does_c18 F K h) else (if ¬ (h 56 19) = (nI 45) then (if (h 56 20) = (nI 0) then (P_X8_modeTold F h (fun (r2 : Int32) (h1 : AH) => P_X8_ask F (h 56 21) (h 56 22) r2 h1 (fun (r4 : Int32) (h3 : AH) => K r4 h3))) else (P_X8_modeTold F h (fun (r6 : Int32) (h5 : AH) => P_X8_give F (h 56 21) (h 56 22) r6 h5 (fun (r8 : Int32) (h7 : AH) => K r8 h7)))) else (X8_does_c18 F K h))
set_option maxHeartbeats 4000000 in
theorem c_X8_does {l : Launch} {d : Nat} {F : Nat} {h : AH} {K : Int32 → AH → Prop} (hd : 9 ≤ d) (hM : P_X8_does F h K) : Ct l yX8_does cX8_does 1 (some .int) (rmD d) [.ref 56] h (Qi K) := by
  have hk1 : 1 ≤ d := by omega
  have hk_X8_ask : 6 ≤ d - 1 := by omega
  have hk_X8_give : 8 ≤ d - 1 := by omega
  have hk_X8_modeTold : 0 ≤ d - 1 := by omega
  have hk_X8_thing : 2 ≤ d - 1 := by omega
  refine Ct_ofBW (by decide) rfl (Nat.le_of_ble_eq_true rfl) ⟨rfl, rfl⟩ ?_
  show BW RX8 cX8_does 1 (some .int) l (rmD d) tb0 3 [.ref 56] [] 0 h (Qi K)
  unfold P_X8_does at hM
  refine B_aload_n dX8_does_0 rfl ?_
  refine B_getI (sc_56) vc_8 (k := 19) rfl (by decide) inG8 ⟨rfl, rfl, rfl⟩ ww_fl_X8_266 dX8_does_1 ?_
  refine B_bipush dX8_does_4 k_bi_43 ?_
  refine B_icmp_eq dX8_does_6 hM (tgt := 18) rfl (fun hM => ?_) (fun hM => ?_)
  · exact B_wk (bw_X8_does_c18 hd  hM) (wk_1 wk_n)
  · refine B_aload_n dX8_does_9 rfl ?_
    refine B_getI (sc_56) vc_8 (k := 19) rfl (by decide) inG8 ⟨rfl, rfl, rfl⟩ ww_fl_X8_266 dX8_does_10 ?_
    refine B_bipush dX8_does_13 k_bi_45 ?_
    refine B_icmp_ne dX8_does_15 hM (tgt := 41) rfl (fun hM => ?_) (fun hM => ?_)
    · refine B_aload_n dX8_does_41 rfl ?_
      refine B_getI (sc_56) vc_8 (k := 20) rfl (by decide) inG8 ⟨rfl, rfl, rfl⟩ ww_fl_X8_263 dX8_does_42 ?_
      refine B_if_eq dX8_does_45 hM (tgt := 67) rfl (fun hM => ?_) (fun hM => ?_)
      · refine B_aload_n dX8_does_67 rfl ?_
        refine B_aload_n dX8_does_68 rfl ?_
        refine B_getI (sc_56) vc_8 (k := 21) rfl (by decide) inG8 ⟨rfl, rfl, rfl⟩ ww_fl_X8_272 dX8_does_69 ?_
        refine B_aload_n dX8_does_72 rfl ?_
        refine B_getI (sc_56) vc_8 (k := 22) rfl (by decide) inG8 ⟨rfl, rfl, rfl⟩ ww_fl_X8_254 dX8_does_73 ?_
        refine B_aload_n dX8_does_76 rfl ?_
        refine B_cV0i (c_X8_modeTold (d := d - 1) hk_X8_modeTold  hM) csV_X8_284 (sc_56) vc_8 rfl hp0 (rm_f hk1) (rm_l hk1 (by decide)) (Nat.le_of_ble_eq_true rfl) dX8_does_77 (fun r2 h1 hM => ?_)
        refine B_cV3i (c_X8_ask (d := d - 1) hk_X8_ask  hM) csV_X8_206 (sc_56) vc_8 rfl hp0 (rm_f hk1) (rm_l hk1 (by decide)) (Nat.le_of_ble_eq_true rfl) dX8_does_80 (fun r4 h3 hM => ?_)
        exact B_iret ⟨_, rfl, hM⟩ trivial dX8_does_83
      · refine B_aload_n dX8_does_48 rfl ?_
        refine B_aload_n dX8_does_49 rfl ?_
        refine B_getI (sc_56) vc_8 (k := 21) rfl (by decide) inG8 ⟨rfl, rfl, rfl⟩ ww_fl_X8_272 dX8_does_50 ?_
        refine B_aload_n dX8_does_53 rfl ?_
        refine B_getI (sc_56) vc_8 (k := 22) rfl (by decide) inG8 ⟨rfl, rfl, rfl⟩ ww_fl_X8_254 dX8_does_54 ?_
        refine B_aload_n dX8_does_57 rfl ?_
        refine B_cV0i (c_X8_modeTold (d := d - 1) hk_X8_modeTold  hM) csV_X8_284 (sc_56) vc_8 rfl hp0 (rm_f hk1) (rm_l hk1 (by decide)) (Nat.le_of_ble_eq_true rfl) dX8_does_58 (fun r6 h5 hM => ?_)
        refine B_cV3i (c_X8_give (d := d - 1) hk_X8_give  hM) csV_X8_287 (sc_56) vc_8 rfl hp0 (rm_f hk1) (rm_l hk1 (by decide)) (Nat.le_of_ble_eq_true rfl) dX8_does_61 (fun r8 h7 hM => ?_)
        refine B_goto (tgt := 83) dX8_does_64 rfl ?_
        exact B_iret ⟨_, rfl, hM⟩ trivial dX8_does_83
    · exact B_wk (bw_X8_does_c18 hd  hM) (wk_1 wk_n)

def X8_goesThrough_c54 (F : Nat) (rc7 : Int32 → Int32 → AH → Prop) (K : Int32 → AH → Prop) (x1 : Int32) (x2 : Int32) (h : AH) : Prop := if ¬ (h 56 17) = (h 56 16) then (P_X8_here F h (fun (r2 : Int32) (h1 : AH) => if r2 = (nI 59) then ((fun (h3 : AH) => rc7 x1 (x2 + (nI 1)) h3) (up h1 56 17 ((h1 56 17) + (nI 1)))) else (K ((-1000 : Int32) - (h1 56 17)) h1))) else (K (x2 + (nI 1)) h)
set_option maxHeartbeats 4000000 in
theorem bw_X8_goesThrough_c54 {l : Launch} {d : Nat} {F : Nat} {rc7 : Int32 → Int32 → AH → Prop} {K : Int32 → AH → Prop} {x1 : Int32} {x2 : Int32} {h : AH} (hd : 10 ≤ d) (hr7 : ∀ (x1 : Int32) (x2 : Int32) (h : AH), rc7 x1 x2 h → BW RX8 cX8_goesThrough 4 (some .int) l (rmD d) tb0 3 [.ref 56, .int x1, .int x2, .null] [] 7 h (Qi K)) (hM : X8_goesThrough_c54 F rc7 K x1 x2 h) : BW RX8 cX8_goesThrough 4 (some .int) l (rmD d) tb0 3 [.ref 56, .int x1, .int x2, .null] [] 54 h (Qi K) := by
  have hk1 : 1 ≤ d := by omega
  have hk_X8_does : 9 ≤ d - 1 := by omega
  have hk_X8_here : 0 ≤ d - 1 := by omega
  have hk_X8_statement : 4 ≤ d - 1 := by omega
  unfold X8_goesThrough_c54 at hM
  refine B_iinc dX8_goesThrough_54 rfl k_ic_1 (Nat.le_of_ble_eq_true rfl) ?_
  refine B_aload_n dX8_goesThrough_57 rfl ?_
  refine B_getI (sc_56) vc_8 (k := 17) rfl (by decide) inG8 ⟨rfl, rfl, rfl⟩ ww_fl_X8_251 dX8_goesThrough_58 ?_
  refine B_aload_n dX8_goesThrough_61 rfl ?_
  refine B_getI (sc_56) vc_8 (k := 16) rfl (by decide) inG8 ⟨rfl, rfl, rfl⟩ ww_fl_X8_180 dX8_goesThrough_62 ?_
  refine B_icmp_ne dX8_goesThrough_65 hM (tgt := 70) rfl (fun hM => ?_) (fun hM => ?_)
  · refine B_aload_n dX8_goesThrough_70 rfl ?_
    refine B_cV0i (c_X8_here (d := d - 1) hk_X8_here  hM) csV_X8_257 (sc_56) vc_8 rfl hp0 (rm_f hk1) (rm_l hk1 (by decide)) (Nat.le_of_ble_eq_true rfl) dX8_goesThrough_71 (fun r2 h1 hM => ?_)
    refine B_bipush dX8_goesThrough_74 k_bi_59 ?_
    refine B_icmp_eq dX8_goesThrough_76 hM (tgt := 88) rfl (fun hM => ?_) (fun hM => ?_)
    · refine B_aload_n dX8_goesThrough_88 rfl ?_
      refine B_dupR dX8_goesThrough_89 ?_
      refine B_getI (sc_56) vc_8 (k := 17) rfl (by decide) inG8 ⟨rfl, rfl, rfl⟩ ww_fl_X8_251 dX8_goesThrough_90 ?_
      refine B_iconst dX8_goesThrough_93 k_ic_1 ?_
      refine B_iadd dX8_goesThrough_94 ?_
      refine B_putI (fits_I _) (sc_56) vc_8 (k := 17) rfl (by decide) inG8 ⟨rfl, rfl, rfl⟩ tyX8 tyX8_ok nmX8 rfl rfl ww_fl_X8_251 dX8_goesThrough_95 ?_
      refine B_goto (tgt := 7) dX8_goesThrough_98 rfl ?_
      exact B_wk (hr7 _ _ _ hM) (wk_1 (wk_1 (wk_1 (wk_0 wk_n))))
    · refine B_sipush dX8_goesThrough_79 k_si_m1000 ?_
      refine B_aload_n dX8_goesThrough_82 rfl ?_
      refine B_getI (sc_56) vc_8 (k := 17) rfl (by decide) inG8 ⟨rfl, rfl, rfl⟩ ww_fl_X8_251 dX8_goesThrough_83 ?_
      refine B_isub dX8_goesThrough_86 ?_
      exact B_iret ⟨_, rfl, hM⟩ trivial dX8_goesThrough_87
  · refine B_iload_n dX8_goesThrough_68 rfl ?_
    exact B_iret ⟨_, rfl, hM⟩ trivial dX8_goesThrough_69
def X8_goesThrough_c7 (F : Nat) (K : Int32 → AH → Prop) (n : Nat) : Int32 → Int32 → AH → Prop := Nat.rec (motive := fun _ => Int32 → Int32 → AH → Prop) (fun _ _ _ => False) (fun _ rc7 x1 x2 h => (fun (h1 : AH) => P_X8_statement F h1 (fun (h2 : AH) => if (h2 56 18) = (nI 0) then (if x1 = (nI 0) then (X8_goesThrough_c54 F rc7 K x1 x2 h2) else (P_X8_does F h2 (fun (r4 : Int32) (h3 : AH) => if (nI 0) ≤ r4 then (X8_goesThrough_c54 F rc7 K x1 x2 h3) else (K ((-2000 : Int32) - (h 56 17)) h3)))) else (K ((-1000 : Int32) - (h2 56 17)) h2))) (up h 56 18 (nI 0))) n
theorem X8_goesThrough_c7_s {F : Nat} {K : Int32 → AH → Prop} {n : Nat} {x1 : Int32} {x2 : Int32} {h : AH} : X8_goesThrough_c7 F K (n + 1) x1 x2 h = ((fun (h1 : AH) => P_X8_statement F h1 (fun (h2 : AH) => if (h2 56 18) = (nI 0) then (if x1 = (nI 0) then (X8_goesThrough_c54 F (X8_goesThrough_c7 F K n) K x1 x2 h2) else (P_X8_does F h2 (fun (r4 : Int32) (h3 : AH) => if (nI 0) ≤ r4 then (X8_goesThrough_c54 F (X8_goesThrough_c7 F K n) K x1 x2 h3) else (K ((-2000 : Int32) - (h 56 17)) h3)))) else (K ((-1000 : Int32) - (h2 56 17)) h2))) (up h 56 18 (nI 0))) := rfl
set_option maxHeartbeats 4000000 in
theorem bw_X8_goesThrough_c7 {l : Launch} {d : Nat} {F : Nat} {K : Int32 → AH → Prop} (hd : 10 ≤ d) : ∀ (n : Nat) (x1 : Int32) (x2 : Int32) (h : AH), X8_goesThrough_c7 F K n x1 x2 h → BW RX8 cX8_goesThrough 4 (some .int) l (rmD d) tb0 3 [.ref 56, .int x1, .int x2, .null] [] 7 h (Qi K) := by
  have hk1 : 1 ≤ d := by omega
  have hk_X8_does : 9 ≤ d - 1 := by omega
  have hk_X8_here : 0 ≤ d - 1 := by omega
  have hk_X8_statement : 4 ≤ d - 1 := by omega
  intro n
  induction n with
  | zero =>
    intro x1 x2 h hM
    exact hM.elim
  | succ n hr7 =>
    intro x1 x2 h hM
    rw [X8_goesThrough_c7_s] at hM
    refine B_aload_n dX8_goesThrough_7 rfl ?_
    refine B_getI (sc_56) vc_8 (k := 17) rfl (by decide) inG8 ⟨rfl, rfl, rfl⟩ ww_fl_X8_251 dX8_goesThrough_8 ?_
    refine B_istore_n dX8_goesThrough_11 (Nat.le_of_ble_eq_true rfl) ?_
    refine B_aload_n dX8_goesThrough_12 rfl ?_
    refine B_iconst dX8_goesThrough_13 k_ic_0 ?_
    refine B_putI (fits_Z zB_0) (sc_56) vc_8 (k := 18) rfl (by decide) inG8 ⟨rfl, rfl, rfl⟩ tyX8 tyX8_ok nmX8 rfl rfl ww_fl_X8_269 dX8_goesThrough_14 ?_
    refine B_aload_n dX8_goesThrough_17 rfl ?_
    refine B_cV0v (c_X8_statement (d := d - 1) hk_X8_statement  hM) csV_X8_290 (sc_56) vc_8 rfl hp0 (rm_f hk1) (rm_l hk1 (by decide)) (Nat.le_of_ble_eq_true rfl) dX8_goesThrough_18 (fun h2 hM => ?_)
    refine B_aload_n dX8_goesThrough_21 rfl ?_
    refine B_getI (sc_56) vc_8 (k := 18) rfl (by decide) inG8 ⟨rfl, rfl, rfl⟩ ww_fl_X8_269 dX8_goesThrough_22 ?_
    refine B_if_eq dX8_goesThrough_25 hM (tgt := 37) rfl (fun hM => ?_) (fun hM => ?_)
    · refine B_iload_n dX8_goesThrough_37 rfl ?_
      refine B_if_eq dX8_goesThrough_38 hM (tgt := 54) rfl (fun hM => ?_) (fun hM => ?_)
      · exact B_wk (bw_X8_goesThrough_c54 hd hr7 hM) (wk_1 (wk_1 (wk_1 (wk_0 wk_n))))
      · refine B_aload_n dX8_goesThrough_41 rfl ?_
        refine B_cV0i (c_X8_does (d := d - 1) hk_X8_does  hM) csV_X8_293 (sc_56) vc_8 rfl hp0 (rm_f hk1) (rm_l hk1 (by decide)) (Nat.le_of_ble_eq_true rfl) dX8_goesThrough_42 (fun r4 h3 hM => ?_)
        refine B_if_ge dX8_goesThrough_45 hM (tgt := 54) rfl (fun hM => ?_) (fun hM => ?_)
        · exact B_wk (bw_X8_goesThrough_c54 hd hr7 hM) (wk_1 (wk_1 (wk_1 (wk_0 wk_n))))
        · refine B_sipush dX8_goesThrough_48 k_si_m2000 ?_
          refine B_iload_n dX8_goesThrough_51 rfl ?_
          refine B_isub dX8_goesThrough_52 ?_
          exact B_iret ⟨_, rfl, hM⟩ trivial dX8_goesThrough_53
    · refine B_sipush dX8_goesThrough_28 k_si_m1000 ?_
      refine B_aload_n dX8_goesThrough_31 rfl ?_
      refine B_getI (sc_56) vc_8 (k := 17) rfl (by decide) inG8 ⟨rfl, rfl, rfl⟩ ww_fl_X8_251 dX8_goesThrough_32 ?_
      refine B_isub dX8_goesThrough_35 ?_
      exact B_iret ⟨_, rfl, hM⟩ trivial dX8_goesThrough_36
def P_X8_goesThrough (F : Nat) (a1 : Int32) (h : AH) (K : Int32 → AH → Prop) : Prop := (fun (h1 : AH) => X8_goesThrough_c7 F K F a1 (nI 0) h1) (up h 56 17 (nI 0))
set_option maxHeartbeats 4000000 in
theorem c_X8_goesThrough {l : Launch} {d : Nat} {F : Nat} {a1 : Int32} {h : AH} {K : Int32 → AH → Prop} (hd : 10 ≤ d) (hM : P_X8_goesThrough F a1 h K) : Ct l yX8_goesThrough cX8_goesThrough 4 (some .int) (rmD d) [.ref 56, .int a1] h (Qi K) := by
  have hk1 : 1 ≤ d := by omega
  have hk_X8_does : 9 ≤ d - 1 := by omega
  have hk_X8_here : 0 ≤ d - 1 := by omega
  have hk_X8_statement : 4 ≤ d - 1 := by omega
  refine Ct_ofBW (by decide) rfl (Nat.le_of_ble_eq_true rfl) ⟨rfl, rfl⟩ ?_
  show BW RX8 cX8_goesThrough 4 (some .int) l (rmD d) tb0 3 [.ref 56, .int a1, .null, .null] [] 0 h (Qi K)
  unfold P_X8_goesThrough at hM
  refine B_aload_n dX8_goesThrough_0 rfl ?_
  refine B_iconst dX8_goesThrough_1 k_ic_0 ?_
  refine B_putI (fits_I _) (sc_56) vc_8 (k := 17) rfl (by decide) inG8 ⟨rfl, rfl, rfl⟩ tyX8 tyX8_ok nmX8 rfl rfl ww_fl_X8_251 dX8_goesThrough_2 ?_
  refine B_iconst dX8_goesThrough_5 k_ic_0 ?_
  refine B_istore_n dX8_goesThrough_6 (Nat.le_of_ble_eq_true rfl) ?_
  exact B_wk (bw_X8_goesThrough_c7 hd  _ _ _ _ hM) (wk_1 (wk_1 (wk_1 (wk_0 wk_n))))

def X8_reads_c65 (F : Nat) (K : Int32 → AH → Prop) (x1 : Int32) (h : AH) : Prop := (fun (h1 : AH) => K x1 h1) (up h 56 16 (nI 0))
set_option maxHeartbeats 4000000 in
theorem bw_X8_reads_c65 {l : Launch} {d : Nat} {F : Nat} {K : Int32 → AH → Prop} {x1 : Int32} {h : AH} (hd : 11 ≤ d) (hM : X8_reads_c65 F K x1 h) : BW RX8 cX8_reads 3 (some .int) l (rmD d) tb0 3 [.ref 56, .int x1, .null] [] 65 h (Qi K) := by
  have hk1 : 1 ≤ d := by omega
  have hk_X8_copies : 0 ≤ d - 1 := by omega
  have hk_X8_goesThrough : 10 ≤ d - 1 := by omega
  unfold X8_reads_c65 at hM
  refine B_aload_n dX8_reads_65 rfl ?_
  refine B_iconst dX8_reads_66 k_ic_0 ?_
  refine B_putI (fits_I _) (sc_56) vc_8 (k := 16) rfl (by decide) inG8 ⟨rfl, rfl, rfl⟩ tyX8 tyX8_ok nmX8 rfl rfl ww_fl_X8_180 dX8_reads_67 ?_
  refine B_iload_n dX8_reads_70 rfl ?_
  exact B_iret ⟨_, rfl, hM⟩ trivial dX8_reads_71
def X8_reads_c18 (F : Nat) (K : Int32 → AH → Prop) (s0 : Int32) (h : AH) : Prop := if s0 ≤ (nI 0) then (X8_reads_c65 F K s0 h) else (P_X8_copies F 57 59 h (fun (h1 : AH) => P_X8_goesThrough F (nI 1) h1 (fun (r3 : Int32) (h2 : AH) => if (nI 0) ≤ r3 then (X8_reads_c65 F K r3 h2) else (P_X8_copies F 59 57 h2 (fun (h4 : AH) => (fun (h5 : AH) => X8_reads_c65 F K r3 h5) (up h4 56 4 (h1 56 4)))))))
set_option maxHeartbeats 4000000 in
theorem bw_X8_reads_c18 {l : Launch} {d : Nat} {F : Nat} {K : Int32 → AH → Prop} {s0 : Int32} {h : AH} (hd : 11 ≤ d) (hM : X8_reads_c18 F K s0 h) : BW RX8 cX8_reads 3 (some .int) l (rmD d) tb0 3 [.ref 56, .null, .null] [.int s0] 18 h (Qi K) := by
  have hk1 : 1 ≤ d := by omega
  have hk_X8_copies : 0 ≤ d - 1 := by omega
  have hk_X8_goesThrough : 10 ≤ d - 1 := by omega
  unfold X8_reads_c18 at hM
  refine B_istore_n dX8_reads_18 (Nat.le_of_ble_eq_true rfl) ?_
  refine B_iload_n dX8_reads_19 rfl ?_
  refine B_if_le dX8_reads_20 hM (tgt := 65) rfl (fun hM => ?_) (fun hM => ?_)
  · exact B_wk (bw_X8_reads_c65 hd  hM) (wk_1 (wk_1 (wk_0 wk_n)))
  · refine B_aload_n dX8_reads_23 rfl ?_
    refine B_getR (sc_56) vc_8 (k := 1) (j := 57) rfl (by decide) inG8 ⟨rfl, rfl, rfl⟩ ww_fl_X8_15 dX8_reads_24 ?_
    refine B_aload_n dX8_reads_27 rfl ?_
    refine B_getR (sc_56) vc_8 (k := 3) (j := 59) rfl (by decide) inG8 ⟨rfl, rfl, rfl⟩ ww_fl_X8_22 dX8_reads_28 ?_
    refine B_cS2v (c_X8_copies (d := d - 1) hk_X8_copies sc_57 sc_59 hM) csS_X8_52 hp0 (rm_f hk1) (rm_l hk1 (by decide)) (Nat.le_of_ble_eq_true rfl) dX8_reads_31 (fun h1 hM => ?_)
    refine B_aload_n dX8_reads_34 rfl ?_
    refine B_getI (sc_56) vc_8 (k := 4) rfl (by decide) inG8 ⟨rfl, rfl, rfl⟩ ww_fl_X8_56 dX8_reads_35 ?_
    refine B_istore_n dX8_reads_38 (Nat.le_of_ble_eq_true rfl) ?_
    refine B_aload_n dX8_reads_39 rfl ?_
    refine B_iconst dX8_reads_40 k_ic_1 ?_
    refine B_cV1i (c_X8_goesThrough (d := d - 1) hk_X8_goesThrough  hM) csV_X8_296 (sc_56) vc_8 rfl hp0 (rm_f hk1) (rm_l hk1 (by decide)) (Nat.le_of_ble_eq_true rfl) dX8_reads_41 (fun r3 h2 hM => ?_)
    refine B_istore_n dX8_reads_44 (Nat.le_of_ble_eq_true rfl) ?_
    refine B_iload_n dX8_reads_45 rfl ?_
    refine B_if_ge dX8_reads_46 hM (tgt := 65) rfl (fun hM => ?_) (fun hM => ?_)
    · exact B_wk (bw_X8_reads_c65 hd  hM) (wk_1 (wk_1 (wk_0 wk_n)))
    · refine B_aload_n dX8_reads_49 rfl ?_
      refine B_getR (sc_56) vc_8 (k := 3) (j := 59) rfl (by decide) inG8 ⟨rfl, rfl, rfl⟩ ww_fl_X8_22 dX8_reads_50 ?_
      refine B_aload_n dX8_reads_53 rfl ?_
      refine B_getR (sc_56) vc_8 (k := 1) (j := 57) rfl (by decide) inG8 ⟨rfl, rfl, rfl⟩ ww_fl_X8_15 dX8_reads_54 ?_
      refine B_cS2v (c_X8_copies (d := d - 1) hk_X8_copies sc_59 sc_57 hM) csS_X8_52 hp0 (rm_f hk1) (rm_l hk1 (by decide)) (Nat.le_of_ble_eq_true rfl) dX8_reads_57 (fun h4 hM => ?_)
      refine B_aload_n dX8_reads_60 rfl ?_
      refine B_iload_n dX8_reads_61 rfl ?_
      refine B_putI (fits_I _) (sc_56) vc_8 (k := 4) rfl (by decide) inG8 ⟨rfl, rfl, rfl⟩ tyX8 tyX8_ok nmX8 rfl rfl ww_fl_X8_56 dX8_reads_62 ?_
      exact B_wk (bw_X8_reads_c65 hd  hM) (wk_1 (wk_1 (wk_0 wk_n)))
def P_X8_reads (F : Nat) (h : AH) (K : Int32 → AH → Prop) : Prop := if ¬ (h 56 16) = (nI 0) then (P_X8_goesThrough F (nI 0) h (fun (r2 : Int32) (h1 : AH) => X8_reads_c18 F K r2 h1)) else (X8_reads_c18 F K (-1000 : Int32) h)
set_option maxHeartbeats 4000000 in
theorem c_X8_reads {l : Launch} {d : Nat} {F : Nat} {h : AH} {K : Int32 → AH → Prop} (hd : 11 ≤ d) (hM : P_X8_reads F h K) : Ct l yX8_reads cX8_reads 3 (some .int) (rmD d) [.ref 56] h (Qi K) := by
  have hk1 : 1 ≤ d := by omega
  have hk_X8_copies : 0 ≤ d - 1 := by omega
  have hk_X8_goesThrough : 10 ≤ d - 1 := by omega
  refine Ct_ofBW (by decide) rfl (Nat.le_of_ble_eq_true rfl) ⟨rfl, rfl⟩ ?_
  show BW RX8 cX8_reads 3 (some .int) l (rmD d) tb0 3 [.ref 56, .null, .null] [] 0 h (Qi K)
  unfold P_X8_reads at hM
  refine B_aload_n dX8_reads_0 rfl ?_
  refine B_getI (sc_56) vc_8 (k := 16) rfl (by decide) inG8 ⟨rfl, rfl, rfl⟩ ww_fl_X8_180 dX8_reads_1 ?_
  refine B_if_ne dX8_reads_4 hM (tgt := 13) rfl (fun hM => ?_) (fun hM => ?_)
  · refine B_aload_n dX8_reads_13 rfl ?_
    refine B_iconst dX8_reads_14 k_ic_0 ?_
    refine B_cV1i (c_X8_goesThrough (d := d - 1) hk_X8_goesThrough  hM) csV_X8_296 (sc_56) vc_8 rfl hp0 (rm_f hk1) (rm_l hk1 (by decide)) (Nat.le_of_ble_eq_true rfl) dX8_reads_15 (fun r2 h1 hM => ?_)
    exact B_wk (bw_X8_reads_c18 hd  hM) (wk_1 (wk_0 (wk_0 wk_n)))
  · refine B_sipush dX8_reads_7 k_si_m1000 ?_
    refine B_goto (tgt := 18) dX8_reads_10 rfl ?_
    exact B_wk (bw_X8_reads_c18 hd  hM) (wk_1 (wk_0 (wk_0 wk_n)))

def P_X8_writes (F : Nat) (a1 : Int32) (h : AH) (K : AH → Prop) : Prop := vp_in (h 56 24) 6000 ∧ ((fun (h1 : AH) => (fun (h2 : AH) => K h2) (up h1 56 24 ((h1 56 24) + (nI 1)))) (up h 65 (h 56 24).toNatClampNeg a1))
set_option maxHeartbeats 4000000 in
theorem c_X8_writes {l : Launch} {d : Nat} {F : Nat} {a1 : Int32} {h : AH} {K : AH → Prop} (hd : 0 ≤ d) (hM : P_X8_writes F a1 h K) : Ct l yX8_writes cX8_writes 2 none (rmD d) [.ref 56, .int a1] h (Qv K) := by
  refine Ct_ofBW (by decide) rfl (Nat.le_of_ble_eq_true rfl) ⟨rfl, rfl⟩ ?_
  show BW RX8 cX8_writes 2 none l (rmD d) tb0 3 [.ref 56, .int a1] [] 0 h (Qv K)
  unfold P_X8_writes at hM
  refine B_aload_n dX8_writes_0 rfl ?_
  refine B_getR (sc_56) vc_8 (k := 23) (j := 65) rfl (by decide) inG8 ⟨rfl, rfl, rfl⟩ ww_fl_X8_40 dX8_writes_1 ?_
  refine B_aload_n dX8_writes_4 rfl ?_
  refine B_getI (sc_56) vc_8 (k := 24) rfl (by decide) inG8 ⟨rfl, rfl, rfl⟩ ww_fl_X8_183 dX8_writes_5 ?_
  refine B_iload_n dX8_writes_8 rfl ?_
  refine B_iast (sc_65) hM dX8_writes_9 (fun hM => ?_)
  refine B_aload_n dX8_writes_10 rfl ?_
  refine B_dupR dX8_writes_11 ?_
  refine B_getI (sc_56) vc_8 (k := 24) rfl (by decide) inG8 ⟨rfl, rfl, rfl⟩ ww_fl_X8_183 dX8_writes_12 ?_
  refine B_iconst dX8_writes_15 k_ic_1 ?_
  refine B_iadd dX8_writes_16 ?_
  refine B_putI (fits_I _) (sc_56) vc_8 (k := 24) rfl (by decide) inG8 ⟨rfl, rfl, rfl⟩ tyX8 tyX8_ok nmX8 rfl rfl ww_fl_X8_183 dX8_writes_17 ?_
  exact B_vret ⟨rfl, hM⟩ trivial dX8_writes_20

def X8_writesNumber_c14 (F : Nat) (self : Int32 → AH → (AH → Prop) → Prop) (K : AH → Prop) (x1 : Int32) (h : AH) : Prop := ¬ (nI 10) = 0 ∧ (P_X8_writes F ((nI 48) + (x1 - x1 / (nI 10) * (nI 10))) h (fun (h1 : AH) => K h1))
set_option maxHeartbeats 4000000 in
theorem bw_X8_writesNumber_c14 {l : Launch} {d : Nat} {F : Nat} {self : Int32 → AH → (AH → Prop) → Prop} {K : AH → Prop} {x1 : Int32} {h : AH} (hd : 1 ≤ d) (hs : ∀ (q0 : Int32) (h : AH) (K : AH → Prop), self q0 h K → Ct l yX8_writesNumber cX8_writesNumber 2 none (rmD (d - 1)) [.ref 56, .int q0] h (Qv K)) (hM : X8_writesNumber_c14 F self K x1 h) : BW RX8 cX8_writesNumber 2 none l (rmD d) tb0 3 [.ref 56, .int x1] [] 14 h (Qv K) := by
  have hk1 : 1 ≤ d := by omega
  have hk_X8_writes : 0 ≤ d - 1 := by omega
  unfold X8_writesNumber_c14 at hM
  refine B_aload_n dX8_writesNumber_14 rfl ?_
  refine B_bipush dX8_writesNumber_15 k_bi_48 ?_
  refine B_iload_n dX8_writesNumber_17 rfl ?_
  refine B_bipush dX8_writesNumber_18 k_bi_10 ?_
  refine B_irem dX8_writesNumber_20 hM (fun hM => ?_)
  refine B_iadd dX8_writesNumber_21 ?_
  refine B_cV1v (c_X8_writes (d := d - 1) hk_X8_writes  hM) csV_X8_303 (sc_56) vc_8 rfl hp0 (rm_f hk1) (rm_l hk1 (by decide)) (Nat.le_of_ble_eq_true rfl) dX8_writesNumber_22 (fun h1 hM => ?_)
  exact B_vret ⟨rfl, hM⟩ trivial dX8_writesNumber_25
def Pb_X8_writesNumber (F : Nat) (self : Int32 → AH → (AH → Prop) → Prop) (a1 : Int32) (h : AH) (K : AH → Prop) : Prop := if a1 ≤ (nI 9) then (X8_writesNumber_c14 F self K a1 h) else (¬ (nI 10) = 0 ∧ (self (a1 / (nI 10)) h (fun (h1 : AH) => X8_writesNumber_c14 F self K a1 h1)))
set_option maxHeartbeats 4000000 in
theorem cb_X8_writesNumber {l : Launch} {d : Nat} {F : Nat} {self : Int32 → AH → (AH → Prop) → Prop} {a1 : Int32} {h : AH} {K : AH → Prop} (hd : 1 ≤ d) (hs : ∀ (q0 : Int32) (h : AH) (K : AH → Prop), self q0 h K → Ct l yX8_writesNumber cX8_writesNumber 2 none (rmD (d - 1)) [.ref 56, .int q0] h (Qv K)) (hM : Pb_X8_writesNumber F self a1 h K) : Ct l yX8_writesNumber cX8_writesNumber 2 none (rmD d) [.ref 56, .int a1] h (Qv K) := by
  have hk1 : 1 ≤ d := by omega
  have hk_X8_writes : 0 ≤ d - 1 := by omega
  refine Ct_ofBW (by decide) rfl (Nat.le_of_ble_eq_true rfl) ⟨rfl, rfl⟩ ?_
  show BW RX8 cX8_writesNumber 2 none l (rmD d) tb0 3 [.ref 56, .int a1] [] 0 h (Qv K)
  unfold Pb_X8_writesNumber at hM
  refine B_iload_n dX8_writesNumber_0 rfl ?_
  refine B_bipush dX8_writesNumber_1 k_bi_9 ?_
  refine B_icmp_le dX8_writesNumber_3 hM (tgt := 14) rfl (fun hM => ?_) (fun hM => ?_)
  · exact B_wk (bw_X8_writesNumber_c14 hd hs  hM) (wk_1 (wk_1 wk_n))
  · refine B_aload_n dX8_writesNumber_6 rfl ?_
    refine B_iload_n dX8_writesNumber_7 rfl ?_
    refine B_bipush dX8_writesNumber_8 k_bi_10 ?_
    refine B_idiv dX8_writesNumber_10 hM (fun hM => ?_)
    refine B_cV1v (hs _ _ _  hM) csV_X8_300 (sc_56) vc_8 rfl hp0 (rm_f hk1) (rm_l hk1 (by decide)) (Nat.le_of_ble_eq_true rfl) dX8_writesNumber_11 (fun h1 hM => ?_)
    exact B_wk (bw_X8_writesNumber_c14 hd hs  hM) (wk_1 (wk_1 wk_n))
def PR_X8_writesNumber (F n : Nat) : Int32 → AH → (AH → Prop) → Prop := Nat.rec (motive := fun _ => Int32 → AH → (AH → Prop) → Prop) (fun _ _ _ => False) (fun _ ih => Pb_X8_writesNumber F ih) n
theorem PR_X8_writesNumber_s {F n : Nat} {a1 : Int32} {h : AH} {K : AH → Prop} : PR_X8_writesNumber F (n + 1) a1 h K = Pb_X8_writesNumber F (PR_X8_writesNumber F n) a1 h K := rfl
theorem cr_X8_writesNumber {l : Launch} {F : Nat} : ∀ (n d : Nat) (a1 : Int32) (h : AH) (K : AH → Prop) (_ : 1 + n ≤ d), PR_X8_writesNumber F n a1 h K → Ct l yX8_writesNumber cX8_writesNumber 2 none (rmD d) [.ref 56, .int a1] h (Qv K) := by
  intro n
  induction n with
  | zero =>
    intro d a1 h K hd hM
    exact hM.elim
  | succ n ih =>
    intro d a1 h K hd hM
    rw [PR_X8_writesNumber_s] at hM
    exact cb_X8_writesNumber (by omega) (fun q0 h K hM => ih (d - 1) q0 h K (by omega) hM) hM
def P_X8_writesNumber (F : Nat) (a1 : Int32) (h : AH) (K : AH → Prop) : Prop := PR_X8_writesNumber F 16 a1 h K
theorem c_X8_writesNumber {l : Launch} {d F : Nat} {a1 : Int32} {h : AH} {K : AH → Prop} (hd : 1 + 16 ≤ d) (hM : P_X8_writesNumber F a1 h K) : Ct l yX8_writesNumber cX8_writesNumber 2 none (rmD d) [.ref 56, .int a1] h (Qv K) := cr_X8_writesNumber 16 d a1 h K hd  hM

def P_X8_letterOf (F : Nat) (a1 : Int32) (h : AH) (K : Int32 → AH → Prop) : Prop := if ¬ a1 = (nI 1) then (if ¬ a1 = (nI 2) then (if ¬ a1 = (nI 3) then (if ¬ a1 = (nI 4) then (K (nI 111) h) else (K (nI 117) h)) else (K (nI 109) h)) else (K (nI 115) h)) else (K (nI 108) h)
set_option maxHeartbeats 4000000 in
theorem c_X8_letterOf {l : Launch} {d : Nat} {F : Nat} {a1 : Int32} {h : AH} {K : Int32 → AH → Prop} (hd : 0 ≤ d) (hM : P_X8_letterOf F a1 h K) : Ct l yX8_letterOf cX8_letterOf 1 (some .int) (rmD d) [.int a1] h (Qi K) := by
  refine Ct_ofBW (by decide) rfl (Nat.le_of_ble_eq_true rfl) ⟨rfl, rfl⟩ ?_
  show BW RX8 cX8_letterOf 1 (some .int) l (rmD d) tb0 3 [.int a1] [] 0 h (Qi K)
  unfold P_X8_letterOf at hM
  refine B_iload_n dX8_letterOf_0 rfl ?_
  refine B_iconst dX8_letterOf_1 k_ic_1 ?_
  refine B_icmp_ne dX8_letterOf_2 hM (tgt := 10) rfl (fun hM => ?_) (fun hM => ?_)
  · refine B_iload_n dX8_letterOf_10 rfl ?_
    refine B_iconst dX8_letterOf_11 k_ic_2 ?_
    refine B_icmp_ne dX8_letterOf_12 hM (tgt := 20) rfl (fun hM => ?_) (fun hM => ?_)
    · refine B_iload_n dX8_letterOf_20 rfl ?_
      refine B_iconst dX8_letterOf_21 k_ic_3 ?_
      refine B_icmp_ne dX8_letterOf_22 hM (tgt := 30) rfl (fun hM => ?_) (fun hM => ?_)
      · refine B_iload_n dX8_letterOf_30 rfl ?_
        refine B_iconst dX8_letterOf_31 k_ic_4 ?_
        refine B_icmp_ne dX8_letterOf_32 hM (tgt := 40) rfl (fun hM => ?_) (fun hM => ?_)
        · refine B_bipush dX8_letterOf_40 k_bi_111 ?_
          exact B_iret ⟨_, rfl, hM⟩ trivial dX8_letterOf_42
        · refine B_bipush dX8_letterOf_35 k_bi_117 ?_
          refine B_goto (tgt := 42) dX8_letterOf_37 rfl ?_
          exact B_iret ⟨_, rfl, hM⟩ trivial dX8_letterOf_42
      · refine B_bipush dX8_letterOf_25 k_bi_109 ?_
        refine B_goto (tgt := 42) dX8_letterOf_27 rfl ?_
        exact B_iret ⟨_, rfl, hM⟩ trivial dX8_letterOf_42
    · refine B_bipush dX8_letterOf_15 k_bi_115 ?_
      refine B_goto (tgt := 42) dX8_letterOf_17 rfl ?_
      exact B_iret ⟨_, rfl, hM⟩ trivial dX8_letterOf_42
  · refine B_bipush dX8_letterOf_5 k_bi_108 ?_
    refine B_goto (tgt := 42) dX8_letterOf_7 rfl ?_
    exact B_iret ⟨_, rfl, hM⟩ trivial dX8_letterOf_42

def X8_writesHold_c45 (F : Nat) (K : AH → Prop) (h : AH) : Prop := P_X8_writes F (nI 32) h (fun (h1 : AH) => K h1)
set_option maxHeartbeats 4000000 in
theorem bw_X8_writesHold_c45 {l : Launch} {d : Nat} {F : Nat} {K : AH → Prop} {h : AH} (hd : 18 ≤ d) (hM : X8_writesHold_c45 F K h) : BW RX8 cX8_writesHold 5 none l (rmD d) tb0 3 [.ref 56, .null, .null, .null, .null] [] 45 h (Qv K) := by
  have hk1 : 1 ≤ d := by omega
  have hk_X8_letterOf : 0 ≤ d - 1 := by omega
  have hk_X8_writes : 0 ≤ d - 1 := by omega
  have hk_X8_writesNumber : 17 ≤ d - 1 := by omega
  unfold X8_writesHold_c45 at hM
  refine B_aload_n dX8_writesHold_45 rfl ?_
  refine B_bipush dX8_writesHold_46 k_bi_32 ?_
  refine B_cV1v (c_X8_writes (d := d - 1) hk_X8_writes  hM) csV_X8_303 (sc_56) vc_8 rfl hp0 (rm_f hk1) (rm_l hk1 (by decide)) (Nat.le_of_ble_eq_true rfl) dX8_writesHold_48 (fun h1 hM => ?_)
  exact B_vret ⟨rfl, hM⟩ trivial dX8_writesHold_51
def P_X8_writesHold (F : Nat) (a1 : Int32) (a2 : Int32) (a3 : Int32) (a4 : Int32) (h : AH) (K : AH → Prop) : Prop := P_X8_writesNumber F a1 h (fun (h1 : AH) => P_X8_writes F (nI 58) h1 (fun (h2 : AH) => P_X8_writes F ((nI 48) + a2) h2 (fun (h3 : AH) => P_X8_letterOf F a3 h3 (fun (r5 : Int32) (h4 : AH) => P_X8_writes F r5 h4 (fun (h6 : AH) => if a4 ≤ (nI 1) then (X8_writesHold_c45 F K h6) else (P_X8_writes F (nI 120) h6 (fun (h7 : AH) => P_X8_writesNumber F a4 h7 (fun (h8 : AH) => X8_writesHold_c45 F K h8))))))))
set_option maxHeartbeats 4000000 in
theorem c_X8_writesHold {l : Launch} {d : Nat} {F : Nat} {a1 : Int32} {a2 : Int32} {a3 : Int32} {a4 : Int32} {h : AH} {K : AH → Prop} (hd : 18 ≤ d) (hM : P_X8_writesHold F a1 a2 a3 a4 h K) : Ct l yX8_writesHold cX8_writesHold 5 none (rmD d) [.ref 56, .int a1, .int a2, .int a3, .int a4] h (Qv K) := by
  have hk1 : 1 ≤ d := by omega
  have hk_X8_letterOf : 0 ≤ d - 1 := by omega
  have hk_X8_writes : 0 ≤ d - 1 := by omega
  have hk_X8_writesNumber : 17 ≤ d - 1 := by omega
  refine Ct_ofBW (by decide) rfl (Nat.le_of_ble_eq_true rfl) ⟨rfl, rfl⟩ ?_
  show BW RX8 cX8_writesHold 5 none l (rmD d) tb0 3 [.ref 56, .int a1, .int a2, .int a3, .int a4] [] 0 h (Qv K)
  unfold P_X8_writesHold at hM
  refine B_aload_n dX8_writesHold_0 rfl ?_
  refine B_iload_n dX8_writesHold_1 rfl ?_
  refine B_cV1v (c_X8_writesNumber (d := d - 1) hk_X8_writesNumber  hM) csV_X8_300 (sc_56) vc_8 rfl hp0 (rm_f hk1) (rm_l hk1 (by decide)) (Nat.le_of_ble_eq_true rfl) dX8_writesHold_2 (fun h1 hM => ?_)
  refine B_aload_n dX8_writesHold_5 rfl ?_
  refine B_bipush dX8_writesHold_6 k_bi_58 ?_
  refine B_cV1v (c_X8_writes (d := d - 1) hk_X8_writes  hM) csV_X8_303 (sc_56) vc_8 rfl hp0 (rm_f hk1) (rm_l hk1 (by decide)) (Nat.le_of_ble_eq_true rfl) dX8_writesHold_8 (fun h2 hM => ?_)
  refine B_aload_n dX8_writesHold_11 rfl ?_
  refine B_bipush dX8_writesHold_12 k_bi_48 ?_
  refine B_iload_n dX8_writesHold_14 rfl ?_
  refine B_iadd dX8_writesHold_15 ?_
  refine B_cV1v (c_X8_writes (d := d - 1) hk_X8_writes  hM) csV_X8_303 (sc_56) vc_8 rfl hp0 (rm_f hk1) (rm_l hk1 (by decide)) (Nat.le_of_ble_eq_true rfl) dX8_writesHold_16 (fun h3 hM => ?_)
  refine B_aload_n dX8_writesHold_19 rfl ?_
  refine B_iload_n dX8_writesHold_20 rfl ?_
  refine B_cS1i (c_X8_letterOf (d := d - 1) hk_X8_letterOf  hM) csS_X8_306 hp0 (rm_f hk1) (rm_l hk1 (by decide)) (Nat.le_of_ble_eq_true rfl) dX8_writesHold_21 (fun r5 h4 hM => ?_)
  refine B_cV1v (c_X8_writes (d := d - 1) hk_X8_writes  hM) csV_X8_303 (sc_56) vc_8 rfl hp0 (rm_f hk1) (rm_l hk1 (by decide)) (Nat.le_of_ble_eq_true rfl) dX8_writesHold_24 (fun h6 hM => ?_)
  refine B_iload dX8_writesHold_27 rfl ?_
  refine B_iconst dX8_writesHold_29 k_ic_1 ?_
  refine B_icmp_le dX8_writesHold_30 hM (tgt := 45) rfl (fun hM => ?_) (fun hM => ?_)
  · exact B_wk (bw_X8_writesHold_c45 hd  hM) (wk_1 (wk_0 (wk_0 (wk_0 (wk_0 wk_n)))))
  · refine B_aload_n dX8_writesHold_33 rfl ?_
    refine B_bipush dX8_writesHold_34 k_bi_120 ?_
    refine B_cV1v (c_X8_writes (d := d - 1) hk_X8_writes  hM) csV_X8_303 (sc_56) vc_8 rfl hp0 (rm_f hk1) (rm_l hk1 (by decide)) (Nat.le_of_ble_eq_true rfl) dX8_writesHold_36 (fun h7 hM => ?_)
    refine B_aload_n dX8_writesHold_39 rfl ?_
    refine B_iload dX8_writesHold_40 rfl ?_
    refine B_cV1v (c_X8_writesNumber (d := d - 1) hk_X8_writesNumber  hM) csV_X8_300 (sc_56) vc_8 rfl hp0 (rm_f hk1) (rm_l hk1 (by decide)) (Nat.le_of_ble_eq_true rfl) dX8_writesHold_42 (fun h8 hM => ?_)
    exact B_wk (bw_X8_writesHold_c45 hd  hM) (wk_1 (wk_0 (wk_0 (wk_0 (wk_0 wk_n)))))

def X8_spells_c59 (F : Nat) (rc7 : Int32 → AH → Prop) (rc19 : Int32 → Int32 → AH → Prop) (rc27 : Int32 → Int32 → Int32 → AH → Prop) (K : Int32 → AH → Prop) (x1 : Int32) (x2 : Int32) (x3 : Int32) (h : AH) : Prop := rc27 x1 x2 (x3 + (nI 1)) h
set_option maxHeartbeats 4000000 in
theorem bw_X8_spells_c59 {l : Launch} {d : Nat} {F : Nat} {rc7 : Int32 → AH → Prop} {rc19 : Int32 → Int32 → AH → Prop} {rc27 : Int32 → Int32 → Int32 → AH → Prop} {K : Int32 → AH → Prop} {x1 : Int32} {x2 : Int32} {x3 : Int32} {h : AH} (hd : 19 ≤ d) (hr7 : ∀ (x1 : Int32) (h : AH), rc7 x1 h → BW RX8 cX8_spells 5 (some .int) l (rmD d) tb0 3 [.ref 56, .int x1, .null, .null, .null] [] 7 h (Qi K)) (hr19 : ∀ (x1 : Int32) (x2 : Int32) (h : AH), rc19 x1 x2 h → BW RX8 cX8_spells 5 (some .int) l (rmD d) tb0 3 [.ref 56, .int x1, .int x2, .null, .null] [] 19 h (Qi K)) (hr27 : ∀ (x1 : Int32) (x2 : Int32) (x3 : Int32) (h : AH), rc27 x1 x2 x3 h → BW RX8 cX8_spells 5 (some .int) l (rmD d) tb0 3 [.ref 56, .int x1, .int x2, .int x3, .null] [] 27 h (Qi K)) (hM : X8_spells_c59 F rc7 rc19 rc27 K x1 x2 x3 h) : BW RX8 cX8_spells 5 (some .int) l (rmD d) tb0 3 [.ref 56, .int x1, .int x2, .int x3, .null] [] 59 h (Qi K) := by
  have hk1 : 1 ≤ d := by omega
  have hk_X8_at : 0 ≤ d - 1 := by omega
  have hk_X8_writesHold : 18 ≤ d - 1 := by omega
  unfold X8_spells_c59 at hM
  refine B_iinc dX8_spells_59 rfl k_ic_1 (Nat.le_of_ble_eq_true rfl) ?_
  refine B_goto (tgt := 27) dX8_spells_62 rfl ?_
  exact B_wk (hr27 _ _ _ _ hM) (wk_1 (wk_1 (wk_1 (wk_1 (wk_0 wk_n)))))
def X8_spells_c27 (F : Nat) (rc7 : Int32 → AH → Prop) (rc19 : Int32 → Int32 → AH → Prop) (K : Int32 → AH → Prop) (n : Nat) : Int32 → Int32 → Int32 → AH → Prop := Nat.rec (motive := fun _ => Int32 → Int32 → Int32 → AH → Prop) (fun _ _ _ _ => False) (fun _ rc27 x1 x2 x3 h => if (nI 5) < x3 then (rc19 x1 (x2 + (nI 1)) h) else (P_X8_at F x2 x1 x3 h (fun (r2 : Int32) (h1 : AH) => vp_in r2 441 ∧ (if (h1 57 r2.toNatClampNeg) ≤ (nI 0) then (X8_spells_c59 F rc7 rc19 rc27 K x1 x2 x3 h1) else (P_X8_writesHold F x1 x2 x3 (h1 57 r2.toNatClampNeg) h1 (fun (h3 : AH) => X8_spells_c59 F rc7 rc19 rc27 K x1 x2 x3 h3)))))) n
theorem X8_spells_c27_s {F : Nat} {rc7 : Int32 → AH → Prop} {rc19 : Int32 → Int32 → AH → Prop} {K : Int32 → AH → Prop} {n : Nat} {x1 : Int32} {x2 : Int32} {x3 : Int32} {h : AH} : X8_spells_c27 F rc7 rc19 K (n + 1) x1 x2 x3 h = (if (nI 5) < x3 then (rc19 x1 (x2 + (nI 1)) h) else (P_X8_at F x2 x1 x3 h (fun (r2 : Int32) (h1 : AH) => vp_in r2 441 ∧ (if (h1 57 r2.toNatClampNeg) ≤ (nI 0) then (X8_spells_c59 F rc7 rc19 (X8_spells_c27 F rc7 rc19 K n) K x1 x2 x3 h1) else (P_X8_writesHold F x1 x2 x3 (h1 57 r2.toNatClampNeg) h1 (fun (h3 : AH) => X8_spells_c59 F rc7 rc19 (X8_spells_c27 F rc7 rc19 K n) K x1 x2 x3 h3)))))) := rfl
set_option maxHeartbeats 4000000 in
theorem bw_X8_spells_c27 {l : Launch} {d : Nat} {F : Nat} {rc7 : Int32 → AH → Prop} {rc19 : Int32 → Int32 → AH → Prop} {K : Int32 → AH → Prop} (hd : 19 ≤ d) (hr7 : ∀ (x1 : Int32) (h : AH), rc7 x1 h → BW RX8 cX8_spells 5 (some .int) l (rmD d) tb0 3 [.ref 56, .int x1, .null, .null, .null] [] 7 h (Qi K)) (hr19 : ∀ (x1 : Int32) (x2 : Int32) (h : AH), rc19 x1 x2 h → BW RX8 cX8_spells 5 (some .int) l (rmD d) tb0 3 [.ref 56, .int x1, .int x2, .null, .null] [] 19 h (Qi K)) : ∀ (n : Nat) (x1 : Int32) (x2 : Int32) (x3 : Int32) (h : AH), X8_spells_c27 F rc7 rc19 K n x1 x2 x3 h → BW RX8 cX8_spells 5 (some .int) l (rmD d) tb0 3 [.ref 56, .int x1, .int x2, .int x3, .null] [] 27 h (Qi K) := by
  have hk1 : 1 ≤ d := by omega
  have hk_X8_at : 0 ≤ d - 1 := by omega
  have hk_X8_writesHold : 18 ≤ d - 1 := by omega
  intro n
  induction n with
  | zero =>
    intro x1 x2 x3 h hM
    exact hM.elim
  | succ n hr27 =>
    intro x1 x2 x3 h hM
    rw [X8_spells_c27_s] at hM
    refine B_iload_n dX8_spells_27 rfl ?_
    refine B_iconst dX8_spells_28 k_ic_5 ?_
    refine B_icmp_gt dX8_spells_29 hM (tgt := 65) rfl (fun hM => ?_) (fun hM => ?_)
    · refine B_iinc dX8_spells_65 rfl k_ic_1 (Nat.le_of_ble_eq_true rfl) ?_
      refine B_goto (tgt := 19) dX8_spells_68 rfl ?_
      exact B_wk (hr19 _ _ _ hM) (wk_1 (wk_1 (wk_1 (wk_0 (wk_0 wk_n)))))
    · refine B_aload_n dX8_spells_32 rfl ?_
      refine B_getR (sc_56) vc_8 (k := 1) (j := 57) rfl (by decide) inG8 ⟨rfl, rfl, rfl⟩ ww_fl_X8_15 dX8_spells_33 ?_
      refine B_iload_n dX8_spells_36 rfl ?_
      refine B_iload_n dX8_spells_37 rfl ?_
      refine B_iload_n dX8_spells_38 rfl ?_
      refine B_cS3i (c_X8_at (d := d - 1) hk_X8_at  hM) csS_X8_84 hp0 (rm_f hk1) (rm_l hk1 (by decide)) (Nat.le_of_ble_eq_true rfl) dX8_spells_39 (fun r2 h1 hM => ?_)
      refine B_iald (sc_57) hM dX8_spells_42 (fun hM => ?_)
      refine B_istore dX8_spells_43 (Nat.le_of_ble_eq_true rfl) ?_
      refine B_iload dX8_spells_45 rfl ?_
      refine B_if_le dX8_spells_47 hM (tgt := 59) rfl (fun hM => ?_) (fun hM => ?_)
      · exact B_wk (bw_X8_spells_c59 hd hr7 hr19 hr27 hM) (wk_1 (wk_1 (wk_1 (wk_1 (wk_0 wk_n)))))
      · refine B_aload_n dX8_spells_50 rfl ?_
        refine B_iload_n dX8_spells_51 rfl ?_
        refine B_iload_n dX8_spells_52 rfl ?_
        refine B_iload_n dX8_spells_53 rfl ?_
        refine B_iload dX8_spells_54 rfl ?_
        refine B_cV4v (c_X8_writesHold (d := d - 1) hk_X8_writesHold  hM) csV_X8_309 (sc_56) vc_8 rfl hp0 (rm_f hk1) (rm_l hk1 (by decide)) (Nat.le_of_ble_eq_true rfl) dX8_spells_56 (fun h3 hM => ?_)
        exact B_wk (bw_X8_spells_c59 hd hr7 hr19 hr27 hM) (wk_1 (wk_1 (wk_1 (wk_1 (wk_0 wk_n)))))
def X8_spells_c19 (F : Nat) (rc7 : Int32 → AH → Prop) (K : Int32 → AH → Prop) (n : Nat) : Int32 → Int32 → AH → Prop := Nat.rec (motive := fun _ => Int32 → Int32 → AH → Prop) (fun _ _ _ => False) (fun _ rc19 x1 x2 h => if (nI 6) ≤ x2 then (rc7 (x1 + (nI 1)) h) else (X8_spells_c27 F rc7 rc19 K F x1 x2 (nI 1) h)) n
theorem X8_spells_c19_s {F : Nat} {rc7 : Int32 → AH → Prop} {K : Int32 → AH → Prop} {n : Nat} {x1 : Int32} {x2 : Int32} {h : AH} : X8_spells_c19 F rc7 K (n + 1) x1 x2 h = (if (nI 6) ≤ x2 then (rc7 (x1 + (nI 1)) h) else (X8_spells_c27 F rc7 (X8_spells_c19 F rc7 K n) K F x1 x2 (nI 1) h)) := rfl
set_option maxHeartbeats 4000000 in
theorem bw_X8_spells_c19 {l : Launch} {d : Nat} {F : Nat} {rc7 : Int32 → AH → Prop} {K : Int32 → AH → Prop} (hd : 19 ≤ d) (hr7 : ∀ (x1 : Int32) (h : AH), rc7 x1 h → BW RX8 cX8_spells 5 (some .int) l (rmD d) tb0 3 [.ref 56, .int x1, .null, .null, .null] [] 7 h (Qi K)) : ∀ (n : Nat) (x1 : Int32) (x2 : Int32) (h : AH), X8_spells_c19 F rc7 K n x1 x2 h → BW RX8 cX8_spells 5 (some .int) l (rmD d) tb0 3 [.ref 56, .int x1, .int x2, .null, .null] [] 19 h (Qi K) := by
  have hk1 : 1 ≤ d := by omega
  have hk_X8_at : 0 ≤ d - 1 := by omega
  have hk_X8_writesHold : 18 ≤ d - 1 := by omega
  intro n
  induction n with
  | zero =>
    intro x1 x2 h hM
    exact hM.elim
  | succ n hr19 =>
    intro x1 x2 h hM
    rw [X8_spells_c19_s] at hM
    refine B_iload_n dX8_spells_19 rfl ?_
    refine B_bipush dX8_spells_20 k_bi_6 ?_
    refine B_icmp_ge dX8_spells_22 hM (tgt := 71) rfl (fun hM => ?_) (fun hM => ?_)
    · refine B_iinc dX8_spells_71 rfl k_ic_1 (Nat.le_of_ble_eq_true rfl) ?_
      refine B_goto (tgt := 7) dX8_spells_74 rfl ?_
      exact B_wk (hr7 _ _ hM) (wk_1 (wk_1 (wk_0 (wk_0 (wk_0 wk_n)))))
    · refine B_iconst dX8_spells_25 k_ic_1 ?_
      refine B_istore_n dX8_spells_26 (Nat.le_of_ble_eq_true rfl) ?_
      exact B_wk (bw_X8_spells_c27 hd hr7 hr19 _ _ _ _ _ hM) (wk_1 (wk_1 (wk_1 (wk_1 (wk_0 wk_n)))))
def X8_spells_c7 (F : Nat) (K : Int32 → AH → Prop) (n : Nat) : Int32 → AH → Prop := Nat.rec (motive := fun _ => Int32 → AH → Prop) (fun _ _ => False) (fun _ rc7 x1 h => vp_in (nI 0) 441 ∧ (if (h 57 (nI 0).toNatClampNeg) ≤ x1 then (K (h 56 24) h) else (X8_spells_c19 F rc7 K F x1 (nI 0) h))) n
theorem X8_spells_c7_s {F : Nat} {K : Int32 → AH → Prop} {n : Nat} {x1 : Int32} {h : AH} : X8_spells_c7 F K (n + 1) x1 h = (vp_in (nI 0) 441 ∧ (if (h 57 (nI 0).toNatClampNeg) ≤ x1 then (K (h 56 24) h) else (X8_spells_c19 F (X8_spells_c7 F K n) K F x1 (nI 0) h))) := rfl
set_option maxHeartbeats 4000000 in
theorem bw_X8_spells_c7 {l : Launch} {d : Nat} {F : Nat} {K : Int32 → AH → Prop} (hd : 19 ≤ d) : ∀ (n : Nat) (x1 : Int32) (h : AH), X8_spells_c7 F K n x1 h → BW RX8 cX8_spells 5 (some .int) l (rmD d) tb0 3 [.ref 56, .int x1, .null, .null, .null] [] 7 h (Qi K) := by
  have hk1 : 1 ≤ d := by omega
  have hk_X8_at : 0 ≤ d - 1 := by omega
  have hk_X8_writesHold : 18 ≤ d - 1 := by omega
  intro n
  induction n with
  | zero =>
    intro x1 h hM
    exact hM.elim
  | succ n hr7 =>
    intro x1 h hM
    rw [X8_spells_c7_s] at hM
    refine B_iload_n dX8_spells_7 rfl ?_
    refine B_aload_n dX8_spells_8 rfl ?_
    refine B_getR (sc_56) vc_8 (k := 1) (j := 57) rfl (by decide) inG8 ⟨rfl, rfl, rfl⟩ ww_fl_X8_15 dX8_spells_9 ?_
    refine B_iconst dX8_spells_12 k_ic_0 ?_
    refine B_iald (sc_57) hM dX8_spells_13 (fun hM => ?_)
    refine B_icmp_ge dX8_spells_14 hM (tgt := 77) rfl (fun hM => ?_) (fun hM => ?_)
    · refine B_aload_n dX8_spells_77 rfl ?_
      refine B_getI (sc_56) vc_8 (k := 24) rfl (by decide) inG8 ⟨rfl, rfl, rfl⟩ ww_fl_X8_183 dX8_spells_78 ?_
      exact B_iret ⟨_, rfl, hM⟩ trivial dX8_spells_81
    · refine B_iconst dX8_spells_17 k_ic_0 ?_
      refine B_istore_n dX8_spells_18 (Nat.le_of_ble_eq_true rfl) ?_
      exact B_wk (bw_X8_spells_c19 hd hr7 _ _ _ _ hM) (wk_1 (wk_1 (wk_1 (wk_0 (wk_0 wk_n)))))
def P_X8_spells (F : Nat) (h : AH) (K : Int32 → AH → Prop) : Prop := (fun (h1 : AH) => X8_spells_c7 F K F (nI 0) h1) (up h 56 24 (nI 0))
set_option maxHeartbeats 4000000 in
theorem c_X8_spells {l : Launch} {d : Nat} {F : Nat} {h : AH} {K : Int32 → AH → Prop} (hd : 19 ≤ d) (hM : P_X8_spells F h K) : Ct l yX8_spells cX8_spells 5 (some .int) (rmD d) [.ref 56] h (Qi K) := by
  have hk1 : 1 ≤ d := by omega
  have hk_X8_at : 0 ≤ d - 1 := by omega
  have hk_X8_writesHold : 18 ≤ d - 1 := by omega
  refine Ct_ofBW (by decide) rfl (Nat.le_of_ble_eq_true rfl) ⟨rfl, rfl⟩ ?_
  show BW RX8 cX8_spells 5 (some .int) l (rmD d) tb0 3 [.ref 56, .null, .null, .null, .null] [] 0 h (Qi K)
  unfold P_X8_spells at hM
  refine B_aload_n dX8_spells_0 rfl ?_
  refine B_iconst dX8_spells_1 k_ic_0 ?_
  refine B_putI (fits_I _) (sc_56) vc_8 (k := 24) rfl (by decide) inG8 ⟨rfl, rfl, rfl⟩ tyX8 tyX8_ok nmX8 rfl rfl ww_fl_X8_183 dX8_spells_2 ?_
  refine B_iconst dX8_spells_5 k_ic_0 ?_
  refine B_istore_n dX8_spells_6 (Nat.le_of_ble_eq_true rfl) ?_
  exact B_wk (bw_X8_spells_c7 hd  _ _ _ hM) (wk_1 (wk_1 (wk_0 (wk_0 (wk_0 wk_n)))))

def P_X8_paper (F : Nat) (a1 : Int32) (h : AH) (K : Int32 → AH → Prop) : Prop := if (nI 0) ≤ a1 then (if (h 56 24) ≤ a1 then (K (-2 : Int32) h) else (vp_in a1 6000 ∧ (K (h 65 a1.toNatClampNeg) h))) else (K (-1 : Int32) h)
set_option maxHeartbeats 4000000 in
theorem c_X8_paper {l : Launch} {d : Nat} {F : Nat} {a1 : Int32} {h : AH} {K : Int32 → AH → Prop} (hd : 0 ≤ d) (hM : P_X8_paper F a1 h K) : Ct l yX8_paper cX8_paper 2 (some .int) (rmD d) [.ref 56, .int a1] h (Qi K) := by
  refine Ct_ofBW (by decide) rfl (Nat.le_of_ble_eq_true rfl) ⟨rfl, rfl⟩ ?_
  show BW RX8 cX8_paper 2 (some .int) l (rmD d) tb0 3 [.ref 56, .int a1] [] 0 h (Qi K)
  unfold P_X8_paper at hM
  refine B_iload_n dX8_paper_0 rfl ?_
  refine B_if_ge dX8_paper_1 hM (tgt := 8) rfl (fun hM => ?_) (fun hM => ?_)
  · refine B_iload_n dX8_paper_8 rfl ?_
    refine B_aload_n dX8_paper_9 rfl ?_
    refine B_getI (sc_56) vc_8 (k := 24) rfl (by decide) inG8 ⟨rfl, rfl, rfl⟩ ww_fl_X8_183 dX8_paper_10 ?_
    refine B_icmp_ge dX8_paper_13 hM (tgt := 25) rfl (fun hM => ?_) (fun hM => ?_)
    · refine B_bipush dX8_paper_25 k_bi_m2 ?_
      exact B_iret ⟨_, rfl, hM⟩ trivial dX8_paper_27
    · refine B_aload_n dX8_paper_16 rfl ?_
      refine B_getR (sc_56) vc_8 (k := 23) (j := 65) rfl (by decide) inG8 ⟨rfl, rfl, rfl⟩ ww_fl_X8_40 dX8_paper_17 ?_
      refine B_iload_n dX8_paper_20 rfl ?_
      refine B_iald (sc_65) hM dX8_paper_21 (fun hM => ?_)
      refine B_goto (tgt := 27) dX8_paper_22 rfl ?_
      exact B_iret ⟨_, rfl, hM⟩ trivial dX8_paper_27
  · refine B_iconst dX8_paper_4 k_ic_m1 ?_
    refine B_goto (tgt := 27) dX8_paper_5 rfl ?_
    exact B_iret ⟨_, rfl, hM⟩ trivial dX8_paper_27

def P_X8_isList (F : Nat) (a1 : Int32) (h : AH) (K : Int32 → AH → Prop) : Prop := P_X8_in F a1 (nI 0) (nI 2) h (fun (r2 : Int32) (h1 : AH) => zB r2 ∧ K r2 h1)
set_option maxHeartbeats 4000000 in
theorem c_X8_isList {l : Launch} {d : Nat} {F : Nat} {a1 : Int32} {h : AH} {K : Int32 → AH → Prop} (hd : 1 ≤ d) (hM : P_X8_isList F a1 h K) : Ct l yX8_isList cX8_isList 1 (some .boolean) (rmD d) [.int a1] h (Qi K) := by
  have hk1 : 1 ≤ d := by omega
  have hk_X8_in : 0 ≤ d - 1 := by omega
  refine Ct_ofBW (by decide) rfl (Nat.le_of_ble_eq_true rfl) ⟨rfl, rfl⟩ ?_
  show BW RX8 cX8_isList 1 (some .boolean) l (rmD d) tb0 3 [.int a1] [] 0 h (Qi K)
  unfold P_X8_isList at hM
  refine B_iload_n dX8_isList_0 rfl ?_
  refine B_iconst dX8_isList_1 k_ic_0 ?_
  refine B_iconst dX8_isList_2 k_ic_2 ?_
  refine B_cS3i (c_X8_in (d := d - 1) hk_X8_in  hM) csS_X8_62 hp0 (rm_f hk1) (rm_l hk1 (by decide)) (Nat.le_of_ble_eq_true rfl) dX8_isList_3 (fun r2 h1 hM => ?_)
  exact B_iret ⟨_, rfl, hM.2⟩ hM.1 dX8_isList_6

def X8_list_c31 (F : Nat) (K : Int32 → AH → Prop) (n : Nat) : Int32 → Int32 → AH → Prop := Nat.rec (motive := fun _ => Int32 → Int32 → AH → Prop) (fun _ _ _ => False) (fun _ rc31 x1 x3 h => if (nI 36) ≤ x3 then (K (nI 1) h) else (vp_in (((nI 36) * x1) + x3) 108 ∧ ((fun (h1 : AH) => rc31 x1 (x3 + (nI 1)) h1) (up h 67 (((nI 36) * x1) + x3).toNatClampNeg (nI 0))))) n
theorem X8_list_c31_s {F : Nat} {K : Int32 → AH → Prop} {n : Nat} {x1 : Int32} {x3 : Int32} {h : AH} : X8_list_c31 F K (n + 1) x1 x3 h = (if (nI 36) ≤ x3 then (K (nI 1) h) else (vp_in (((nI 36) * x1) + x3) 108 ∧ ((fun (h1 : AH) => (X8_list_c31 F K n) x1 (x3 + (nI 1)) h1) (up h 67 (((nI 36) * x1) + x3).toNatClampNeg (nI 0))))) := rfl
set_option maxHeartbeats 4000000 in
theorem bw_X8_list_c31 {l : Launch} {d : Nat} {F : Nat} {K : Int32 → AH → Prop} (hd : 2 ≤ d) : ∀ (n : Nat) (x1 : Int32) (x3 : Int32) (h : AH), X8_list_c31 F K n x1 x3 h → BW RX8 cX8_list 4 (some .int) l (rmD d) tb0 3 [.ref 56, .int x1, .null, .int x3] [] 31 h (Qi K) := by
  have hk1 : 1 ≤ d := by omega
  have hk_X8_isList : 1 ≤ d - 1 := by omega
  intro n
  induction n with
  | zero =>
    intro x1 x3 h hM
    exact hM.elim
  | succ n hr31 =>
    intro x1 x3 h hM
    rw [X8_list_c31_s] at hM
    refine B_iload_n dX8_list_31 rfl ?_
    refine B_bipush dX8_list_32 k_bi_36 ?_
    refine B_icmp_ge dX8_list_34 hM (tgt := 55) rfl (fun hM => ?_) (fun hM => ?_)
    · refine B_iconst dX8_list_55 k_ic_1 ?_
      exact B_iret ⟨_, rfl, hM⟩ trivial dX8_list_56
    · refine B_aload_n dX8_list_37 rfl ?_
      refine B_getR (sc_56) vc_8 (k := 26) (j := 67) rfl (by decide) inG8 ⟨rfl, rfl, rfl⟩ ww_fl_X8_46 dX8_list_38 ?_
      refine B_bipush dX8_list_41 k_bi_36 ?_
      refine B_iload_n dX8_list_43 rfl ?_
      refine B_imul dX8_list_44 ?_
      refine B_iload_n dX8_list_45 rfl ?_
      refine B_iadd dX8_list_46 ?_
      refine B_iconst dX8_list_47 k_ic_0 ?_
      refine B_iast (sc_67) hM dX8_list_48 (fun hM => ?_)
      refine B_iinc dX8_list_49 rfl k_ic_1 (Nat.le_of_ble_eq_true rfl) ?_
      refine B_goto (tgt := 31) dX8_list_52 rfl ?_
      exact B_wk (hr31 _ _ _ hM) (wk_1 (wk_1 (wk_0 (wk_1 wk_n))))
def P_X8_list (F : Nat) (a1 : Int32) (a2 : Int32) (h : AH) (K : Int32 → AH → Prop) : Prop := P_X8_isList F a1 h (fun (r2 : Int32) (h1 : AH) => if r2 = (nI 0) then (K (-1 : Int32) h1) else (if a2 ≤ (nI 36) then (if (nI 0) ≤ a2 then (vp_in a1 3 ∧ ((fun (h3 : AH) => X8_list_c31 F K F a1 (nI 0) h3) (up h1 66 a1.toNatClampNeg a2))) else (K (-14 : Int32) h1)) else (K (-1 : Int32) h1)))
set_option maxHeartbeats 4000000 in
theorem c_X8_list {l : Launch} {d : Nat} {F : Nat} {a1 : Int32} {a2 : Int32} {h : AH} {K : Int32 → AH → Prop} (hd : 2 ≤ d) (hM : P_X8_list F a1 a2 h K) : Ct l yX8_list cX8_list 4 (some .int) (rmD d) [.ref 56, .int a1, .int a2] h (Qi K) := by
  have hk1 : 1 ≤ d := by omega
  have hk_X8_isList : 1 ≤ d - 1 := by omega
  refine Ct_ofBW (by decide) rfl (Nat.le_of_ble_eq_true rfl) ⟨rfl, rfl⟩ ?_
  show BW RX8 cX8_list 4 (some .int) l (rmD d) tb0 3 [.ref 56, .int a1, .int a2, .null] [] 0 h (Qi K)
  unfold P_X8_list at hM
  refine B_iload_n dX8_list_0 rfl ?_
  refine B_cS1i (c_X8_isList (d := d - 1) hk_X8_isList  hM) csS_X8_312 hp0 (rm_f hk1) (rm_l hk1 (by decide)) (Nat.le_of_ble_eq_true rfl) dX8_list_1 (fun r2 h1 hM => ?_)
  refine B_if_eq dX8_list_4 hM (tgt := 13) rfl (fun hM => ?_) (fun hM => ?_)
  · refine B_iconst dX8_list_13 k_ic_m1 ?_
    exact B_iret ⟨_, rfl, hM⟩ trivial dX8_list_14
  · refine B_iload_n dX8_list_7 rfl ?_
    refine B_bipush dX8_list_8 k_bi_36 ?_
    refine B_icmp_le dX8_list_10 hM (tgt := 15) rfl (fun hM => ?_) (fun hM => ?_)
    · refine B_iload_n dX8_list_15 rfl ?_
      refine B_if_ge dX8_list_16 hM (tgt := 22) rfl (fun hM => ?_) (fun hM => ?_)
      · refine B_aload_n dX8_list_22 rfl ?_
        refine B_getR (sc_56) vc_8 (k := 25) (j := 66) rfl (by decide) inG8 ⟨rfl, rfl, rfl⟩ ww_fl_X8_43 dX8_list_23 ?_
        refine B_iload_n dX8_list_26 rfl ?_
        refine B_iload_n dX8_list_27 rfl ?_
        refine B_iast (sc_66) hM dX8_list_28 (fun hM => ?_)
        refine B_iconst dX8_list_29 k_ic_0 ?_
        refine B_istore_n dX8_list_30 (Nat.le_of_ble_eq_true rfl) ?_
        exact B_wk (bw_X8_list_c31 hd  _ _ _ _ hM) (wk_1 (wk_1 (wk_0 (wk_1 wk_n))))
      · refine B_bipush dX8_list_19 k_bi_m14 ?_
        exact B_iret ⟨_, rfl, hM⟩ trivial dX8_list_21
    · refine B_iconst dX8_list_13 k_ic_m1 ?_
      exact B_iret ⟨_, rfl, hM⟩ trivial dX8_list_14

def P_X8_set (F : Nat) (a1 : Int32) (a2 : Int32) (a3 : Int32) (h : AH) (K : Int32 → AH → Prop) : Prop := P_X8_isList F a1 h (fun (r2 : Int32) (h1 : AH) => if ¬ r2 = (nI 0) then (vp_in a1 3 ∧ (if (nI 0) ≤ (h1 66 a1.toNatClampNeg) then (vp_in a1 3 ∧ (P_X8_in F a2 (nI 0) ((h1 66 a1.toNatClampNeg) - (nI 1)) h1 (fun (r4 : Int32) (h3 : AH) => if ¬ r4 = (nI 0) then (vp_in (((nI 36) * a1) + a2) 108 ∧ ((fun (h5 : AH) => K (nI 1) h5) (up h3 67 (((nI 36) * a1) + a2).toNatClampNeg a3))) else (K (-13 : Int32) h3)))) else (K (-11 : Int32) h1))) else (K (-1 : Int32) h1))
set_option maxHeartbeats 4000000 in
theorem c_X8_set {l : Launch} {d : Nat} {F : Nat} {a1 : Int32} {a2 : Int32} {a3 : Int32} {h : AH} {K : Int32 → AH → Prop} (hd : 2 ≤ d) (hM : P_X8_set F a1 a2 a3 h K) : Ct l yX8_set cX8_set 4 (some .int) (rmD d) [.ref 56, .int a1, .int a2, .int a3] h (Qi K) := by
  have hk1 : 1 ≤ d := by omega
  have hk_X8_in : 0 ≤ d - 1 := by omega
  have hk_X8_isList : 1 ≤ d - 1 := by omega
  refine Ct_ofBW (by decide) rfl (Nat.le_of_ble_eq_true rfl) ⟨rfl, rfl⟩ ?_
  show BW RX8 cX8_set 4 (some .int) l (rmD d) tb0 3 [.ref 56, .int a1, .int a2, .int a3] [] 0 h (Qi K)
  unfold P_X8_set at hM
  refine B_iload_n dX8_set_0 rfl ?_
  refine B_cS1i (c_X8_isList (d := d - 1) hk_X8_isList  hM) csS_X8_312 hp0 (rm_f hk1) (rm_l hk1 (by decide)) (Nat.le_of_ble_eq_true rfl) dX8_set_1 (fun r2 h1 hM => ?_)
  refine B_if_ne dX8_set_4 hM (tgt := 9) rfl (fun hM => ?_) (fun hM => ?_)
  · refine B_aload_n dX8_set_9 rfl ?_
    refine B_getR (sc_56) vc_8 (k := 25) (j := 66) rfl (by decide) inG8 ⟨rfl, rfl, rfl⟩ ww_fl_X8_43 dX8_set_10 ?_
    refine B_iload_n dX8_set_13 rfl ?_
    refine B_iald (sc_66) hM dX8_set_14 (fun hM => ?_)
    refine B_if_ge dX8_set_15 hM (tgt := 21) rfl (fun hM => ?_) (fun hM => ?_)
    · refine B_iload_n dX8_set_21 rfl ?_
      refine B_iconst dX8_set_22 k_ic_0 ?_
      refine B_aload_n dX8_set_23 rfl ?_
      refine B_getR (sc_56) vc_8 (k := 25) (j := 66) rfl (by decide) inG8 ⟨rfl, rfl, rfl⟩ ww_fl_X8_43 dX8_set_24 ?_
      refine B_iload_n dX8_set_27 rfl ?_
      refine B_iald (sc_66) hM dX8_set_28 (fun hM => ?_)
      refine B_iconst dX8_set_29 k_ic_1 ?_
      refine B_isub dX8_set_30 ?_
      refine B_cS3i (c_X8_in (d := d - 1) hk_X8_in  hM) csS_X8_62 hp0 (rm_f hk1) (rm_l hk1 (by decide)) (Nat.le_of_ble_eq_true rfl) dX8_set_31 (fun r4 h3 hM => ?_)
      refine B_if_ne dX8_set_34 hM (tgt := 40) rfl (fun hM => ?_) (fun hM => ?_)
      · refine B_aload_n dX8_set_40 rfl ?_
        refine B_getR (sc_56) vc_8 (k := 26) (j := 67) rfl (by decide) inG8 ⟨rfl, rfl, rfl⟩ ww_fl_X8_46 dX8_set_41 ?_
        refine B_bipush dX8_set_44 k_bi_36 ?_
        refine B_iload_n dX8_set_46 rfl ?_
        refine B_imul dX8_set_47 ?_
        refine B_iload_n dX8_set_48 rfl ?_
        refine B_iadd dX8_set_49 ?_
        refine B_iload_n dX8_set_50 rfl ?_
        refine B_iast (sc_67) hM dX8_set_51 (fun hM => ?_)
        refine B_iconst dX8_set_52 k_ic_1 ?_
        exact B_iret ⟨_, rfl, hM⟩ trivial dX8_set_53
      · refine B_bipush dX8_set_37 k_bi_m13 ?_
        exact B_iret ⟨_, rfl, hM⟩ trivial dX8_set_39
    · refine B_bipush dX8_set_18 k_bi_m11 ?_
      exact B_iret ⟨_, rfl, hM⟩ trivial dX8_set_20
  · refine B_iconst dX8_set_7 k_ic_m1 ?_
    exact B_iret ⟨_, rfl, hM⟩ trivial dX8_set_8

def P_X8_get (F : Nat) (a1 : Int32) (a2 : Int32) (h : AH) (K : Int64 → AH → Prop) : Prop := P_X8_isList F a1 h (fun (r2 : Int32) (h1 : AH) => if r2 = (nI 0) then (K (-9223372036854775808 : Int64) h1) else (vp_in a1 3 ∧ (P_X8_in F a2 (nI 0) ((h1 66 a1.toNatClampNeg) - (nI 1)) h1 (fun (r4 : Int32) (h3 : AH) => if r4 = (nI 0) then (K (-9223372036854775808 : Int64) h3) else (vp_in (((nI 36) * a1) + a2) 108 ∧ (K ((h3 67 (((nI 36) * a1) + a2).toNatClampNeg)).toInt64 h3))))))
set_option maxHeartbeats 4000000 in
theorem c_X8_get {l : Launch} {d : Nat} {F : Nat} {a1 : Int32} {a2 : Int32} {h : AH} {K : Int64 → AH → Prop} (hd : 2 ≤ d) (hM : P_X8_get F a1 a2 h K) : Ct l yX8_get cX8_get 3 (some .long) (rmD d) [.ref 56, .int a1, .int a2] h (Ql K) := by
  have hk1 : 1 ≤ d := by omega
  have hk_X8_in : 0 ≤ d - 1 := by omega
  have hk_X8_isList : 1 ≤ d - 1 := by omega
  refine Ct_ofBW (by decide) rfl (Nat.le_of_ble_eq_true rfl) ⟨rfl, rfl⟩ ?_
  show BW RX8 cX8_get 3 (some .long) l (rmD d) tb0 3 [.ref 56, .int a1, .int a2] [] 0 h (Ql K)
  unfold P_X8_get at hM
  refine B_iload_n dX8_get_0 rfl ?_
  refine B_cS1i (c_X8_isList (d := d - 1) hk_X8_isList  hM) csS_X8_312 hp0 (rm_f hk1) (rm_l hk1 (by decide)) (Nat.le_of_ble_eq_true rfl) dX8_get_1 (fun r2 h1 hM => ?_)
  refine B_if_eq dX8_get_4 hM (tgt := 38) rfl (fun hM => ?_) (fun hM => ?_)
  · refine B_ldc2 dX8_get_38 ww_cst_X8_315 ?_
    exact B_lret ⟨_, rfl, hM⟩ trivial dX8_get_41
  · refine B_iload_n dX8_get_7 rfl ?_
    refine B_iconst dX8_get_8 k_ic_0 ?_
    refine B_aload_n dX8_get_9 rfl ?_
    refine B_getR (sc_56) vc_8 (k := 25) (j := 66) rfl (by decide) inG8 ⟨rfl, rfl, rfl⟩ ww_fl_X8_43 dX8_get_10 ?_
    refine B_iload_n dX8_get_13 rfl ?_
    refine B_iald (sc_66) hM dX8_get_14 (fun hM => ?_)
    refine B_iconst dX8_get_15 k_ic_1 ?_
    refine B_isub dX8_get_16 ?_
    refine B_cS3i (c_X8_in (d := d - 1) hk_X8_in  hM) csS_X8_62 hp0 (rm_f hk1) (rm_l hk1 (by decide)) (Nat.le_of_ble_eq_true rfl) dX8_get_17 (fun r4 h3 hM => ?_)
    refine B_if_eq dX8_get_20 hM (tgt := 38) rfl (fun hM => ?_) (fun hM => ?_)
    · refine B_ldc2 dX8_get_38 ww_cst_X8_315 ?_
      exact B_lret ⟨_, rfl, hM⟩ trivial dX8_get_41
    · refine B_aload_n dX8_get_23 rfl ?_
      refine B_getR (sc_56) vc_8 (k := 26) (j := 67) rfl (by decide) inG8 ⟨rfl, rfl, rfl⟩ ww_fl_X8_46 dX8_get_24 ?_
      refine B_bipush dX8_get_27 k_bi_36 ?_
      refine B_iload_n dX8_get_29 rfl ?_
      refine B_imul dX8_get_30 ?_
      refine B_iload_n dX8_get_31 rfl ?_
      refine B_iadd dX8_get_32 ?_
      refine B_iald (sc_67) hM dX8_get_33 (fun hM => ?_)
      refine B_i2l dX8_get_34 ?_
      refine B_goto (tgt := 41) dX8_get_35 rfl ?_
      exact B_lret ⟨_, rfl, hM⟩ trivial dX8_get_41

def X8_does__c90 (F : Nat) (rc30 : Int32 → Int32 → Int32 → AH → Prop) (K : Int32 → AH → Prop) (x1 : Int32) (x4 : Int32) (s0 : Int32) (s1 : Int32) (h : AH) : Prop := rc30 x1 (s0 + s1) (x4 + (nI 3)) h
set_option maxHeartbeats 4000000 in
theorem bw_X8_does__c90 {l : Launch} {d : Nat} {F : Nat} {rc30 : Int32 → Int32 → Int32 → AH → Prop} {K : Int32 → AH → Prop} {x1 : Int32} {x4 : Int32} {s0 : Int32} {s1 : Int32} {h : AH} (hd : 7 ≤ d) (hr30 : ∀ (x1 : Int32) (x3 : Int32) (x4 : Int32) (h : AH), rc30 x1 x3 x4 h → BW RX8 cX8_does_ 6 (some .int) l (rmD d) tb0 3 [.ref 56, .int x1, .null, .int x3, .int x4, .null] [] 30 h (Qi K)) (hM : X8_does__c90 F rc30 K x1 x4 s0 s1 h) : BW RX8 cX8_does_ 6 (some .int) l (rmD d) tb0 3 [.ref 56, .int x1, .null, .null, .int x4, .null] [.int s1, .int s0] 90 h (Qi K) := by
  have hk1 : 1 ≤ d := by omega
  have hk_X8_ask : 6 ≤ d - 1 := by omega
  have hk_X8_isList : 1 ≤ d - 1 := by omega
  unfold X8_does__c90 at hM
  refine B_iadd dX8_does__90 ?_
  refine B_istore_n dX8_does__91 (Nat.le_of_ble_eq_true rfl) ?_
  refine B_iinc dX8_does__92 rfl k_ic_3 (Nat.le_of_ble_eq_true rfl) ?_
  refine B_goto (tgt := 30) dX8_does__95 rfl ?_
  exact B_wk (hr30 _ _ _ _ hM) (wk_1 (wk_1 (wk_0 (wk_1 (wk_1 (wk_0 wk_n))))))
def X8_does__c30 (F : Nat) (K : Int32 → AH → Prop) (n : Nat) : Int32 → Int32 → Int32 → AH → Prop := Nat.rec (motive := fun _ => Int32 → Int32 → Int32 → AH → Prop) (fun _ _ _ _ => False) (fun _ rc30 x1 x3 x4 h => vp_in x1 3 ∧ (if ((h 66 x1.toNatClampNeg) - (nI 2)) ≤ x4 then (K x3 h) else (vp_in (((nI 36) * x1) + x4) 108 ∧ (vp_in ((((nI 36) * x1) + x4) + (nI 1)) 108 ∧ (vp_in ((((nI 36) * x1) + x4) + (nI 2)) 108 ∧ (P_X8_ask F (h 67 (((nI 36) * x1) + x4).toNatClampNeg) (h 67 ((((nI 36) * x1) + x4) + (nI 1)).toNatClampNeg) (h 67 ((((nI 36) * x1) + x4) + (nI 2)).toNatClampNeg) h (fun (r2 : Int32) (h1 : AH) => if r2 < (nI 0) then (X8_does__c90 F rc30 K x1 x4 x3 (nI 0) h1) else (X8_does__c90 F rc30 K x1 x4 x3 (nI 1) h1)))))))) n
theorem X8_does__c30_s {F : Nat} {K : Int32 → AH → Prop} {n : Nat} {x1 : Int32} {x3 : Int32} {x4 : Int32} {h : AH} : X8_does__c30 F K (n + 1) x1 x3 x4 h = (vp_in x1 3 ∧ (if ((h 66 x1.toNatClampNeg) - (nI 2)) ≤ x4 then (K x3 h) else (vp_in (((nI 36) * x1) + x4) 108 ∧ (vp_in ((((nI 36) * x1) + x4) + (nI 1)) 108 ∧ (vp_in ((((nI 36) * x1) + x4) + (nI 2)) 108 ∧ (P_X8_ask F (h 67 (((nI 36) * x1) + x4).toNatClampNeg) (h 67 ((((nI 36) * x1) + x4) + (nI 1)).toNatClampNeg) (h 67 ((((nI 36) * x1) + x4) + (nI 2)).toNatClampNeg) h (fun (r2 : Int32) (h1 : AH) => if r2 < (nI 0) then (X8_does__c90 F (X8_does__c30 F K n) K x1 x4 x3 (nI 0) h1) else (X8_does__c90 F (X8_does__c30 F K n) K x1 x4 x3 (nI 1) h1)))))))) := rfl
set_option maxHeartbeats 4000000 in
theorem bw_X8_does__c30 {l : Launch} {d : Nat} {F : Nat} {K : Int32 → AH → Prop} (hd : 7 ≤ d) : ∀ (n : Nat) (x1 : Int32) (x3 : Int32) (x4 : Int32) (h : AH), X8_does__c30 F K n x1 x3 x4 h → BW RX8 cX8_does_ 6 (some .int) l (rmD d) tb0 3 [.ref 56, .int x1, .null, .int x3, .int x4, .null] [] 30 h (Qi K) := by
  have hk1 : 1 ≤ d := by omega
  have hk_X8_ask : 6 ≤ d - 1 := by omega
  have hk_X8_isList : 1 ≤ d - 1 := by omega
  intro n
  induction n with
  | zero =>
    intro x1 x3 x4 h hM
    exact hM.elim
  | succ n hr30 =>
    intro x1 x3 x4 h hM
    rw [X8_does__c30_s] at hM
    refine B_iload dX8_does__30 rfl ?_
    refine B_aload_n dX8_does__32 rfl ?_
    refine B_getR (sc_56) vc_8 (k := 25) (j := 66) rfl (by decide) inG8 ⟨rfl, rfl, rfl⟩ ww_fl_X8_43 dX8_does__33 ?_
    refine B_iload_n dX8_does__36 rfl ?_
    refine B_iald (sc_66) hM dX8_does__37 (fun hM => ?_)
    refine B_iconst dX8_does__38 k_ic_2 ?_
    refine B_isub dX8_does__39 ?_
    refine B_icmp_ge dX8_does__40 hM (tgt := 98) rfl (fun hM => ?_) (fun hM => ?_)
    · refine B_iload_n dX8_does__98 rfl ?_
      exact B_iret ⟨_, rfl, hM⟩ trivial dX8_does__99
    · refine B_bipush dX8_does__43 k_bi_36 ?_
      refine B_iload_n dX8_does__45 rfl ?_
      refine B_imul dX8_does__46 ?_
      refine B_iload dX8_does__47 rfl ?_
      refine B_iadd dX8_does__49 ?_
      refine B_istore dX8_does__50 (Nat.le_of_ble_eq_true rfl) ?_
      refine B_iload_n dX8_does__52 rfl ?_
      refine B_aload_n dX8_does__53 rfl ?_
      refine B_aload_n dX8_does__54 rfl ?_
      refine B_getR (sc_56) vc_8 (k := 26) (j := 67) rfl (by decide) inG8 ⟨rfl, rfl, rfl⟩ ww_fl_X8_46 dX8_does__55 ?_
      refine B_iload dX8_does__58 rfl ?_
      refine B_iald (sc_67) hM dX8_does__60 (fun hM => ?_)
      refine B_aload_n dX8_does__61 rfl ?_
      refine B_getR (sc_56) vc_8 (k := 26) (j := 67) rfl (by decide) inG8 ⟨rfl, rfl, rfl⟩ ww_fl_X8_46 dX8_does__62 ?_
      refine B_iload dX8_does__65 rfl ?_
      refine B_iconst dX8_does__67 k_ic_1 ?_
      refine B_iadd dX8_does__68 ?_
      refine B_iald (sc_67) hM dX8_does__69 (fun hM => ?_)
      refine B_aload_n dX8_does__70 rfl ?_
      refine B_getR (sc_56) vc_8 (k := 26) (j := 67) rfl (by decide) inG8 ⟨rfl, rfl, rfl⟩ ww_fl_X8_46 dX8_does__71 ?_
      refine B_iload dX8_does__74 rfl ?_
      refine B_iconst dX8_does__76 k_ic_2 ?_
      refine B_iadd dX8_does__77 ?_
      refine B_iald (sc_67) hM dX8_does__78 (fun hM => ?_)
      refine B_cV3i (c_X8_ask (d := d - 1) hk_X8_ask  hM) csV_X8_206 (sc_56) vc_8 rfl hp0 (rm_f hk1) (rm_l hk1 (by decide)) (Nat.le_of_ble_eq_true rfl) dX8_does__79 (fun r2 h1 hM => ?_)
      refine B_if_lt dX8_does__82 hM (tgt := 89) rfl (fun hM => ?_) (fun hM => ?_)
      · refine B_iconst dX8_does__89 k_ic_0 ?_
        exact B_wk (bw_X8_does__c90 hd hr30 hM) (wk_1 (wk_1 (wk_0 (wk_0 (wk_1 (wk_0 wk_n))))))
      · refine B_iconst dX8_does__85 k_ic_1 ?_
        refine B_goto (tgt := 90) dX8_does__86 rfl ?_
        exact B_wk (bw_X8_does__c90 hd hr30 hM) (wk_1 (wk_1 (wk_0 (wk_0 (wk_1 (wk_0 wk_n))))))
def P_X8_does_ (F : Nat) (a1 : Int32) (a2 : Int32) (h : AH) (K : Int32 → AH → Prop) : Prop := P_X8_isList F a1 h (fun (r2 : Int32) (h1 : AH) => if r2 = (nI 0) then (K (-1 : Int32) h1) else (if (nI 0) ≤ a2 then (vp_in a1 3 ∧ (if (nI 0) ≤ (h1 66 a1.toNatClampNeg) then (X8_does__c30 F K F a1 (nI 0) a2 h1) else (K (-11 : Int32) h1))) else (K (-1 : Int32) h1)))
set_option maxHeartbeats 4000000 in
theorem c_X8_does_ {l : Launch} {d : Nat} {F : Nat} {a1 : Int32} {a2 : Int32} {h : AH} {K : Int32 → AH → Prop} (hd : 7 ≤ d) (hM : P_X8_does_ F a1 a2 h K) : Ct l yX8_does_ cX8_does_ 6 (some .int) (rmD d) [.ref 56, .int a1, .int a2] h (Qi K) := by
  have hk1 : 1 ≤ d := by omega
  have hk_X8_ask : 6 ≤ d - 1 := by omega
  have hk_X8_isList : 1 ≤ d - 1 := by omega
  refine Ct_ofBW (by decide) rfl (Nat.le_of_ble_eq_true rfl) ⟨rfl, rfl⟩ ?_
  show BW RX8 cX8_does_ 6 (some .int) l (rmD d) tb0 3 [.ref 56, .int a1, .int a2, .null, .null, .null] [] 0 h (Qi K)
  unfold P_X8_does_ at hM
  refine B_iload_n dX8_does__0 rfl ?_
  refine B_cS1i (c_X8_isList (d := d - 1) hk_X8_isList  hM) csS_X8_312 hp0 (rm_f hk1) (rm_l hk1 (by decide)) (Nat.le_of_ble_eq_true rfl) dX8_does__1 (fun r2 h1 hM => ?_)
  refine B_if_eq dX8_does__4 hM (tgt := 11) rfl (fun hM => ?_) (fun hM => ?_)
  · refine B_iconst dX8_does__11 k_ic_m1 ?_
    exact B_iret ⟨_, rfl, hM⟩ trivial dX8_does__12
  · refine B_iload_n dX8_does__7 rfl ?_
    refine B_if_ge dX8_does__8 hM (tgt := 13) rfl (fun hM => ?_) (fun hM => ?_)
    · refine B_aload_n dX8_does__13 rfl ?_
      refine B_getR (sc_56) vc_8 (k := 25) (j := 66) rfl (by decide) inG8 ⟨rfl, rfl, rfl⟩ ww_fl_X8_43 dX8_does__14 ?_
      refine B_iload_n dX8_does__17 rfl ?_
      refine B_iald (sc_66) hM dX8_does__18 (fun hM => ?_)
      refine B_if_ge dX8_does__19 hM (tgt := 25) rfl (fun hM => ?_) (fun hM => ?_)
      · refine B_iconst dX8_does__25 k_ic_0 ?_
        refine B_istore_n dX8_does__26 (Nat.le_of_ble_eq_true rfl) ?_
        refine B_iload_n dX8_does__27 rfl ?_
        refine B_istore dX8_does__28 (Nat.le_of_ble_eq_true rfl) ?_
        exact B_wk (bw_X8_does__c30 hd  _ _ _ _ _ hM) (wk_1 (wk_1 (wk_0 (wk_1 (wk_1 (wk_0 wk_n))))))
      · refine B_bipush dX8_does__22 k_bi_m11 ?_
        exact B_iret ⟨_, rfl, hM⟩ trivial dX8_does__24
    · refine B_iconst dX8_does__11 k_ic_m1 ?_
      exact B_iret ⟨_, rfl, hM⟩ trivial dX8_does__12

def X8_into_c39 (F : Nat) (K : Int32 → AH → Prop) (n : Nat) : Int32 → Int32 → Int32 → Int32 → AH → Prop := Nat.rec (motive := fun _ => Int32 → Int32 → Int32 → Int32 → AH → Prop) (fun _ _ _ _ _ => False) (fun _ rc39 x1 x2 x3 x4 h => if (nI 30) ≤ x4 then (K x4 h) else (vp_in x2 3 ∧ (if ((h 66 x2.toNatClampNeg) - x4) ≤ x3 then (K x4 h) else (¬ (nI 5) = 0 ∧ (¬ (nI 5) = 0 ∧ (P_X8_at F (x4 / (nI 5)) x1 ((x4 - x4 / (nI 5) * (nI 5)) + (nI 1)) h (fun (r2 : Int32) (h1 : AH) => vp_in r2 441 ∧ (vp_in ((((nI 36) * x2) + x3) + x4) 108 ∧ ((fun (h3 : AH) => rc39 x1 x2 x3 (x4 + (nI 1)) h3) (up h1 67 ((((nI 36) * x2) + x3) + x4).toNatClampNeg (h1 57 r2.toNatClampNeg))))))))))) n
theorem X8_into_c39_s {F : Nat} {K : Int32 → AH → Prop} {n : Nat} {x1 : Int32} {x2 : Int32} {x3 : Int32} {x4 : Int32} {h : AH} : X8_into_c39 F K (n + 1) x1 x2 x3 x4 h = (if (nI 30) ≤ x4 then (K x4 h) else (vp_in x2 3 ∧ (if ((h 66 x2.toNatClampNeg) - x4) ≤ x3 then (K x4 h) else (¬ (nI 5) = 0 ∧ (¬ (nI 5) = 0 ∧ (P_X8_at F (x4 / (nI 5)) x1 ((x4 - x4 / (nI 5) * (nI 5)) + (nI 1)) h (fun (r2 : Int32) (h1 : AH) => vp_in r2 441 ∧ (vp_in ((((nI 36) * x2) + x3) + x4) 108 ∧ ((fun (h3 : AH) => (X8_into_c39 F K n) x1 x2 x3 (x4 + (nI 1)) h3) (up h1 67 ((((nI 36) * x2) + x3) + x4).toNatClampNeg (h1 57 r2.toNatClampNeg))))))))))) := rfl
set_option maxHeartbeats 4000000 in
theorem bw_X8_into_c39 {l : Launch} {d : Nat} {F : Nat} {K : Int32 → AH → Prop} (hd : 2 ≤ d) : ∀ (n : Nat) (x1 : Int32) (x2 : Int32) (x3 : Int32) (x4 : Int32) (h : AH), X8_into_c39 F K n x1 x2 x3 x4 h → BW RX8 cX8_into 5 (some .int) l (rmD d) tb0 3 [.ref 56, .int x1, .int x2, .int x3, .int x4] [] 39 h (Qi K) := by
  have hk1 : 1 ≤ d := by omega
  have hk_X8_at : 0 ≤ d - 1 := by omega
  have hk_X8_isList : 1 ≤ d - 1 := by omega
  have hk_X8_isThing : 1 ≤ d - 1 := by omega
  intro n
  induction n with
  | zero =>
    intro x1 x2 x3 x4 h hM
    exact hM.elim
  | succ n hr39 =>
    intro x1 x2 x3 x4 h hM
    rw [X8_into_c39_s] at hM
    refine B_iload dX8_into_39 rfl ?_
    refine B_bipush dX8_into_41 k_bi_30 ?_
    refine B_icmp_ge dX8_into_43 hM (tgt := 98) rfl (fun hM => ?_) (fun hM => ?_)
    · refine B_iload dX8_into_98 rfl ?_
      exact B_iret ⟨_, rfl, hM⟩ trivial dX8_into_100
    · refine B_iload_n dX8_into_46 rfl ?_
      refine B_aload_n dX8_into_47 rfl ?_
      refine B_getR (sc_56) vc_8 (k := 25) (j := 66) rfl (by decide) inG8 ⟨rfl, rfl, rfl⟩ ww_fl_X8_43 dX8_into_48 ?_
      refine B_iload_n dX8_into_51 rfl ?_
      refine B_iald (sc_66) hM dX8_into_52 (fun hM => ?_)
      refine B_iload dX8_into_53 rfl ?_
      refine B_isub dX8_into_55 ?_
      refine B_icmp_ge dX8_into_56 hM (tgt := 98) rfl (fun hM => ?_) (fun hM => ?_)
      · refine B_iload dX8_into_98 rfl ?_
        exact B_iret ⟨_, rfl, hM⟩ trivial dX8_into_100
      · refine B_aload_n dX8_into_59 rfl ?_
        refine B_getR (sc_56) vc_8 (k := 26) (j := 67) rfl (by decide) inG8 ⟨rfl, rfl, rfl⟩ ww_fl_X8_46 dX8_into_60 ?_
        refine B_bipush dX8_into_63 k_bi_36 ?_
        refine B_iload_n dX8_into_65 rfl ?_
        refine B_imul dX8_into_66 ?_
        refine B_iload_n dX8_into_67 rfl ?_
        refine B_iadd dX8_into_68 ?_
        refine B_iload dX8_into_69 rfl ?_
        refine B_iadd dX8_into_71 ?_
        refine B_aload_n dX8_into_72 rfl ?_
        refine B_getR (sc_56) vc_8 (k := 1) (j := 57) rfl (by decide) inG8 ⟨rfl, rfl, rfl⟩ ww_fl_X8_15 dX8_into_73 ?_
        refine B_iload dX8_into_76 rfl ?_
        refine B_iconst dX8_into_78 k_ic_5 ?_
        refine B_idiv dX8_into_79 hM (fun hM => ?_)
        refine B_iload_n dX8_into_80 rfl ?_
        refine B_iload dX8_into_81 rfl ?_
        refine B_iconst dX8_into_83 k_ic_5 ?_
        refine B_irem dX8_into_84 hM (fun hM => ?_)
        refine B_iconst dX8_into_85 k_ic_1 ?_
        refine B_iadd dX8_into_86 ?_
        refine B_cS3i (c_X8_at (d := d - 1) hk_X8_at  hM) csS_X8_84 hp0 (rm_f hk1) (rm_l hk1 (by decide)) (Nat.le_of_ble_eq_true rfl) dX8_into_87 (fun r2 h1 hM => ?_)
        refine B_iald (sc_57) hM dX8_into_90 (fun hM => ?_)
        refine B_iast (sc_67) hM dX8_into_91 (fun hM => ?_)
        refine B_iinc dX8_into_92 rfl k_ic_1 (Nat.le_of_ble_eq_true rfl) ?_
        refine B_goto (tgt := 39) dX8_into_95 rfl ?_
        exact B_wk (hr39 _ _ _ _ _ hM) (wk_1 (wk_1 (wk_1 (wk_1 (wk_1 wk_n)))))
def P_X8_into (F : Nat) (a1 : Int32) (a2 : Int32) (a3 : Int32) (h : AH) (K : Int32 → AH → Prop) : Prop := P_X8_isThing F a1 h (fun (r2 : Int32) (h1 : AH) => if r2 = (nI 0) then (K (-1 : Int32) h1) else (P_X8_isList F a2 h1 (fun (r4 : Int32) (h3 : AH) => if ¬ r4 = (nI 0) then (vp_in a2 3 ∧ (if (nI 0) ≤ (h3 66 a2.toNatClampNeg) then (if (nI 0) ≤ a3 then (X8_into_c39 F K F a1 a2 a3 (nI 0) h3) else (K (-13 : Int32) h3)) else (K (-11 : Int32) h3))) else (K (-1 : Int32) h3))))
set_option maxHeartbeats 4000000 in
theorem c_X8_into {l : Launch} {d : Nat} {F : Nat} {a1 : Int32} {a2 : Int32} {a3 : Int32} {h : AH} {K : Int32 → AH → Prop} (hd : 2 ≤ d) (hM : P_X8_into F a1 a2 a3 h K) : Ct l yX8_into cX8_into 5 (some .int) (rmD d) [.ref 56, .int a1, .int a2, .int a3] h (Qi K) := by
  have hk1 : 1 ≤ d := by omega
  have hk_X8_at : 0 ≤ d - 1 := by omega
  have hk_X8_isList : 1 ≤ d - 1 := by omega
  have hk_X8_isThing : 1 ≤ d - 1 := by omega
  refine Ct_ofBW (by decide) rfl (Nat.le_of_ble_eq_true rfl) ⟨rfl, rfl⟩ ?_
  show BW RX8 cX8_into 5 (some .int) l (rmD d) tb0 3 [.ref 56, .int a1, .int a2, .int a3, .null] [] 0 h (Qi K)
  unfold P_X8_into at hM
  refine B_aload_n dX8_into_0 rfl ?_
  refine B_iload_n dX8_into_1 rfl ?_
  refine B_cV1i (c_X8_isThing (d := d - 1) hk_X8_isThing  hM) csV_X8_70 (sc_56) vc_8 rfl hp0 (rm_f hk1) (rm_l hk1 (by decide)) (Nat.le_of_ble_eq_true rfl) dX8_into_2 (fun r2 h1 hM => ?_)
  refine B_if_eq dX8_into_5 hM (tgt := 15) rfl (fun hM => ?_) (fun hM => ?_)
  · refine B_iconst dX8_into_15 k_ic_m1 ?_
    exact B_iret ⟨_, rfl, hM⟩ trivial dX8_into_16
  · refine B_iload_n dX8_into_8 rfl ?_
    refine B_cS1i (c_X8_isList (d := d - 1) hk_X8_isList  hM) csS_X8_312 hp0 (rm_f hk1) (rm_l hk1 (by decide)) (Nat.le_of_ble_eq_true rfl) dX8_into_9 (fun r4 h3 hM => ?_)
    refine B_if_ne dX8_into_12 hM (tgt := 17) rfl (fun hM => ?_) (fun hM => ?_)
    · refine B_aload_n dX8_into_17 rfl ?_
      refine B_getR (sc_56) vc_8 (k := 25) (j := 66) rfl (by decide) inG8 ⟨rfl, rfl, rfl⟩ ww_fl_X8_43 dX8_into_18 ?_
      refine B_iload_n dX8_into_21 rfl ?_
      refine B_iald (sc_66) hM dX8_into_22 (fun hM => ?_)
      refine B_if_ge dX8_into_23 hM (tgt := 29) rfl (fun hM => ?_) (fun hM => ?_)
      · refine B_iload_n dX8_into_29 rfl ?_
        refine B_if_ge dX8_into_30 hM (tgt := 36) rfl (fun hM => ?_) (fun hM => ?_)
        · refine B_iconst dX8_into_36 k_ic_0 ?_
          refine B_istore dX8_into_37 (Nat.le_of_ble_eq_true rfl) ?_
          exact B_wk (bw_X8_into_c39 hd  _ _ _ _ _ _ hM) (wk_1 (wk_1 (wk_1 (wk_1 (wk_1 wk_n)))))
        · refine B_bipush dX8_into_33 k_bi_m13 ?_
          exact B_iret ⟨_, rfl, hM⟩ trivial dX8_into_35
      · refine B_bipush dX8_into_26 k_bi_m11 ?_
        exact B_iret ⟨_, rfl, hM⟩ trivial dX8_into_28
    · refine B_iconst dX8_into_15 k_ic_m1 ?_
      exact B_iret ⟨_, rfl, hM⟩ trivial dX8_into_16

def P_X8_image (F : Nat) (h : AH) (K : Int32 → AH → Prop) : Prop := P_X8_copies F 57 68 h (fun (h1 : AH) => (fun (h2 : AH) => vp_in (nI 0) 441 ∧ (K (h2 57 (nI 0).toNatClampNeg) h2)) (up h1 56 28 (nI 1)))
set_option maxHeartbeats 4000000 in
theorem c_X8_image {l : Launch} {d : Nat} {F : Nat} {h : AH} {K : Int32 → AH → Prop} (hd : 1 ≤ d) (hM : P_X8_image F h K) : Ct l yX8_image cX8_image 1 (some .int) (rmD d) [.ref 56] h (Qi K) := by
  have hk1 : 1 ≤ d := by omega
  have hk_X8_copies : 0 ≤ d - 1 := by omega
  refine Ct_ofBW (by decide) rfl (Nat.le_of_ble_eq_true rfl) ⟨rfl, rfl⟩ ?_
  show BW RX8 cX8_image 1 (some .int) l (rmD d) tb0 3 [.ref 56] [] 0 h (Qi K)
  unfold P_X8_image at hM
  refine B_aload_n dX8_image_0 rfl ?_
  refine B_getR (sc_56) vc_8 (k := 1) (j := 57) rfl (by decide) inG8 ⟨rfl, rfl, rfl⟩ ww_fl_X8_15 dX8_image_1 ?_
  refine B_aload_n dX8_image_4 rfl ?_
  refine B_getR (sc_56) vc_8 (k := 27) (j := 68) rfl (by decide) inG8 ⟨rfl, rfl, rfl⟩ ww_fl_X8_49 dX8_image_5 ?_
  refine B_cS2v (c_X8_copies (d := d - 1) hk_X8_copies sc_57 sc_68 hM) csS_X8_52 hp0 (rm_f hk1) (rm_l hk1 (by decide)) (Nat.le_of_ble_eq_true rfl) dX8_image_8 (fun h1 hM => ?_)
  refine B_aload_n dX8_image_11 rfl ?_
  refine B_iconst dX8_image_12 k_ic_1 ?_
  refine B_putI (fits_Z zB_1) (sc_56) vc_8 (k := 28) rfl (by decide) inG8 ⟨rfl, rfl, rfl⟩ tyX8 tyX8_ok nmX8 rfl rfl ww_fl_X8_317 dX8_image_13 ?_
  refine B_aload_n dX8_image_16 rfl ?_
  refine B_getR (sc_56) vc_8 (k := 1) (j := 57) rfl (by decide) inG8 ⟨rfl, rfl, rfl⟩ ww_fl_X8_15 dX8_image_17 ?_
  refine B_iconst dX8_image_20 k_ic_0 ?_
  refine B_iald (sc_57) hM dX8_image_21 (fun hM => ?_)
  exact B_iret ⟨_, rfl, hM⟩ trivial dX8_image_22

def P_X8_back (F : Nat) (h : AH) (K : Int32 → AH → Prop) : Prop := if ¬ (h 56 28) = (nI 0) then (P_X8_copies F 68 57 h (fun (h1 : AH) => vp_in (nI 0) 441 ∧ (K (h1 57 (nI 0).toNatClampNeg) h1))) else (K (-5 : Int32) h)
set_option maxHeartbeats 4000000 in
theorem c_X8_back {l : Launch} {d : Nat} {F : Nat} {h : AH} {K : Int32 → AH → Prop} (hd : 1 ≤ d) (hM : P_X8_back F h K) : Ct l yX8_back cX8_back 1 (some .int) (rmD d) [.ref 56] h (Qi K) := by
  have hk1 : 1 ≤ d := by omega
  have hk_X8_copies : 0 ≤ d - 1 := by omega
  refine Ct_ofBW (by decide) rfl (Nat.le_of_ble_eq_true rfl) ⟨rfl, rfl⟩ ?_
  show BW RX8 cX8_back 1 (some .int) l (rmD d) tb0 3 [.ref 56] [] 0 h (Qi K)
  unfold P_X8_back at hM
  refine B_aload_n dX8_back_0 rfl ?_
  refine B_getI (sc_56) vc_8 (k := 28) rfl (by decide) inG8 ⟨rfl, rfl, rfl⟩ ww_fl_X8_317 dX8_back_1 ?_
  refine B_if_ne dX8_back_4 hM (tgt := 10) rfl (fun hM => ?_) (fun hM => ?_)
  · refine B_aload_n dX8_back_10 rfl ?_
    refine B_getR (sc_56) vc_8 (k := 27) (j := 68) rfl (by decide) inG8 ⟨rfl, rfl, rfl⟩ ww_fl_X8_49 dX8_back_11 ?_
    refine B_aload_n dX8_back_14 rfl ?_
    refine B_getR (sc_56) vc_8 (k := 1) (j := 57) rfl (by decide) inG8 ⟨rfl, rfl, rfl⟩ ww_fl_X8_15 dX8_back_15 ?_
    refine B_cS2v (c_X8_copies (d := d - 1) hk_X8_copies sc_68 sc_57 hM) csS_X8_52 hp0 (rm_f hk1) (rm_l hk1 (by decide)) (Nat.le_of_ble_eq_true rfl) dX8_back_18 (fun h1 hM => ?_)
    refine B_aload_n dX8_back_21 rfl ?_
    refine B_getR (sc_56) vc_8 (k := 1) (j := 57) rfl (by decide) inG8 ⟨rfl, rfl, rfl⟩ ww_fl_X8_15 dX8_back_22 ?_
    refine B_iconst dX8_back_25 k_ic_0 ?_
    refine B_iald (sc_57) hM dX8_back_26 (fun hM => ?_)
    exact B_iret ⟨_, rfl, hM⟩ trivial dX8_back_27
  · refine B_bipush dX8_back_7 k_bi_m5 ?_
    exact B_iret ⟨_, rfl, hM⟩ trivial dX8_back_9
