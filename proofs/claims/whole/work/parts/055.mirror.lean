def X8_serves_c7 (F : Nat) (K : Int32 → AH → Prop) (n : Nat) : Int32 → Int32 → AH → Prop := Nat.rec (motive := fun _ => Int32 → Int32 → AH → Prop) (fun _ _ _ => False) (fun _ rc7 x1 x2 h => if x2 = (-1 : Int32) then (K x1 h) else (vp_in ((nI 26) + ((nI 3) * x2)) 441 ∧ (vp_in (((nI 26) + ((nI 3) * x2)) + (nI 1)) 441 ∧ (vp_in (((nI 26) + ((nI 3) * x2)) + (nI 2)) 441 ∧ (P_X8_leavesLine F x2 h (fun (h1 : AH) => P_X8_grants F (h 57 ((nI 26) + ((nI 3) * x2)).toNatClampNeg) (h 57 (((nI 26) + ((nI 3) * x2)) + (nI 1)).toNatClampNeg) (h 57 (((nI 26) + ((nI 3) * x2)) + (nI 2)).toNatClampNeg) h1 (fun (h2 : AH) => P_X8_nextServed F h2 (fun (r4 : Int32) (h3 : AH) => rc7 (x1 + (nI 1)) r4 h3)))))))) n
theorem X8_serves_c7_s {F : Nat} {K : Int32 → AH → Prop} {n : Nat} {x1 : Int32} {x2 : Int32} {h : AH} : X8_serves_c7 F K (n + 1) x1 x2 h = (if x2 = (-1 : Int32) then (K x1 h) else (vp_in ((nI 26) + ((nI 3) * x2)) 441 ∧ (vp_in (((nI 26) + ((nI 3) * x2)) + (nI 1)) 441 ∧ (vp_in (((nI 26) + ((nI 3) * x2)) + (nI 2)) 441 ∧ (P_X8_leavesLine F x2 h (fun (h1 : AH) => P_X8_grants F (h 57 ((nI 26) + ((nI 3) * x2)).toNatClampNeg) (h 57 (((nI 26) + ((nI 3) * x2)) + (nI 1)).toNatClampNeg) (h 57 (((nI 26) + ((nI 3) * x2)) + (nI 2)).toNatClampNeg) h1 (fun (h2 : AH) => P_X8_nextServed F h2 (fun (r4 : Int32) (h3 : AH) => (X8_serves_c7 F K n) (x1 + (nI 1)) r4 h3)))))))) := rfl
set_option maxHeartbeats 4000000 in
theorem bw_X8_serves_c7 {l : Launch} {d : Nat} {F : Nat} {K : Int32 → AH → Prop} (hd : 7 ≤ d) : ∀ (n : Nat) (x1 : Int32) (x2 : Int32) (h : AH), X8_serves_c7 F K n x1 x2 h → BW RX8 cX8_serves 6 (some .int) l (rmD d) tb0 3 [.ref 56, .int x1, .int x2, .null, .null, .null] [] 7 h (Qi K) := by
  have hk1 : 1 ≤ d := by omega
  have hk_X8_grants : 2 ≤ d - 1 := by omega
  have hk_X8_leavesLine : 0 ≤ d - 1 := by omega
  have hk_X8_nextServed : 6 ≤ d - 1 := by omega
  intro n
  induction n with
  | zero =>
    intro x1 x2 h hM
    exact hM.elim
  | succ n hr7 =>
    intro x1 x2 h hM
    rw [X8_serves_c7_s] at hM
    refine B_iload_n dX8_serves_7 rfl ?_
    refine B_iconst dX8_serves_8 k_ic_m1 ?_
    refine B_icmp_eq dX8_serves_9 hM (tgt := 79) rfl (fun hM => ?_) (fun hM => ?_)
    · refine B_iload_n dX8_serves_79 rfl ?_
      exact B_iret ⟨_, rfl, hM⟩ trivial dX8_serves_80
    · refine B_aload_n dX8_serves_12 rfl ?_
      refine B_getR (sc_56) vc_8 (k := 1) (j := 57) rfl (by decide) inG8 ⟨rfl, rfl, rfl⟩ ww_fl_X8_15 dX8_serves_13 ?_
      refine B_bipush dX8_serves_16 k_bi_26 ?_
      refine B_iconst dX8_serves_18 k_ic_3 ?_
      refine B_iload_n dX8_serves_19 rfl ?_
      refine B_imul dX8_serves_20 ?_
      refine B_iadd dX8_serves_21 ?_
      refine B_iald (sc_57) hM dX8_serves_22 (fun hM => ?_)
      refine B_istore_n dX8_serves_23 (Nat.le_of_ble_eq_true rfl) ?_
      refine B_aload_n dX8_serves_24 rfl ?_
      refine B_getR (sc_56) vc_8 (k := 1) (j := 57) rfl (by decide) inG8 ⟨rfl, rfl, rfl⟩ ww_fl_X8_15 dX8_serves_25 ?_
      refine B_bipush dX8_serves_28 k_bi_26 ?_
      refine B_iconst dX8_serves_30 k_ic_3 ?_
      refine B_iload_n dX8_serves_31 rfl ?_
      refine B_imul dX8_serves_32 ?_
      refine B_iadd dX8_serves_33 ?_
      refine B_iconst dX8_serves_34 k_ic_1 ?_
      refine B_iadd dX8_serves_35 ?_
      refine B_iald (sc_57) hM dX8_serves_36 (fun hM => ?_)
      refine B_istore dX8_serves_37 (Nat.le_of_ble_eq_true rfl) ?_
      refine B_aload_n dX8_serves_39 rfl ?_
      refine B_getR (sc_56) vc_8 (k := 1) (j := 57) rfl (by decide) inG8 ⟨rfl, rfl, rfl⟩ ww_fl_X8_15 dX8_serves_40 ?_
      refine B_bipush dX8_serves_43 k_bi_26 ?_
      refine B_iconst dX8_serves_45 k_ic_3 ?_
      refine B_iload_n dX8_serves_46 rfl ?_
      refine B_imul dX8_serves_47 ?_
      refine B_iadd dX8_serves_48 ?_
      refine B_iconst dX8_serves_49 k_ic_2 ?_
      refine B_iadd dX8_serves_50 ?_
      refine B_iald (sc_57) hM dX8_serves_51 (fun hM => ?_)
      refine B_istore dX8_serves_52 (Nat.le_of_ble_eq_true rfl) ?_
      refine B_aload_n dX8_serves_54 rfl ?_
      refine B_iload_n dX8_serves_55 rfl ?_
      refine B_cV1v (c_X8_leavesLine (d := d - 1) hk_X8_leavesLine  hM) csV_X8_133 (sc_56) vc_8 rfl hp0 (rm_f hk1) (rm_l hk1 (by decide)) (Nat.le_of_ble_eq_true rfl) dX8_serves_56 (fun h1 hM => ?_)
      refine B_aload_n dX8_serves_59 rfl ?_
      refine B_iload_n dX8_serves_60 rfl ?_
      refine B_iload dX8_serves_61 rfl ?_
      refine B_iload dX8_serves_63 rfl ?_
      refine B_cV3v (c_X8_grants (d := d - 1) hk_X8_grants  hM) csV_X8_137 (sc_56) vc_8 rfl hp0 (rm_f hk1) (rm_l hk1 (by decide)) (Nat.le_of_ble_eq_true rfl) dX8_serves_65 (fun h2 hM => ?_)
      refine B_iinc dX8_serves_68 rfl k_ic_1 (Nat.le_of_ble_eq_true rfl) ?_
      refine B_aload_n dX8_serves_71 rfl ?_
      refine B_cV0i (c_X8_nextServed (d := d - 1) hk_X8_nextServed  hM) csV_X8_129 (sc_56) vc_8 rfl hp0 (rm_f hk1) (rm_l hk1 (by decide)) (Nat.le_of_ble_eq_true rfl) dX8_serves_72 (fun r4 h3 hM => ?_)
      refine B_istore_n dX8_serves_75 (Nat.le_of_ble_eq_true rfl) ?_
      refine B_goto (tgt := 7) dX8_serves_76 rfl ?_
      exact B_wk (hr7 _ _ _ hM) (wk_1 (wk_1 (wk_1 (wk_0 (wk_0 (wk_0 wk_n))))))
def P_X8_serves (F : Nat) (h : AH) (K : Int32 → AH → Prop) : Prop := P_X8_nextServed F h (fun (r2 : Int32) (h1 : AH) => X8_serves_c7 F K F (nI 0) r2 h1)
set_option maxHeartbeats 4000000 in
theorem c_X8_serves {l : Launch} {d : Nat} {F : Nat} {h : AH} {K : Int32 → AH → Prop} (hd : 7 ≤ d) (hM : P_X8_serves F h K) : Ct l yX8_serves cX8_serves 6 (some .int) (rmD d) [.ref 56] h (Qi K) := by
  have hk1 : 1 ≤ d := by omega
  have hk_X8_grants : 2 ≤ d - 1 := by omega
  have hk_X8_leavesLine : 0 ≤ d - 1 := by omega
  have hk_X8_nextServed : 6 ≤ d - 1 := by omega
  refine Ct_ofBW (by decide) rfl (Nat.le_of_ble_eq_true rfl) ⟨rfl, rfl⟩ ?_
  show BW RX8 cX8_serves 6 (some .int) l (rmD d) tb0 3 [.ref 56, .null, .null, .null, .null, .null] [] 0 h (Qi K)
  unfold P_X8_serves at hM
  refine B_iconst dX8_serves_0 k_ic_0 ?_
  refine B_istore_n dX8_serves_1 (Nat.le_of_ble_eq_true rfl) ?_
  refine B_aload_n dX8_serves_2 rfl ?_
  refine B_cV0i (c_X8_nextServed (d := d - 1) hk_X8_nextServed  hM) csV_X8_129 (sc_56) vc_8 rfl hp0 (rm_f hk1) (rm_l hk1 (by decide)) (Nat.le_of_ble_eq_true rfl) dX8_serves_3 (fun r2 h1 hM => ?_)
  refine B_istore_n dX8_serves_6 (Nat.le_of_ble_eq_true rfl) ?_
  exact B_wk (bw_X8_serves_c7 hd  _ _ _ _ hM) (wk_1 (wk_1 (wk_1 (wk_0 (wk_0 (wk_0 wk_n))))))

def X8_isOtherRaise_c61 (F : Nat) (rc2 : Int32 → Int32 → Int32 → AH → Prop) (K : Int32 → AH → Prop) (x1 : Int32) (x2 : Int32) (x3 : Int32) (h : AH) : Prop := rc2 x1 x2 (x3 + (nI 1)) h
set_option maxHeartbeats 4000000 in
theorem bw_X8_isOtherRaise_c61 {l : Launch} {d : Nat} {F : Nat} {rc2 : Int32 → Int32 → Int32 → AH → Prop} {K : Int32 → AH → Prop} {x1 : Int32} {x2 : Int32} {x3 : Int32} {h : AH} (hd : 2 ≤ d) (hr2 : ∀ (x1 : Int32) (x2 : Int32) (x3 : Int32) (h : AH), rc2 x1 x2 x3 h → BW RX8 cX8_isOtherRaise 5 (some .boolean) l (rmD d) tb0 3 [.ref 56, .int x1, .int x2, .int x3, .null] [] 2 h (Qi K)) (hM : X8_isOtherRaise_c61 F rc2 K x1 x2 x3 h) : BW RX8 cX8_isOtherRaise 5 (some .boolean) l (rmD d) tb0 3 [.ref 56, .int x1, .int x2, .int x3, .null] [] 61 h (Qi K) := by
  have hk1 : 1 ≤ d := by omega
  have hk_X8_isRaise : 1 ≤ d - 1 := by omega
  unfold X8_isOtherRaise_c61 at hM
  refine B_iinc dX8_isOtherRaise_61 rfl k_ic_1 (Nat.le_of_ble_eq_true rfl) ?_
  refine B_goto (tgt := 2) dX8_isOtherRaise_64 rfl ?_
  exact B_wk (hr2 _ _ _ _ hM) (wk_1 (wk_1 (wk_1 (wk_1 (wk_0 wk_n)))))
def X8_isOtherRaise_c2 (F : Nat) (K : Int32 → AH → Prop) (n : Nat) : Int32 → Int32 → Int32 → AH → Prop := Nat.rec (motive := fun _ => Int32 → Int32 → Int32 → AH → Prop) (fun _ _ _ _ => False) (fun _ rc2 x1 x2 x3 h => vp_in (nI 25) 441 ∧ (if (h 57 (nI 25).toNatClampNeg) ≤ x3 then (K (nI 0) h) else (vp_in ((nI 26) + ((nI 3) * x3)) 441 ∧ (if (h 57 ((nI 26) + ((nI 3) * x3)).toNatClampNeg) = x1 then (X8_isOtherRaise_c61 F rc2 K x1 x2 x3 h) else (vp_in (((nI 26) + ((nI 3) * x3)) + (nI 1)) 441 ∧ (if ¬ (h 57 (((nI 26) + ((nI 3) * x3)) + (nI 1)).toNatClampNeg) = x2 then (X8_isOtherRaise_c61 F rc2 K x1 x2 x3 h) else (P_X8_isRaise F (h 57 ((nI 26) + ((nI 3) * x3)).toNatClampNeg) x2 h (fun (r2 : Int32) (h1 : AH) => if r2 = (nI 0) then (X8_isOtherRaise_c61 F rc2 K x1 x2 x3 h1) else (K (nI 1) h1))))))))) n
theorem X8_isOtherRaise_c2_s {F : Nat} {K : Int32 → AH → Prop} {n : Nat} {x1 : Int32} {x2 : Int32} {x3 : Int32} {h : AH} : X8_isOtherRaise_c2 F K (n + 1) x1 x2 x3 h = (vp_in (nI 25) 441 ∧ (if (h 57 (nI 25).toNatClampNeg) ≤ x3 then (K (nI 0) h) else (vp_in ((nI 26) + ((nI 3) * x3)) 441 ∧ (if (h 57 ((nI 26) + ((nI 3) * x3)).toNatClampNeg) = x1 then (X8_isOtherRaise_c61 F (X8_isOtherRaise_c2 F K n) K x1 x2 x3 h) else (vp_in (((nI 26) + ((nI 3) * x3)) + (nI 1)) 441 ∧ (if ¬ (h 57 (((nI 26) + ((nI 3) * x3)) + (nI 1)).toNatClampNeg) = x2 then (X8_isOtherRaise_c61 F (X8_isOtherRaise_c2 F K n) K x1 x2 x3 h) else (P_X8_isRaise F (h 57 ((nI 26) + ((nI 3) * x3)).toNatClampNeg) x2 h (fun (r2 : Int32) (h1 : AH) => if r2 = (nI 0) then (X8_isOtherRaise_c61 F (X8_isOtherRaise_c2 F K n) K x1 x2 x3 h1) else (K (nI 1) h1))))))))) := rfl
set_option maxHeartbeats 4000000 in
theorem bw_X8_isOtherRaise_c2 {l : Launch} {d : Nat} {F : Nat} {K : Int32 → AH → Prop} (hd : 2 ≤ d) : ∀ (n : Nat) (x1 : Int32) (x2 : Int32) (x3 : Int32) (h : AH), X8_isOtherRaise_c2 F K n x1 x2 x3 h → BW RX8 cX8_isOtherRaise 5 (some .boolean) l (rmD d) tb0 3 [.ref 56, .int x1, .int x2, .int x3, .null] [] 2 h (Qi K) := by
  have hk1 : 1 ≤ d := by omega
  have hk_X8_isRaise : 1 ≤ d - 1 := by omega
  intro n
  induction n with
  | zero =>
    intro x1 x2 x3 h hM
    exact hM.elim
  | succ n hr2 =>
    intro x1 x2 x3 h hM
    rw [X8_isOtherRaise_c2_s] at hM
    refine B_iload_n dX8_isOtherRaise_2 rfl ?_
    refine B_aload_n dX8_isOtherRaise_3 rfl ?_
    refine B_getR (sc_56) vc_8 (k := 1) (j := 57) rfl (by decide) inG8 ⟨rfl, rfl, rfl⟩ ww_fl_X8_15 dX8_isOtherRaise_4 ?_
    refine B_bipush dX8_isOtherRaise_7 k_bi_25 ?_
    refine B_iald (sc_57) hM dX8_isOtherRaise_9 (fun hM => ?_)
    refine B_icmp_ge dX8_isOtherRaise_10 hM (tgt := 67) rfl (fun hM => ?_) (fun hM => ?_)
    · refine B_iconst dX8_isOtherRaise_67 k_ic_0 ?_
      exact B_iret ⟨_, rfl, hM⟩ zB_0 dX8_isOtherRaise_68
    · refine B_aload_n dX8_isOtherRaise_13 rfl ?_
      refine B_getR (sc_56) vc_8 (k := 1) (j := 57) rfl (by decide) inG8 ⟨rfl, rfl, rfl⟩ ww_fl_X8_15 dX8_isOtherRaise_14 ?_
      refine B_bipush dX8_isOtherRaise_17 k_bi_26 ?_
      refine B_iconst dX8_isOtherRaise_19 k_ic_3 ?_
      refine B_iload_n dX8_isOtherRaise_20 rfl ?_
      refine B_imul dX8_isOtherRaise_21 ?_
      refine B_iadd dX8_isOtherRaise_22 ?_
      refine B_iald (sc_57) hM dX8_isOtherRaise_23 (fun hM => ?_)
      refine B_istore dX8_isOtherRaise_24 (Nat.le_of_ble_eq_true rfl) ?_
      refine B_iload dX8_isOtherRaise_26 rfl ?_
      refine B_iload_n dX8_isOtherRaise_28 rfl ?_
      refine B_icmp_eq dX8_isOtherRaise_29 hM (tgt := 61) rfl (fun hM => ?_) (fun hM => ?_)
      · exact B_wk (bw_X8_isOtherRaise_c61 hd hr2 hM) (wk_1 (wk_1 (wk_1 (wk_1 (wk_0 wk_n)))))
      · refine B_aload_n dX8_isOtherRaise_32 rfl ?_
        refine B_getR (sc_56) vc_8 (k := 1) (j := 57) rfl (by decide) inG8 ⟨rfl, rfl, rfl⟩ ww_fl_X8_15 dX8_isOtherRaise_33 ?_
        refine B_bipush dX8_isOtherRaise_36 k_bi_26 ?_
        refine B_iconst dX8_isOtherRaise_38 k_ic_3 ?_
        refine B_iload_n dX8_isOtherRaise_39 rfl ?_
        refine B_imul dX8_isOtherRaise_40 ?_
        refine B_iadd dX8_isOtherRaise_41 ?_
        refine B_iconst dX8_isOtherRaise_42 k_ic_1 ?_
        refine B_iadd dX8_isOtherRaise_43 ?_
        refine B_iald (sc_57) hM dX8_isOtherRaise_44 (fun hM => ?_)
        refine B_iload_n dX8_isOtherRaise_45 rfl ?_
        refine B_icmp_ne dX8_isOtherRaise_46 hM (tgt := 61) rfl (fun hM => ?_) (fun hM => ?_)
        · exact B_wk (bw_X8_isOtherRaise_c61 hd hr2 hM) (wk_1 (wk_1 (wk_1 (wk_1 (wk_0 wk_n)))))
        · refine B_aload_n dX8_isOtherRaise_49 rfl ?_
          refine B_iload dX8_isOtherRaise_50 rfl ?_
          refine B_iload_n dX8_isOtherRaise_52 rfl ?_
          refine B_cV2i (c_X8_isRaise (d := d - 1) hk_X8_isRaise  hM) csV_X8_115 (sc_56) vc_8 rfl hp0 (rm_f hk1) (rm_l hk1 (by decide)) (Nat.le_of_ble_eq_true rfl) dX8_isOtherRaise_53 (fun r2 h1 hM => ?_)
          refine B_if_eq dX8_isOtherRaise_56 hM (tgt := 61) rfl (fun hM => ?_) (fun hM => ?_)
          · exact B_wk (bw_X8_isOtherRaise_c61 hd hr2 hM) (wk_1 (wk_1 (wk_1 (wk_1 (wk_0 wk_n)))))
          · refine B_iconst dX8_isOtherRaise_59 k_ic_1 ?_
            exact B_iret ⟨_, rfl, hM⟩ zB_1 dX8_isOtherRaise_60
def P_X8_isOtherRaise (F : Nat) (a1 : Int32) (a2 : Int32) (h : AH) (K : Int32 → AH → Prop) : Prop := X8_isOtherRaise_c2 F K F a1 a2 (nI 0) h
set_option maxHeartbeats 4000000 in
theorem c_X8_isOtherRaise {l : Launch} {d : Nat} {F : Nat} {a1 : Int32} {a2 : Int32} {h : AH} {K : Int32 → AH → Prop} (hd : 2 ≤ d) (hM : P_X8_isOtherRaise F a1 a2 h K) : Ct l yX8_isOtherRaise cX8_isOtherRaise 5 (some .boolean) (rmD d) [.ref 56, .int a1, .int a2] h (Qi K) := by
  have hk1 : 1 ≤ d := by omega
  have hk_X8_isRaise : 1 ≤ d - 1 := by omega
  refine Ct_ofBW (by decide) rfl (Nat.le_of_ble_eq_true rfl) ⟨rfl, rfl⟩ ?_
  show BW RX8 cX8_isOtherRaise 5 (some .boolean) l (rmD d) tb0 3 [.ref 56, .int a1, .int a2, .null, .null] [] 0 h (Qi K)
  unfold P_X8_isOtherRaise at hM
  refine B_iconst dX8_isOtherRaise_0 k_ic_0 ?_
  refine B_istore_n dX8_isOtherRaise_1 (Nat.le_of_ble_eq_true rfl) ?_
  exact B_wk (bw_X8_isOtherRaise_c2 hd  _ _ _ _ _ hM) (wk_1 (wk_1 (wk_1 (wk_1 (wk_0 wk_n)))))

def X8_ask_c63 (F : Nat) (K : Int32 → AH → Prop) (x1 : Int32) (x2 : Int32) (x3 : Int32) (h : AH) : Prop := vp_in (nI 25) 441 ∧ (vp_in ((nI 26) + ((nI 3) * (h 57 (nI 25).toNatClampNeg))) 441 ∧ ((fun (h1 : AH) => vp_in (((nI 26) + ((nI 3) * (h 57 (nI 25).toNatClampNeg))) + (nI 1)) 441 ∧ ((fun (h2 : AH) => vp_in (((nI 26) + ((nI 3) * (h 57 (nI 25).toNatClampNeg))) + (nI 2)) 441 ∧ ((fun (h3 : AH) => vp_in (nI 25) 441 ∧ (vp_in (nI 25) 441 ∧ ((fun (h4 : AH) => K (nI 0) h4) (up h3 57 (nI 25).toNatClampNeg ((h3 57 (nI 25).toNatClampNeg) + (nI 1)))))) (up h2 57 (((nI 26) + ((nI 3) * (h 57 (nI 25).toNatClampNeg))) + (nI 2)).toNatClampNeg x3))) (up h1 57 (((nI 26) + ((nI 3) * (h 57 (nI 25).toNatClampNeg))) + (nI 1)).toNatClampNeg x2))) (up h 57 ((nI 26) + ((nI 3) * (h 57 (nI 25).toNatClampNeg))).toNatClampNeg x1)))
set_option maxHeartbeats 4000000 in
theorem bw_X8_ask_c63 {l : Launch} {d : Nat} {F : Nat} {K : Int32 → AH → Prop} {x1 : Int32} {x2 : Int32} {x3 : Int32} {h : AH} (hd : 6 ≤ d) (hM : X8_ask_c63 F K x1 x2 x3 h) : BW RX8 cX8_ask 5 (some .int) l (rmD d) tb0 3 [.ref 56, .int x1, .int x2, .int x3, .null] [] 63 h (Qi K) := by
  have hk1 : 1 ≤ d := by omega
  have hk_X8_canBe : 5 ≤ d - 1 := by omega
  have hk_X8_grants : 2 ≤ d - 1 := by omega
  have hk_X8_isAsk : 2 ≤ d - 1 := by omega
  have hk_X8_isInLine : 1 ≤ d - 1 := by omega
  have hk_X8_isOtherRaise : 2 ≤ d - 1 := by omega
  have hk_X8_isRaise : 1 ≤ d - 1 := by omega
  unfold X8_ask_c63 at hM
  refine B_bipush dX8_ask_63 k_bi_26 ?_
  refine B_iconst dX8_ask_65 k_ic_3 ?_
  refine B_aload_n dX8_ask_66 rfl ?_
  refine B_getR (sc_56) vc_8 (k := 1) (j := 57) rfl (by decide) inG8 ⟨rfl, rfl, rfl⟩ ww_fl_X8_15 dX8_ask_67 ?_
  refine B_bipush dX8_ask_70 k_bi_25 ?_
  refine B_iald (sc_57) hM dX8_ask_72 (fun hM => ?_)
  refine B_imul dX8_ask_73 ?_
  refine B_iadd dX8_ask_74 ?_
  refine B_istore dX8_ask_75 (Nat.le_of_ble_eq_true rfl) ?_
  refine B_aload_n dX8_ask_77 rfl ?_
  refine B_getR (sc_56) vc_8 (k := 1) (j := 57) rfl (by decide) inG8 ⟨rfl, rfl, rfl⟩ ww_fl_X8_15 dX8_ask_78 ?_
  refine B_iload dX8_ask_81 rfl ?_
  refine B_iload_n dX8_ask_83 rfl ?_
  refine B_iast (sc_57) hM dX8_ask_84 (fun hM => ?_)
  refine B_aload_n dX8_ask_85 rfl ?_
  refine B_getR (sc_56) vc_8 (k := 1) (j := 57) rfl (by decide) inG8 ⟨rfl, rfl, rfl⟩ ww_fl_X8_15 dX8_ask_86 ?_
  refine B_iload dX8_ask_89 rfl ?_
  refine B_iconst dX8_ask_91 k_ic_1 ?_
  refine B_iadd dX8_ask_92 ?_
  refine B_iload_n dX8_ask_93 rfl ?_
  refine B_iast (sc_57) hM dX8_ask_94 (fun hM => ?_)
  refine B_aload_n dX8_ask_95 rfl ?_
  refine B_getR (sc_56) vc_8 (k := 1) (j := 57) rfl (by decide) inG8 ⟨rfl, rfl, rfl⟩ ww_fl_X8_15 dX8_ask_96 ?_
  refine B_iload dX8_ask_99 rfl ?_
  refine B_iconst dX8_ask_101 k_ic_2 ?_
  refine B_iadd dX8_ask_102 ?_
  refine B_iload_n dX8_ask_103 rfl ?_
  refine B_iast (sc_57) hM dX8_ask_104 (fun hM => ?_)
  refine B_aload_n dX8_ask_105 rfl ?_
  refine B_getR (sc_56) vc_8 (k := 1) (j := 57) rfl (by decide) inG8 ⟨rfl, rfl, rfl⟩ ww_fl_X8_15 dX8_ask_106 ?_
  refine B_bipush dX8_ask_109 k_bi_25 ?_
  refine B_dup2 dX8_ask_111 ?_
  refine B_iald (sc_57) hM dX8_ask_112 (fun hM => ?_)
  refine B_iconst dX8_ask_113 k_ic_1 ?_
  refine B_iadd dX8_ask_114 ?_
  refine B_iast (sc_57) hM dX8_ask_115 (fun hM => ?_)
  refine B_iconst dX8_ask_116 k_ic_0 ?_
  exact B_iret ⟨_, rfl, hM⟩ trivial dX8_ask_117
def P_X8_ask (F : Nat) (a1 : Int32) (a2 : Int32) (a3 : Int32) (h : AH) (K : Int32 → AH → Prop) : Prop := P_X8_isAsk F a1 a2 a3 h (fun (r2 : Int32) (h1 : AH) => if ¬ r2 = (nI 0) then (P_X8_isInLine F a1 h1 (fun (r4 : Int32) (h3 : AH) => if r4 = (nI 0) then (P_X8_canBe F a1 a2 a3 h3 (fun (r6 : Int32) (h5 : AH) => if r6 = (nI 0) then (P_X8_isRaise F a1 a2 h5 (fun (r8 : Int32) (h7 : AH) => if r8 = (nI 0) then (X8_ask_c63 F K a1 a2 a3 h7) else (P_X8_isOtherRaise F a1 a2 h7 (fun (r10 : Int32) (h9 : AH) => if r10 = (nI 0) then (X8_ask_c63 F K a1 a2 a3 h9) else (K (-2 : Int32) h9))))) else (P_X8_grants F a1 a2 a3 h5 (fun (h11 : AH) => K (nI 1) h11)))) else (K (-5 : Int32) h3))) else (K (-1 : Int32) h1))
set_option maxHeartbeats 4000000 in
theorem c_X8_ask {l : Launch} {d : Nat} {F : Nat} {a1 : Int32} {a2 : Int32} {a3 : Int32} {h : AH} {K : Int32 → AH → Prop} (hd : 6 ≤ d) (hM : P_X8_ask F a1 a2 a3 h K) : Ct l yX8_ask cX8_ask 5 (some .int) (rmD d) [.ref 56, .int a1, .int a2, .int a3] h (Qi K) := by
  have hk1 : 1 ≤ d := by omega
  have hk_X8_canBe : 5 ≤ d - 1 := by omega
  have hk_X8_grants : 2 ≤ d - 1 := by omega
  have hk_X8_isAsk : 2 ≤ d - 1 := by omega
  have hk_X8_isInLine : 1 ≤ d - 1 := by omega
  have hk_X8_isOtherRaise : 2 ≤ d - 1 := by omega
  have hk_X8_isRaise : 1 ≤ d - 1 := by omega
  refine Ct_ofBW (by decide) rfl (Nat.le_of_ble_eq_true rfl) ⟨rfl, rfl⟩ ?_
  show BW RX8 cX8_ask 5 (some .int) l (rmD d) tb0 3 [.ref 56, .int a1, .int a2, .int a3, .null] [] 0 h (Qi K)
  unfold P_X8_ask at hM
  refine B_aload_n dX8_ask_0 rfl ?_
  refine B_iload_n dX8_ask_1 rfl ?_
  refine B_iload_n dX8_ask_2 rfl ?_
  refine B_iload_n dX8_ask_3 rfl ?_
  refine B_cV3i (c_X8_isAsk (d := d - 1) hk_X8_isAsk  hM) csV_X8_141 (sc_56) vc_8 rfl hp0 (rm_f hk1) (rm_l hk1 (by decide)) (Nat.le_of_ble_eq_true rfl) dX8_ask_4 (fun r2 h1 hM => ?_)
  refine B_if_ne dX8_ask_7 hM (tgt := 12) rfl (fun hM => ?_) (fun hM => ?_)
  · refine B_aload_n dX8_ask_12 rfl ?_
    refine B_iload_n dX8_ask_13 rfl ?_
    refine B_cV1i (c_X8_isInLine (d := d - 1) hk_X8_isInLine  hM) csV_X8_144 (sc_56) vc_8 rfl hp0 (rm_f hk1) (rm_l hk1 (by decide)) (Nat.le_of_ble_eq_true rfl) dX8_ask_14 (fun r4 h3 hM => ?_)
    refine B_if_eq dX8_ask_17 hM (tgt := 23) rfl (fun hM => ?_) (fun hM => ?_)
    · refine B_aload_n dX8_ask_23 rfl ?_
      refine B_iload_n dX8_ask_24 rfl ?_
      refine B_iload_n dX8_ask_25 rfl ?_
      refine B_iload_n dX8_ask_26 rfl ?_
      refine B_cV3i (c_X8_canBe (d := d - 1) hk_X8_canBe  hM) csV_X8_147 (sc_56) vc_8 rfl hp0 (rm_f hk1) (rm_l hk1 (by decide)) (Nat.le_of_ble_eq_true rfl) dX8_ask_27 (fun r6 h5 hM => ?_)
      refine B_if_eq dX8_ask_30 hM (tgt := 42) rfl (fun hM => ?_) (fun hM => ?_)
      · refine B_aload_n dX8_ask_42 rfl ?_
        refine B_iload_n dX8_ask_43 rfl ?_
        refine B_iload_n dX8_ask_44 rfl ?_
        refine B_cV2i (c_X8_isRaise (d := d - 1) hk_X8_isRaise  hM) csV_X8_115 (sc_56) vc_8 rfl hp0 (rm_f hk1) (rm_l hk1 (by decide)) (Nat.le_of_ble_eq_true rfl) dX8_ask_45 (fun r8 h7 hM => ?_)
        refine B_if_eq dX8_ask_48 hM (tgt := 63) rfl (fun hM => ?_) (fun hM => ?_)
        · exact B_wk (bw_X8_ask_c63 hd  hM) (wk_1 (wk_1 (wk_1 (wk_1 (wk_0 wk_n)))))
        · refine B_aload_n dX8_ask_51 rfl ?_
          refine B_iload_n dX8_ask_52 rfl ?_
          refine B_iload_n dX8_ask_53 rfl ?_
          refine B_cV2i (c_X8_isOtherRaise (d := d - 1) hk_X8_isOtherRaise  hM) csV_X8_150 (sc_56) vc_8 rfl hp0 (rm_f hk1) (rm_l hk1 (by decide)) (Nat.le_of_ble_eq_true rfl) dX8_ask_54 (fun r10 h9 hM => ?_)
          refine B_if_eq dX8_ask_57 hM (tgt := 63) rfl (fun hM => ?_) (fun hM => ?_)
          · exact B_wk (bw_X8_ask_c63 hd  hM) (wk_1 (wk_1 (wk_1 (wk_1 (wk_0 wk_n)))))
          · refine B_bipush dX8_ask_60 k_bi_m2 ?_
            exact B_iret ⟨_, rfl, hM⟩ trivial dX8_ask_62
      · refine B_aload_n dX8_ask_33 rfl ?_
        refine B_iload_n dX8_ask_34 rfl ?_
        refine B_iload_n dX8_ask_35 rfl ?_
        refine B_iload_n dX8_ask_36 rfl ?_
        refine B_cV3v (c_X8_grants (d := d - 1) hk_X8_grants  hM) csV_X8_137 (sc_56) vc_8 rfl hp0 (rm_f hk1) (rm_l hk1 (by decide)) (Nat.le_of_ble_eq_true rfl) dX8_ask_37 (fun h11 hM => ?_)
        refine B_iconst dX8_ask_40 k_ic_1 ?_
        exact B_iret ⟨_, rfl, hM⟩ trivial dX8_ask_41
    · refine B_bipush dX8_ask_20 k_bi_m5 ?_
      exact B_iret ⟨_, rfl, hM⟩ trivial dX8_ask_22
  · refine B_iconst dX8_ask_10 k_ic_m1 ?_
    exact B_iret ⟨_, rfl, hM⟩ trivial dX8_ask_11

def P_X8_give (F : Nat) (a1 : Int32) (a2 : Int32) (a3 : Int32) (h : AH) (K : Int32 → AH → Prop) : Prop := P_X8_isAsk F a1 a2 a3 h (fun (r2 : Int32) (h1 : AH) => if ¬ r2 = (nI 0) then (P_X8_at F a1 a2 a3 h1 (fun (r4 : Int32) (h3 : AH) => vp_in r4 441 ∧ (if ¬ (h3 57 r4.toNatClampNeg) = (nI 0) then (P_X8_changes F a1 a2 a3 (-1 : Int32) h3 (fun (h5 : AH) => P_X8_serves F h5 (fun (r7 : Int32) (h6 : AH) => K r7 h6))) else (K (-5 : Int32) h3)))) else (K (-1 : Int32) h1))
set_option maxHeartbeats 4000000 in
theorem c_X8_give {l : Launch} {d : Nat} {F : Nat} {a1 : Int32} {a2 : Int32} {a3 : Int32} {h : AH} {K : Int32 → AH → Prop} (hd : 8 ≤ d) (hM : P_X8_give F a1 a2 a3 h K) : Ct l yX8_give cX8_give 4 (some .int) (rmD d) [.ref 56, .int a1, .int a2, .int a3] h (Qi K) := by
  have hk1 : 1 ≤ d := by omega
  have hk_X8_at : 0 ≤ d - 1 := by omega
  have hk_X8_changes : 1 ≤ d - 1 := by omega
  have hk_X8_isAsk : 2 ≤ d - 1 := by omega
  have hk_X8_serves : 7 ≤ d - 1 := by omega
  refine Ct_ofBW (by decide) rfl (Nat.le_of_ble_eq_true rfl) ⟨rfl, rfl⟩ ?_
  show BW RX8 cX8_give 4 (some .int) l (rmD d) tb0 3 [.ref 56, .int a1, .int a2, .int a3] [] 0 h (Qi K)
  unfold P_X8_give at hM
  refine B_aload_n dX8_give_0 rfl ?_
  refine B_iload_n dX8_give_1 rfl ?_
  refine B_iload_n dX8_give_2 rfl ?_
  refine B_iload_n dX8_give_3 rfl ?_
  refine B_cV3i (c_X8_isAsk (d := d - 1) hk_X8_isAsk  hM) csV_X8_141 (sc_56) vc_8 rfl hp0 (rm_f hk1) (rm_l hk1 (by decide)) (Nat.le_of_ble_eq_true rfl) dX8_give_4 (fun r2 h1 hM => ?_)
  refine B_if_ne dX8_give_7 hM (tgt := 12) rfl (fun hM => ?_) (fun hM => ?_)
  · refine B_aload_n dX8_give_12 rfl ?_
    refine B_getR (sc_56) vc_8 (k := 1) (j := 57) rfl (by decide) inG8 ⟨rfl, rfl, rfl⟩ ww_fl_X8_15 dX8_give_13 ?_
    refine B_iload_n dX8_give_16 rfl ?_
    refine B_iload_n dX8_give_17 rfl ?_
    refine B_iload_n dX8_give_18 rfl ?_
    refine B_cS3i (c_X8_at (d := d - 1) hk_X8_at  hM) csS_X8_84 hp0 (rm_f hk1) (rm_l hk1 (by decide)) (Nat.le_of_ble_eq_true rfl) dX8_give_19 (fun r4 h3 hM => ?_)
    refine B_iald (sc_57) hM dX8_give_22 (fun hM => ?_)
    refine B_if_ne dX8_give_23 hM (tgt := 29) rfl (fun hM => ?_) (fun hM => ?_)
    · refine B_aload_n dX8_give_29 rfl ?_
      refine B_iload_n dX8_give_30 rfl ?_
      refine B_iload_n dX8_give_31 rfl ?_
      refine B_iload_n dX8_give_32 rfl ?_
      refine B_iconst dX8_give_33 k_ic_m1 ?_
      refine B_cV4v (c_X8_changes (d := d - 1) hk_X8_changes  hM) csV_X8_122 (sc_56) vc_8 rfl hp0 (rm_f hk1) (rm_l hk1 (by decide)) (Nat.le_of_ble_eq_true rfl) dX8_give_34 (fun h5 hM => ?_)
      refine B_aload_n dX8_give_37 rfl ?_
      refine B_cV0i (c_X8_serves (d := d - 1) hk_X8_serves  hM) csV_X8_153 (sc_56) vc_8 rfl hp0 (rm_f hk1) (rm_l hk1 (by decide)) (Nat.le_of_ble_eq_true rfl) dX8_give_38 (fun r7 h6 hM => ?_)
      exact B_iret ⟨_, rfl, hM⟩ trivial dX8_give_41
    · refine B_bipush dX8_give_26 k_bi_m5 ?_
      exact B_iret ⟨_, rfl, hM⟩ trivial dX8_give_28
  · refine B_iconst dX8_give_10 k_ic_m1 ?_
    exact B_iret ⟨_, rfl, hM⟩ trivial dX8_give_11

def X8_emptiesOwner_c27 (F : Nat) (rc18 : Int32 → Int32 → AH → Prop) (K : AH → Prop) (n : Nat) : Int32 → Int32 → Int32 → AH → Prop := Nat.rec (motive := fun _ => Int32 → Int32 → Int32 → AH → Prop) (fun _ _ _ _ => False) (fun _ rc27 x1 x3 x4 h => if (nI 5) < x4 then (rc18 x1 (x3 + (nI 1)) h) else (P_X8_at F x1 x3 x4 h (fun (r2 : Int32) (h1 : AH) => vp_in r2 441 ∧ ((fun (h3 : AH) => rc27 x1 x3 (x4 + (nI 1)) h3) (up h1 57 r2.toNatClampNeg (nI 0)))))) n
theorem X8_emptiesOwner_c27_s {F : Nat} {rc18 : Int32 → Int32 → AH → Prop} {K : AH → Prop} {n : Nat} {x1 : Int32} {x3 : Int32} {x4 : Int32} {h : AH} : X8_emptiesOwner_c27 F rc18 K (n + 1) x1 x3 x4 h = (if (nI 5) < x4 then (rc18 x1 (x3 + (nI 1)) h) else (P_X8_at F x1 x3 x4 h (fun (r2 : Int32) (h1 : AH) => vp_in r2 441 ∧ ((fun (h3 : AH) => (X8_emptiesOwner_c27 F rc18 K n) x1 x3 (x4 + (nI 1)) h3) (up h1 57 r2.toNatClampNeg (nI 0)))))) := rfl
set_option maxHeartbeats 4000000 in
theorem bw_X8_emptiesOwner_c27 {l : Launch} {d : Nat} {F : Nat} {rc18 : Int32 → Int32 → AH → Prop} {K : AH → Prop} (hd : 1 ≤ d) (hr18 : ∀ (x1 : Int32) (x3 : Int32) (h : AH), rc18 x1 x3 h → BW RX8 cX8_emptiesOwner 5 none l (rmD d) tb0 3 [.ref 56, .int x1, .null, .int x3, .null] [] 18 h (Qv K)) : ∀ (n : Nat) (x1 : Int32) (x3 : Int32) (x4 : Int32) (h : AH), X8_emptiesOwner_c27 F rc18 K n x1 x3 x4 h → BW RX8 cX8_emptiesOwner 5 none l (rmD d) tb0 3 [.ref 56, .int x1, .null, .int x3, .int x4] [] 27 h (Qv K) := by
  have hk1 : 1 ≤ d := by omega
  have hk_X8_at : 0 ≤ d - 1 := by omega
  have hk_X8_leavesLine : 0 ≤ d - 1 := by omega
  have hk_X8_placeOf : 0 ≤ d - 1 := by omega
  intro n
  induction n with
  | zero =>
    intro x1 x3 x4 h hM
    exact hM.elim
  | succ n hr27 =>
    intro x1 x3 x4 h hM
    rw [X8_emptiesOwner_c27_s] at hM
    refine B_iload dX8_emptiesOwner_27 rfl ?_
    refine B_iconst dX8_emptiesOwner_29 k_ic_5 ?_
    refine B_icmp_gt dX8_emptiesOwner_30 hM (tgt := 52) rfl (fun hM => ?_) (fun hM => ?_)
    · refine B_iinc dX8_emptiesOwner_52 rfl k_ic_1 (Nat.le_of_ble_eq_true rfl) ?_
      refine B_goto (tgt := 18) dX8_emptiesOwner_55 rfl ?_
      exact B_wk (hr18 _ _ _ hM) (wk_1 (wk_1 (wk_0 (wk_1 (wk_0 wk_n)))))
    · refine B_aload_n dX8_emptiesOwner_33 rfl ?_
      refine B_getR (sc_56) vc_8 (k := 1) (j := 57) rfl (by decide) inG8 ⟨rfl, rfl, rfl⟩ ww_fl_X8_15 dX8_emptiesOwner_34 ?_
      refine B_iload_n dX8_emptiesOwner_37 rfl ?_
      refine B_iload_n dX8_emptiesOwner_38 rfl ?_
      refine B_iload dX8_emptiesOwner_39 rfl ?_
      refine B_cS3i (c_X8_at (d := d - 1) hk_X8_at  hM) csS_X8_84 hp0 (rm_f hk1) (rm_l hk1 (by decide)) (Nat.le_of_ble_eq_true rfl) dX8_emptiesOwner_41 (fun r2 h1 hM => ?_)
      refine B_iconst dX8_emptiesOwner_44 k_ic_0 ?_
      refine B_iast (sc_57) hM dX8_emptiesOwner_45 (fun hM => ?_)
      refine B_iinc dX8_emptiesOwner_46 rfl k_ic_1 (Nat.le_of_ble_eq_true rfl) ?_
      refine B_goto (tgt := 27) dX8_emptiesOwner_49 rfl ?_
      exact B_wk (hr27 _ _ _ _ hM) (wk_1 (wk_1 (wk_0 (wk_1 (wk_1 wk_n)))))
def X8_emptiesOwner_c18 (F : Nat) (K : AH → Prop) (n : Nat) : Int32 → Int32 → AH → Prop := Nat.rec (motive := fun _ => Int32 → Int32 → AH → Prop) (fun _ _ _ => False) (fun _ rc18 x1 x3 h => if (nI 12) ≤ x3 then (K h) else (X8_emptiesOwner_c27 F rc18 K F x1 x3 (nI 1) h)) n
theorem X8_emptiesOwner_c18_s {F : Nat} {K : AH → Prop} {n : Nat} {x1 : Int32} {x3 : Int32} {h : AH} : X8_emptiesOwner_c18 F K (n + 1) x1 x3 h = (if (nI 12) ≤ x3 then (K h) else (X8_emptiesOwner_c27 F (X8_emptiesOwner_c18 F K n) K F x1 x3 (nI 1) h)) := rfl
set_option maxHeartbeats 4000000 in
theorem bw_X8_emptiesOwner_c18 {l : Launch} {d : Nat} {F : Nat} {K : AH → Prop} (hd : 1 ≤ d) : ∀ (n : Nat) (x1 : Int32) (x3 : Int32) (h : AH), X8_emptiesOwner_c18 F K n x1 x3 h → BW RX8 cX8_emptiesOwner 5 none l (rmD d) tb0 3 [.ref 56, .int x1, .null, .int x3, .null] [] 18 h (Qv K) := by
  have hk1 : 1 ≤ d := by omega
  have hk_X8_at : 0 ≤ d - 1 := by omega
  have hk_X8_leavesLine : 0 ≤ d - 1 := by omega
  have hk_X8_placeOf : 0 ≤ d - 1 := by omega
  intro n
  induction n with
  | zero =>
    intro x1 x3 h hM
    exact hM.elim
  | succ n hr18 =>
    intro x1 x3 h hM
    rw [X8_emptiesOwner_c18_s] at hM
    refine B_iload_n dX8_emptiesOwner_18 rfl ?_
    refine B_bipush dX8_emptiesOwner_19 k_bi_12 ?_
    refine B_icmp_ge dX8_emptiesOwner_21 hM (tgt := 58) rfl (fun hM => ?_) (fun hM => ?_)
    · exact B_vret ⟨rfl, hM⟩ trivial dX8_emptiesOwner_58
    · refine B_iconst dX8_emptiesOwner_24 k_ic_1 ?_
      refine B_istore dX8_emptiesOwner_25 (Nat.le_of_ble_eq_true rfl) ?_
      exact B_wk (bw_X8_emptiesOwner_c27 hd hr18 _ _ _ _ _ hM) (wk_1 (wk_1 (wk_0 (wk_1 (wk_1 wk_n)))))
def X8_emptiesOwner_c16 (F : Nat) (K : AH → Prop) (x1 : Int32) (h : AH) : Prop := X8_emptiesOwner_c18 F K F x1 (nI 0) h
set_option maxHeartbeats 4000000 in
theorem bw_X8_emptiesOwner_c16 {l : Launch} {d : Nat} {F : Nat} {K : AH → Prop} {x1 : Int32} {h : AH} (hd : 1 ≤ d) (hM : X8_emptiesOwner_c16 F K x1 h) : BW RX8 cX8_emptiesOwner 5 none l (rmD d) tb0 3 [.ref 56, .int x1, .null, .null, .null] [] 16 h (Qv K) := by
  have hk1 : 1 ≤ d := by omega
  have hk_X8_at : 0 ≤ d - 1 := by omega
  have hk_X8_leavesLine : 0 ≤ d - 1 := by omega
  have hk_X8_placeOf : 0 ≤ d - 1 := by omega
  unfold X8_emptiesOwner_c16 at hM
  refine B_iconst dX8_emptiesOwner_16 k_ic_0 ?_
  refine B_istore_n dX8_emptiesOwner_17 (Nat.le_of_ble_eq_true rfl) ?_
  exact B_wk (bw_X8_emptiesOwner_c18 hd  _ _ _ _ hM) (wk_1 (wk_1 (wk_0 (wk_1 (wk_0 wk_n)))))
def P_X8_emptiesOwner (F : Nat) (a1 : Int32) (h : AH) (K : AH → Prop) : Prop := P_X8_placeOf F a1 h (fun (r2 : Int32) (h1 : AH) => if r2 = (-1 : Int32) then (X8_emptiesOwner_c16 F K a1 h1) else (P_X8_leavesLine F r2 h1 (fun (h3 : AH) => X8_emptiesOwner_c16 F K a1 h3)))
set_option maxHeartbeats 4000000 in
theorem c_X8_emptiesOwner {l : Launch} {d : Nat} {F : Nat} {a1 : Int32} {h : AH} {K : AH → Prop} (hd : 1 ≤ d) (hM : P_X8_emptiesOwner F a1 h K) : Ct l yX8_emptiesOwner cX8_emptiesOwner 5 none (rmD d) [.ref 56, .int a1] h (Qv K) := by
  have hk1 : 1 ≤ d := by omega
  have hk_X8_at : 0 ≤ d - 1 := by omega
  have hk_X8_leavesLine : 0 ≤ d - 1 := by omega
  have hk_X8_placeOf : 0 ≤ d - 1 := by omega
  refine Ct_ofBW (by decide) rfl (Nat.le_of_ble_eq_true rfl) ⟨rfl, rfl⟩ ?_
  show BW RX8 cX8_emptiesOwner 5 none l (rmD d) tb0 3 [.ref 56, .int a1, .null, .null, .null] [] 0 h (Qv K)
  unfold P_X8_emptiesOwner at hM
  refine B_aload_n dX8_emptiesOwner_0 rfl ?_
  refine B_iload_n dX8_emptiesOwner_1 rfl ?_
  refine B_cV1i (c_X8_placeOf (d := d - 1) hk_X8_placeOf  hM) csV_X8_109 (sc_56) vc_8 rfl hp0 (rm_f hk1) (rm_l hk1 (by decide)) (Nat.le_of_ble_eq_true rfl) dX8_emptiesOwner_2 (fun r2 h1 hM => ?_)
  refine B_istore_n dX8_emptiesOwner_5 (Nat.le_of_ble_eq_true rfl) ?_
  refine B_iload_n dX8_emptiesOwner_6 rfl ?_
  refine B_iconst dX8_emptiesOwner_7 k_ic_m1 ?_
  refine B_icmp_eq dX8_emptiesOwner_8 hM (tgt := 16) rfl (fun hM => ?_) (fun hM => ?_)
  · exact B_wk (bw_X8_emptiesOwner_c16 hd  hM) (wk_1 (wk_1 (wk_0 (wk_0 (wk_0 wk_n)))))
  · refine B_aload_n dX8_emptiesOwner_11 rfl ?_
    refine B_iload_n dX8_emptiesOwner_12 rfl ?_
    refine B_cV1v (c_X8_leavesLine (d := d - 1) hk_X8_leavesLine  hM) csV_X8_133 (sc_56) vc_8 rfl hp0 (rm_f hk1) (rm_l hk1 (by decide)) (Nat.le_of_ble_eq_true rfl) dX8_emptiesOwner_13 (fun h3 hM => ?_)
    exact B_wk (bw_X8_emptiesOwner_c16 hd  hM) (wk_1 (wk_1 (wk_0 (wk_0 (wk_0 wk_n)))))

def P_X8_leavesAll (F : Nat) (a1 : Int32) (h : AH) (K : Int32 → AH → Prop) : Prop := P_X8_emptiesOwner F a1 h (fun (h1 : AH) => P_X8_serves F h1 (fun (r3 : Int32) (h2 : AH) => K r3 h2))
set_option maxHeartbeats 4000000 in
theorem c_X8_leavesAll {l : Launch} {d : Nat} {F : Nat} {a1 : Int32} {h : AH} {K : Int32 → AH → Prop} (hd : 8 ≤ d) (hM : P_X8_leavesAll F a1 h K) : Ct l yX8_leavesAll cX8_leavesAll 2 (some .int) (rmD d) [.ref 56, .int a1] h (Qi K) := by
  have hk1 : 1 ≤ d := by omega
  have hk_X8_emptiesOwner : 1 ≤ d - 1 := by omega
  have hk_X8_serves : 7 ≤ d - 1 := by omega
  refine Ct_ofBW (by decide) rfl (Nat.le_of_ble_eq_true rfl) ⟨rfl, rfl⟩ ?_
  show BW RX8 cX8_leavesAll 2 (some .int) l (rmD d) tb0 3 [.ref 56, .int a1] [] 0 h (Qi K)
  unfold P_X8_leavesAll at hM
  refine B_aload_n dX8_leavesAll_0 rfl ?_
  refine B_iload_n dX8_leavesAll_1 rfl ?_
  refine B_cV1v (c_X8_emptiesOwner (d := d - 1) hk_X8_emptiesOwner  hM) csV_X8_156 (sc_56) vc_8 rfl hp0 (rm_f hk1) (rm_l hk1 (by decide)) (Nat.le_of_ble_eq_true rfl) dX8_leavesAll_2 (fun h1 hM => ?_)
  refine B_aload_n dX8_leavesAll_5 rfl ?_
  refine B_cV0i (c_X8_serves (d := d - 1) hk_X8_serves  hM) csV_X8_153 (sc_56) vc_8 rfl hp0 (rm_f hk1) (rm_l hk1 (by decide)) (Nat.le_of_ble_eq_true rfl) dX8_leavesAll_6 (fun r3 h2 hM => ?_)
  exact B_iret ⟨_, rfl, hM⟩ trivial dX8_leavesAll_9

def P_X8_leaves (F : Nat) (a1 : Int32) (h : AH) (K : Int32 → AH → Prop) : Prop := P_X8_isOwner F a1 h (fun (r2 : Int32) (h1 : AH) => if r2 = (nI 0) then (K (-1 : Int32) h1) else (P_X8_leavesAll F a1 h1 (fun (r4 : Int32) (h3 : AH) => K r4 h3)))
set_option maxHeartbeats 4000000 in
theorem c_X8_leaves {l : Launch} {d : Nat} {F : Nat} {a1 : Int32} {h : AH} {K : Int32 → AH → Prop} (hd : 9 ≤ d) (hM : P_X8_leaves F a1 h K) : Ct l yX8_leaves cX8_leaves 2 (some .int) (rmD d) [.ref 56, .int a1] h (Qi K) := by
  have hk1 : 1 ≤ d := by omega
  have hk_X8_isOwner : 1 ≤ d - 1 := by omega
  have hk_X8_leavesAll : 8 ≤ d - 1 := by omega
  refine Ct_ofBW (by decide) rfl (Nat.le_of_ble_eq_true rfl) ⟨rfl, rfl⟩ ?_
  show BW RX8 cX8_leaves 2 (some .int) l (rmD d) tb0 3 [.ref 56, .int a1] [] 0 h (Qi K)
  unfold P_X8_leaves at hM
  refine B_iload_n dX8_leaves_0 rfl ?_
  refine B_cS1i (c_X8_isOwner (d := d - 1) hk_X8_isOwner  hM) csS_X8_66 hp0 (rm_f hk1) (rm_l hk1 (by decide)) (Nat.le_of_ble_eq_true rfl) dX8_leaves_1 (fun r2 h1 hM => ?_)
  refine B_if_eq dX8_leaves_4 hM (tgt := 15) rfl (fun hM => ?_) (fun hM => ?_)
  · refine B_iconst dX8_leaves_15 k_ic_m1 ?_
    exact B_iret ⟨_, rfl, hM⟩ trivial dX8_leaves_16
  · refine B_aload_n dX8_leaves_7 rfl ?_
    refine B_iload_n dX8_leaves_8 rfl ?_
    refine B_cV1i (c_X8_leavesAll (d := d - 1) hk_X8_leavesAll  hM) csV_X8_159 (sc_56) vc_8 rfl hp0 (rm_f hk1) (rm_l hk1 (by decide)) (Nat.le_of_ble_eq_true rfl) dX8_leaves_9 (fun r4 h3 hM => ?_)
    refine B_goto (tgt := 16) dX8_leaves_12 rfl ?_
    exact B_iret ⟨_, rfl, hM⟩ trivial dX8_leaves_16

def P_X8_forgets (F : Nat) (a1 : Int32) (h : AH) (K : Int32 → AH → Prop) : Prop := P_X8_isOwner F a1 h (fun (r2 : Int32) (h1 : AH) => if ¬ r2 = (nI 0) then (P_X8_isInLine F a1 h1 (fun (r4 : Int32) (h3 : AH) => if ¬ r4 = (nI 0) then (P_X8_placeOf F a1 h3 (fun (r6 : Int32) (h5 : AH) => P_X8_leavesLine F r6 h5 (fun (h7 : AH) => P_X8_serves F h7 (fun (r9 : Int32) (h8 : AH) => K r9 h8)))) else (K (-5 : Int32) h3))) else (K (-1 : Int32) h1))
set_option maxHeartbeats 4000000 in
theorem c_X8_forgets {l : Launch} {d : Nat} {F : Nat} {a1 : Int32} {h : AH} {K : Int32 → AH → Prop} (hd : 8 ≤ d) (hM : P_X8_forgets F a1 h K) : Ct l yX8_forgets cX8_forgets 2 (some .int) (rmD d) [.ref 56, .int a1] h (Qi K) := by
  have hk1 : 1 ≤ d := by omega
  have hk_X8_isInLine : 1 ≤ d - 1 := by omega
  have hk_X8_isOwner : 1 ≤ d - 1 := by omega
  have hk_X8_leavesLine : 0 ≤ d - 1 := by omega
  have hk_X8_placeOf : 0 ≤ d - 1 := by omega
  have hk_X8_serves : 7 ≤ d - 1 := by omega
  refine Ct_ofBW (by decide) rfl (Nat.le_of_ble_eq_true rfl) ⟨rfl, rfl⟩ ?_
  show BW RX8 cX8_forgets 2 (some .int) l (rmD d) tb0 3 [.ref 56, .int a1] [] 0 h (Qi K)
  unfold P_X8_forgets at hM
  refine B_iload_n dX8_forgets_0 rfl ?_
  refine B_cS1i (c_X8_isOwner (d := d - 1) hk_X8_isOwner  hM) csS_X8_66 hp0 (rm_f hk1) (rm_l hk1 (by decide)) (Nat.le_of_ble_eq_true rfl) dX8_forgets_1 (fun r2 h1 hM => ?_)
  refine B_if_ne dX8_forgets_4 hM (tgt := 9) rfl (fun hM => ?_) (fun hM => ?_)
  · refine B_aload_n dX8_forgets_9 rfl ?_
    refine B_iload_n dX8_forgets_10 rfl ?_
    refine B_cV1i (c_X8_isInLine (d := d - 1) hk_X8_isInLine  hM) csV_X8_144 (sc_56) vc_8 rfl hp0 (rm_f hk1) (rm_l hk1 (by decide)) (Nat.le_of_ble_eq_true rfl) dX8_forgets_11 (fun r4 h3 hM => ?_)
    refine B_if_ne dX8_forgets_14 hM (tgt := 20) rfl (fun hM => ?_) (fun hM => ?_)
    · refine B_aload_n dX8_forgets_20 rfl ?_
      refine B_aload_n dX8_forgets_21 rfl ?_
      refine B_iload_n dX8_forgets_22 rfl ?_
      refine B_cV1i (c_X8_placeOf (d := d - 1) hk_X8_placeOf  hM) csV_X8_109 (sc_56) vc_8 rfl hp0 (rm_f hk1) (rm_l hk1 (by decide)) (Nat.le_of_ble_eq_true rfl) dX8_forgets_23 (fun r6 h5 hM => ?_)
      refine B_cV1v (c_X8_leavesLine (d := d - 1) hk_X8_leavesLine  hM) csV_X8_133 (sc_56) vc_8 rfl hp0 (rm_f hk1) (rm_l hk1 (by decide)) (Nat.le_of_ble_eq_true rfl) dX8_forgets_26 (fun h7 hM => ?_)
      refine B_aload_n dX8_forgets_29 rfl ?_
      refine B_cV0i (c_X8_serves (d := d - 1) hk_X8_serves  hM) csV_X8_153 (sc_56) vc_8 rfl hp0 (rm_f hk1) (rm_l hk1 (by decide)) (Nat.le_of_ble_eq_true rfl) dX8_forgets_30 (fun r9 h8 hM => ?_)
      exact B_iret ⟨_, rfl, hM⟩ trivial dX8_forgets_33
    · refine B_bipush dX8_forgets_17 k_bi_m5 ?_
      exact B_iret ⟨_, rfl, hM⟩ trivial dX8_forgets_19
  · refine B_iconst dX8_forgets_7 k_ic_m1 ?_
    exact B_iret ⟨_, rfl, hM⟩ trivial dX8_forgets_8

def P_X8_waitsForNow (F : Nat) (a1 : Int32) (h : AH) (K : Int32 → AH → Prop) : Prop := P_X8_placeOf F a1 h (fun (r2 : Int32) (h1 : AH) => if ¬ r2 = (-1 : Int32) then (P_X8_barringAt F r2 h1 (fun (r4 : Int32) (h3 : AH) => K r4 h3)) else (K (nI 0) h1))
set_option maxHeartbeats 4000000 in
theorem c_X8_waitsForNow {l : Launch} {d : Nat} {F : Nat} {a1 : Int32} {h : AH} {K : Int32 → AH → Prop} (hd : 6 ≤ d) (hM : P_X8_waitsForNow F a1 h K) : Ct l yX8_waitsForNow cX8_waitsForNow 3 (some .int) (rmD d) [.ref 56, .int a1] h (Qi K) := by
  have hk1 : 1 ≤ d := by omega
  have hk_X8_barringAt : 5 ≤ d - 1 := by omega
  have hk_X8_placeOf : 0 ≤ d - 1 := by omega
  refine Ct_ofBW (by decide) rfl (Nat.le_of_ble_eq_true rfl) ⟨rfl, rfl⟩ ?_
  show BW RX8 cX8_waitsForNow 3 (some .int) l (rmD d) tb0 3 [.ref 56, .int a1, .null] [] 0 h (Qi K)
  unfold P_X8_waitsForNow at hM
  refine B_aload_n dX8_waitsForNow_0 rfl ?_
  refine B_iload_n dX8_waitsForNow_1 rfl ?_
  refine B_cV1i (c_X8_placeOf (d := d - 1) hk_X8_placeOf  hM) csV_X8_109 (sc_56) vc_8 rfl hp0 (rm_f hk1) (rm_l hk1 (by decide)) (Nat.le_of_ble_eq_true rfl) dX8_waitsForNow_2 (fun r2 h1 hM => ?_)
  refine B_istore_n dX8_waitsForNow_5 (Nat.le_of_ble_eq_true rfl) ?_
  refine B_iload_n dX8_waitsForNow_6 rfl ?_
  refine B_iconst dX8_waitsForNow_7 k_ic_m1 ?_
  refine B_icmp_ne dX8_waitsForNow_8 hM (tgt := 15) rfl (fun hM => ?_) (fun hM => ?_)
  · refine B_aload_n dX8_waitsForNow_15 rfl ?_
    refine B_iload_n dX8_waitsForNow_16 rfl ?_
    refine B_cV1i (c_X8_barringAt (d := d - 1) hk_X8_barringAt  hM) csV_X8_126 (sc_56) vc_8 rfl hp0 (rm_f hk1) (rm_l hk1 (by decide)) (Nat.le_of_ble_eq_true rfl) dX8_waitsForNow_17 (fun r4 h3 hM => ?_)
    exact B_iret ⟨_, rfl, hM⟩ trivial dX8_waitsForNow_20
  · refine B_iconst dX8_waitsForNow_11 k_ic_0 ?_
    refine B_goto (tgt := 20) dX8_waitsForNow_12 rfl ?_
    exact B_iret ⟨_, rfl, hM⟩ trivial dX8_waitsForNow_20

def X8_comesTo_c45 (F : Nat) (rc8 : Int32 → Int32 → AH → Prop) (rc18 : Int32 → Int32 → Int32 → AH → Prop) (K : Int32 → AH → Prop) (x3 : Int32) (x4 : Int32) (s0 : Int32) (s1 : Int32) (h : AH) : Prop := rc18 (s0 ||| s1) x3 (x4 + (nI 1)) h
set_option maxHeartbeats 4000000 in
theorem bw_X8_comesTo_c45 {l : Launch} {d : Nat} {F : Nat} {rc8 : Int32 → Int32 → AH → Prop} {rc18 : Int32 → Int32 → Int32 → AH → Prop} {K : Int32 → AH → Prop} {x3 : Int32} {x4 : Int32} {s0 : Int32} {s1 : Int32} {h : AH} (hd : 7 ≤ d) (hr8 : ∀ (x2 : Int32) (x3 : Int32) (h : AH), rc8 x2 x3 h → BW RX8 cX8_comesTo 5 (some .int) l (rmD d) tb0 3 [.ref 56, .null, .int x2, .int x3, .null] [] 8 h (Qi K)) (hr18 : ∀ (x2 : Int32) (x3 : Int32) (x4 : Int32) (h : AH), rc18 x2 x3 x4 h → BW RX8 cX8_comesTo 5 (some .int) l (rmD d) tb0 3 [.ref 56, .null, .int x2, .int x3, .int x4] [] 18 h (Qi K)) (hM : X8_comesTo_c45 F rc8 rc18 K x3 x4 s0 s1 h) : BW RX8 cX8_comesTo 5 (some .int) l (rmD d) tb0 3 [.ref 56, .null, .null, .int x3, .int x4] [.int s1, .int s0] 45 h (Qi K) := by
  have hk1 : 1 ≤ d := by omega
  have hk_X8_has : 0 ≤ d - 1 := by omega
  have hk_X8_waitsForNow : 6 ≤ d - 1 := by omega
  unfold X8_comesTo_c45 at hM
  refine B_ior dX8_comesTo_45 ?_
  refine B_istore_n dX8_comesTo_46 (Nat.le_of_ble_eq_true rfl) ?_
  refine B_iinc dX8_comesTo_47 rfl k_ic_1 (Nat.le_of_ble_eq_true rfl) ?_
  refine B_goto (tgt := 18) dX8_comesTo_50 rfl ?_
  exact B_wk (hr18 _ _ _ _ hM) (wk_1 (wk_0 (wk_1 (wk_1 (wk_1 wk_n)))))
def X8_comesTo_c18 (F : Nat) (rc8 : Int32 → Int32 → AH → Prop) (K : Int32 → AH → Prop) (n : Nat) : Int32 → Int32 → Int32 → AH → Prop := Nat.rec (motive := fun _ => Int32 → Int32 → Int32 → AH → Prop) (fun _ _ _ _ => False) (fun _ rc18 x2 x3 x4 h => if (nI 6) ≤ x4 then (rc8 x2 x3 h) else (P_X8_has F x3 x4 h (fun (r2 : Int32) (h1 : AH) => if r2 = (nI 0) then (X8_comesTo_c45 F rc8 rc18 K x3 x4 x2 (nI 0) h1) else (P_X8_waitsForNow F x4 h1 (fun (r4 : Int32) (h3 : AH) => X8_comesTo_c45 F rc8 rc18 K x3 x4 x2 r4 h3))))) n
theorem X8_comesTo_c18_s {F : Nat} {rc8 : Int32 → Int32 → AH → Prop} {K : Int32 → AH → Prop} {n : Nat} {x2 : Int32} {x3 : Int32} {x4 : Int32} {h : AH} : X8_comesTo_c18 F rc8 K (n + 1) x2 x3 x4 h = (if (nI 6) ≤ x4 then (rc8 x2 x3 h) else (P_X8_has F x3 x4 h (fun (r2 : Int32) (h1 : AH) => if r2 = (nI 0) then (X8_comesTo_c45 F rc8 (X8_comesTo_c18 F rc8 K n) K x3 x4 x2 (nI 0) h1) else (P_X8_waitsForNow F x4 h1 (fun (r4 : Int32) (h3 : AH) => X8_comesTo_c45 F rc8 (X8_comesTo_c18 F rc8 K n) K x3 x4 x2 r4 h3))))) := rfl
set_option maxHeartbeats 4000000 in
theorem bw_X8_comesTo_c18 {l : Launch} {d : Nat} {F : Nat} {rc8 : Int32 → Int32 → AH → Prop} {K : Int32 → AH → Prop} (hd : 7 ≤ d) (hr8 : ∀ (x2 : Int32) (x3 : Int32) (h : AH), rc8 x2 x3 h → BW RX8 cX8_comesTo 5 (some .int) l (rmD d) tb0 3 [.ref 56, .null, .int x2, .int x3, .null] [] 8 h (Qi K)) : ∀ (n : Nat) (x2 : Int32) (x3 : Int32) (x4 : Int32) (h : AH), X8_comesTo_c18 F rc8 K n x2 x3 x4 h → BW RX8 cX8_comesTo 5 (some .int) l (rmD d) tb0 3 [.ref 56, .null, .int x2, .int x3, .int x4] [] 18 h (Qi K) := by
  have hk1 : 1 ≤ d := by omega
  have hk_X8_has : 0 ≤ d - 1 := by omega
  have hk_X8_waitsForNow : 6 ≤ d - 1 := by omega
  intro n
  induction n with
  | zero =>
    intro x2 x3 x4 h hM
    exact hM.elim
  | succ n hr18 =>
    intro x2 x3 x4 h hM
    rw [X8_comesTo_c18_s] at hM
    refine B_iload dX8_comesTo_18 rfl ?_
    refine B_bipush dX8_comesTo_20 k_bi_6 ?_
    refine B_icmp_ge dX8_comesTo_22 hM (tgt := 53) rfl (fun hM => ?_) (fun hM => ?_)
    · refine B_goto (tgt := 8) dX8_comesTo_53 rfl ?_
      exact B_wk (hr8 _ _ _ hM) (wk_1 (wk_0 (wk_1 (wk_1 (wk_0 wk_n)))))
    · refine B_iload_n dX8_comesTo_25 rfl ?_
      refine B_iload_n dX8_comesTo_26 rfl ?_
      refine B_iload dX8_comesTo_27 rfl ?_
      refine B_cS2i (c_X8_has (d := d - 1) hk_X8_has  hM) csS_X8_80 hp0 (rm_f hk1) (rm_l hk1 (by decide)) (Nat.le_of_ble_eq_true rfl) dX8_comesTo_29 (fun r2 h1 hM => ?_)
      refine B_if_eq dX8_comesTo_32 hM (tgt := 44) rfl (fun hM => ?_) (fun hM => ?_)
      · refine B_iconst dX8_comesTo_44 k_ic_0 ?_
        exact B_wk (bw_X8_comesTo_c45 hd hr8 hr18 hM) (wk_1 (wk_0 (wk_0 (wk_1 (wk_1 wk_n)))))
      · refine B_aload_n dX8_comesTo_35 rfl ?_
        refine B_iload dX8_comesTo_36 rfl ?_
        refine B_cV1i (c_X8_waitsForNow (d := d - 1) hk_X8_waitsForNow  hM) csV_X8_162 (sc_56) vc_8 rfl hp0 (rm_f hk1) (rm_l hk1 (by decide)) (Nat.le_of_ble_eq_true rfl) dX8_comesTo_38 (fun r4 h3 hM => ?_)
        refine B_goto (tgt := 45) dX8_comesTo_41 rfl ?_
        exact B_wk (bw_X8_comesTo_c45 hd hr8 hr18 hM) (wk_1 (wk_0 (wk_0 (wk_1 (wk_1 wk_n)))))
def X8_comesTo_c8 (F : Nat) (K : Int32 → AH → Prop) (n : Nat) : Int32 → Int32 → AH → Prop := Nat.rec (motive := fun _ => Int32 → Int32 → AH → Prop) (fun _ _ _ => False) (fun _ rc8 x2 x3 h => if x2 = x3 then (K x2 h) else (X8_comesTo_c18 F rc8 K F x2 x2 (nI 0) h)) n
theorem X8_comesTo_c8_s {F : Nat} {K : Int32 → AH → Prop} {n : Nat} {x2 : Int32} {x3 : Int32} {h : AH} : X8_comesTo_c8 F K (n + 1) x2 x3 h = (if x2 = x3 then (K x2 h) else (X8_comesTo_c18 F (X8_comesTo_c8 F K n) K F x2 x2 (nI 0) h)) := rfl
set_option maxHeartbeats 4000000 in
theorem bw_X8_comesTo_c8 {l : Launch} {d : Nat} {F : Nat} {K : Int32 → AH → Prop} (hd : 7 ≤ d) : ∀ (n : Nat) (x2 : Int32) (x3 : Int32) (h : AH), X8_comesTo_c8 F K n x2 x3 h → BW RX8 cX8_comesTo 5 (some .int) l (rmD d) tb0 3 [.ref 56, .null, .int x2, .int x3, .null] [] 8 h (Qi K) := by
  have hk1 : 1 ≤ d := by omega
  have hk_X8_has : 0 ≤ d - 1 := by omega
  have hk_X8_waitsForNow : 6 ≤ d - 1 := by omega
  intro n
  induction n with
  | zero =>
    intro x2 x3 h hM
    exact hM.elim
  | succ n hr8 =>
    intro x2 x3 h hM
    rw [X8_comesTo_c8_s] at hM
    refine B_iload_n dX8_comesTo_8 rfl ?_
    refine B_iload_n dX8_comesTo_9 rfl ?_
    refine B_icmp_eq dX8_comesTo_10 hM (tgt := 56) rfl (fun hM => ?_) (fun hM => ?_)
    · refine B_iload_n dX8_comesTo_56 rfl ?_
      exact B_iret ⟨_, rfl, hM⟩ trivial dX8_comesTo_57
    · refine B_iload_n dX8_comesTo_13 rfl ?_
      refine B_istore_n dX8_comesTo_14 (Nat.le_of_ble_eq_true rfl) ?_
      refine B_iconst dX8_comesTo_15 k_ic_0 ?_
      refine B_istore dX8_comesTo_16 (Nat.le_of_ble_eq_true rfl) ?_
      exact B_wk (bw_X8_comesTo_c18 hd hr8 _ _ _ _ _ hM) (wk_1 (wk_0 (wk_1 (wk_1 (wk_1 wk_n)))))
def P_X8_comesTo (F : Nat) (a1 : Int32) (h : AH) (K : Int32 → AH → Prop) : Prop := P_X8_waitsForNow F a1 h (fun (r2 : Int32) (h1 : AH) => X8_comesTo_c8 F K F r2 (nI 0) h1)
set_option maxHeartbeats 4000000 in
theorem c_X8_comesTo {l : Launch} {d : Nat} {F : Nat} {a1 : Int32} {h : AH} {K : Int32 → AH → Prop} (hd : 7 ≤ d) (hM : P_X8_comesTo F a1 h K) : Ct l yX8_comesTo cX8_comesTo 5 (some .int) (rmD d) [.ref 56, .int a1] h (Qi K) := by
  have hk1 : 1 ≤ d := by omega
  have hk_X8_has : 0 ≤ d - 1 := by omega
  have hk_X8_waitsForNow : 6 ≤ d - 1 := by omega
  refine Ct_ofBW (by decide) rfl (Nat.le_of_ble_eq_true rfl) ⟨rfl, rfl⟩ ?_
  show BW RX8 cX8_comesTo 5 (some .int) l (rmD d) tb0 3 [.ref 56, .int a1, .null, .null, .null] [] 0 h (Qi K)
  unfold P_X8_comesTo at hM
  refine B_aload_n dX8_comesTo_0 rfl ?_
  refine B_iload_n dX8_comesTo_1 rfl ?_
  refine B_cV1i (c_X8_waitsForNow (d := d - 1) hk_X8_waitsForNow  hM) csV_X8_162 (sc_56) vc_8 rfl hp0 (rm_f hk1) (rm_l hk1 (by decide)) (Nat.le_of_ble_eq_true rfl) dX8_comesTo_2 (fun r2 h1 hM => ?_)
  refine B_istore_n dX8_comesTo_5 (Nat.le_of_ble_eq_true rfl) ?_
  refine B_iconst dX8_comesTo_6 k_ic_0 ?_
  refine B_istore_n dX8_comesTo_7 (Nat.le_of_ble_eq_true rfl) ?_
  exact B_wk (bw_X8_comesTo_c8 hd  _ _ _ _ hM) (wk_1 (wk_0 (wk_1 (wk_1 (wk_0 wk_n)))))

def X8_ringNow_c30 (F : Nat) (rc4 : Int32 → Int32 → AH → Prop) (K : Int32 → AH → Prop) (x2 : Int32) (s0 : Int32) (s1 : Int32) (h : AH) : Prop := rc4 (s0 ||| s1) (x2 + (nI 1)) h
set_option maxHeartbeats 4000000 in
theorem bw_X8_ringNow_c30 {l : Launch} {d : Nat} {F : Nat} {rc4 : Int32 → Int32 → AH → Prop} {K : Int32 → AH → Prop} {x2 : Int32} {s0 : Int32} {s1 : Int32} {h : AH} (hd : 8 ≤ d) (hr4 : ∀ (x1 : Int32) (x2 : Int32) (h : AH), rc4 x1 x2 h → BW RX8 cX8_ringNow 3 (some .int) l (rmD d) tb0 3 [.ref 56, .int x1, .int x2] [] 4 h (Qi K)) (hM : X8_ringNow_c30 F rc4 K x2 s0 s1 h) : BW RX8 cX8_ringNow 3 (some .int) l (rmD d) tb0 3 [.ref 56, .null, .int x2] [.int s1, .int s0] 30 h (Qi K) := by
  have hk1 : 1 ≤ d := by omega
  have hk_X8_comesTo : 7 ≤ d - 1 := by omega
  have hk_X8_has : 0 ≤ d - 1 := by omega
  unfold X8_ringNow_c30 at hM
  refine B_ior dX8_ringNow_30 ?_
  refine B_istore_n dX8_ringNow_31 (Nat.le_of_ble_eq_true rfl) ?_
  refine B_iinc dX8_ringNow_32 rfl k_ic_1 (Nat.le_of_ble_eq_true rfl) ?_
  refine B_goto (tgt := 4) dX8_ringNow_35 rfl ?_
  exact B_wk (hr4 _ _ _ hM) (wk_1 (wk_1 (wk_1 wk_n)))
def X8_ringNow_c4 (F : Nat) (K : Int32 → AH → Prop) (n : Nat) : Int32 → Int32 → AH → Prop := Nat.rec (motive := fun _ => Int32 → Int32 → AH → Prop) (fun _ _ _ => False) (fun _ rc4 x1 x2 h => if (nI 6) ≤ x2 then (K x1 h) else (P_X8_comesTo F x2 h (fun (r2 : Int32) (h1 : AH) => P_X8_has F r2 x2 h1 (fun (r4 : Int32) (h3 : AH) => if r4 = (nI 0) then (X8_ringNow_c30 F rc4 K x2 x1 (nI 0) h3) else (X8_ringNow_c30 F rc4 K x2 x1 ((nI 1) <<< (x2 &&& 31)) h3))))) n
theorem X8_ringNow_c4_s {F : Nat} {K : Int32 → AH → Prop} {n : Nat} {x1 : Int32} {x2 : Int32} {h : AH} : X8_ringNow_c4 F K (n + 1) x1 x2 h = (if (nI 6) ≤ x2 then (K x1 h) else (P_X8_comesTo F x2 h (fun (r2 : Int32) (h1 : AH) => P_X8_has F r2 x2 h1 (fun (r4 : Int32) (h3 : AH) => if r4 = (nI 0) then (X8_ringNow_c30 F (X8_ringNow_c4 F K n) K x2 x1 (nI 0) h3) else (X8_ringNow_c30 F (X8_ringNow_c4 F K n) K x2 x1 ((nI 1) <<< (x2 &&& 31)) h3))))) := rfl
set_option maxHeartbeats 4000000 in
theorem bw_X8_ringNow_c4 {l : Launch} {d : Nat} {F : Nat} {K : Int32 → AH → Prop} (hd : 8 ≤ d) : ∀ (n : Nat) (x1 : Int32) (x2 : Int32) (h : AH), X8_ringNow_c4 F K n x1 x2 h → BW RX8 cX8_ringNow 3 (some .int) l (rmD d) tb0 3 [.ref 56, .int x1, .int x2] [] 4 h (Qi K) := by
  have hk1 : 1 ≤ d := by omega
  have hk_X8_comesTo : 7 ≤ d - 1 := by omega
  have hk_X8_has : 0 ≤ d - 1 := by omega
  intro n
  induction n with
  | zero =>
    intro x1 x2 h hM
    exact hM.elim
  | succ n hr4 =>
    intro x1 x2 h hM
    rw [X8_ringNow_c4_s] at hM
    refine B_iload_n dX8_ringNow_4 rfl ?_
    refine B_bipush dX8_ringNow_5 k_bi_6 ?_
    refine B_icmp_ge dX8_ringNow_7 hM (tgt := 38) rfl (fun hM => ?_) (fun hM => ?_)
    · refine B_iload_n dX8_ringNow_38 rfl ?_
      exact B_iret ⟨_, rfl, hM⟩ trivial dX8_ringNow_39
    · refine B_iload_n dX8_ringNow_10 rfl ?_
      refine B_aload_n dX8_ringNow_11 rfl ?_
      refine B_iload_n dX8_ringNow_12 rfl ?_
      refine B_cV1i (c_X8_comesTo (d := d - 1) hk_X8_comesTo  hM) csV_X8_165 (sc_56) vc_8 rfl hp0 (rm_f hk1) (rm_l hk1 (by decide)) (Nat.le_of_ble_eq_true rfl) dX8_ringNow_13 (fun r2 h1 hM => ?_)
      refine B_iload_n dX8_ringNow_16 rfl ?_
      refine B_cS2i (c_X8_has (d := d - 1) hk_X8_has  hM) csS_X8_80 hp0 (rm_f hk1) (rm_l hk1 (by decide)) (Nat.le_of_ble_eq_true rfl) dX8_ringNow_17 (fun r4 h3 hM => ?_)
      refine B_if_eq dX8_ringNow_20 hM (tgt := 29) rfl (fun hM => ?_) (fun hM => ?_)
      · refine B_iconst dX8_ringNow_29 k_ic_0 ?_
        exact B_wk (bw_X8_ringNow_c30 hd hr4 hM) (wk_1 (wk_0 (wk_1 wk_n)))
      · refine B_iconst dX8_ringNow_23 k_ic_1 ?_
        refine B_iload_n dX8_ringNow_24 rfl ?_
        refine B_ishl dX8_ringNow_25 ?_
        refine B_goto (tgt := 30) dX8_ringNow_26 rfl ?_
        exact B_wk (bw_X8_ringNow_c30 hd hr4 hM) (wk_1 (wk_0 (wk_1 wk_n)))
def P_X8_ringNow (F : Nat) (h : AH) (K : Int32 → AH → Prop) : Prop := X8_ringNow_c4 F K F (nI 0) (nI 0) h
set_option maxHeartbeats 4000000 in
theorem c_X8_ringNow {l : Launch} {d : Nat} {F : Nat} {h : AH} {K : Int32 → AH → Prop} (hd : 8 ≤ d) (hM : P_X8_ringNow F h K) : Ct l yX8_ringNow cX8_ringNow 3 (some .int) (rmD d) [.ref 56] h (Qi K) := by
  have hk1 : 1 ≤ d := by omega
  have hk_X8_comesTo : 7 ≤ d - 1 := by omega
  have hk_X8_has : 0 ≤ d - 1 := by omega
  refine Ct_ofBW (by decide) rfl (Nat.le_of_ble_eq_true rfl) ⟨rfl, rfl⟩ ?_
  show BW RX8 cX8_ringNow 3 (some .int) l (rmD d) tb0 3 [.ref 56, .null, .null] [] 0 h (Qi K)
  unfold P_X8_ringNow at hM
  refine B_iconst dX8_ringNow_0 k_ic_0 ?_
  refine B_istore_n dX8_ringNow_1 (Nat.le_of_ble_eq_true rfl) ?_
  refine B_iconst dX8_ringNow_2 k_ic_0 ?_
  refine B_istore_n dX8_ringNow_3 (Nat.le_of_ble_eq_true rfl) ?_
  exact B_wk (bw_X8_ringNow_c4 hd  _ _ _ _ hM) (wk_1 (wk_1 (wk_1 wk_n)))

def X8_countsOf_c4 (F : Nat) (K : Int32 → AH → Prop) (n : Nat) : Int32 → Int32 → Int32 → AH → Prop := Nat.rec (motive := fun _ => Int32 → Int32 → Int32 → AH → Prop) (fun _ _ _ _ => False) (fun _ rc4 x1 x2 x3 h => vp_in (nI 0) 441 ∧ (if (h 57 (nI 0).toNatClampNeg) ≤ x3 then (K x2 h) else (P_X8_at F x1 x3 (nI 2) h (fun (r2 : Int32) (h1 : AH) => vp_in r2 441 ∧ (P_X8_at F x1 x3 (nI 4) h1 (fun (r4 : Int32) (h3 : AH) => vp_in r4 441 ∧ (P_X8_at F x1 x3 (nI 5) h3 (fun (r6 : Int32) (h5 : AH) => vp_in r6 441 ∧ (rc4 x1 (x2 + (((h1 57 r2.toNatClampNeg) + (h3 57 r4.toNatClampNeg)) + (h5 57 r6.toNatClampNeg))) (x3 + (nI 1)) h5))))))))) n
theorem X8_countsOf_c4_s {F : Nat} {K : Int32 → AH → Prop} {n : Nat} {x1 : Int32} {x2 : Int32} {x3 : Int32} {h : AH} : X8_countsOf_c4 F K (n + 1) x1 x2 x3 h = (vp_in (nI 0) 441 ∧ (if (h 57 (nI 0).toNatClampNeg) ≤ x3 then (K x2 h) else (P_X8_at F x1 x3 (nI 2) h (fun (r2 : Int32) (h1 : AH) => vp_in r2 441 ∧ (P_X8_at F x1 x3 (nI 4) h1 (fun (r4 : Int32) (h3 : AH) => vp_in r4 441 ∧ (P_X8_at F x1 x3 (nI 5) h3 (fun (r6 : Int32) (h5 : AH) => vp_in r6 441 ∧ ((X8_countsOf_c4 F K n) x1 (x2 + (((h1 57 r2.toNatClampNeg) + (h3 57 r4.toNatClampNeg)) + (h5 57 r6.toNatClampNeg))) (x3 + (nI 1)) h5))))))))) := rfl
set_option maxHeartbeats 4000000 in
theorem bw_X8_countsOf_c4 {l : Launch} {d : Nat} {F : Nat} {K : Int32 → AH → Prop} (hd : 1 ≤ d) : ∀ (n : Nat) (x1 : Int32) (x2 : Int32) (x3 : Int32) (h : AH), X8_countsOf_c4 F K n x1 x2 x3 h → BW RX8 cX8_countsOf 4 (some .int) l (rmD d) tb0 3 [.ref 56, .int x1, .int x2, .int x3] [] 4 h (Qi K) := by
  have hk1 : 1 ≤ d := by omega
  have hk_X8_at : 0 ≤ d - 1 := by omega
  intro n
  induction n with
  | zero =>
    intro x1 x2 x3 h hM
    exact hM.elim
  | succ n hr4 =>
    intro x1 x2 x3 h hM
    rw [X8_countsOf_c4_s] at hM
    refine B_iload_n dX8_countsOf_4 rfl ?_
    refine B_aload_n dX8_countsOf_5 rfl ?_
    refine B_getR (sc_56) vc_8 (k := 1) (j := 57) rfl (by decide) inG8 ⟨rfl, rfl, rfl⟩ ww_fl_X8_15 dX8_countsOf_6 ?_
    refine B_iconst dX8_countsOf_9 k_ic_0 ?_
    refine B_iald (sc_57) hM dX8_countsOf_10 (fun hM => ?_)
    refine B_icmp_ge dX8_countsOf_11 hM (tgt := 58) rfl (fun hM => ?_) (fun hM => ?_)
    · refine B_iload_n dX8_countsOf_58 rfl ?_
      exact B_iret ⟨_, rfl, hM⟩ trivial dX8_countsOf_59
    · refine B_iload_n dX8_countsOf_14 rfl ?_
      refine B_aload_n dX8_countsOf_15 rfl ?_
      refine B_getR (sc_56) vc_8 (k := 1) (j := 57) rfl (by decide) inG8 ⟨rfl, rfl, rfl⟩ ww_fl_X8_15 dX8_countsOf_16 ?_
      refine B_iload_n dX8_countsOf_19 rfl ?_
      refine B_iload_n dX8_countsOf_20 rfl ?_
      refine B_iconst dX8_countsOf_21 k_ic_2 ?_
      refine B_cS3i (c_X8_at (d := d - 1) hk_X8_at  hM) csS_X8_84 hp0 (rm_f hk1) (rm_l hk1 (by decide)) (Nat.le_of_ble_eq_true rfl) dX8_countsOf_22 (fun r2 h1 hM => ?_)
      refine B_iald (sc_57) hM dX8_countsOf_25 (fun hM => ?_)
      refine B_aload_n dX8_countsOf_26 rfl ?_
      refine B_getR (sc_56) vc_8 (k := 1) (j := 57) rfl (by decide) inG8 ⟨rfl, rfl, rfl⟩ ww_fl_X8_15 dX8_countsOf_27 ?_
      refine B_iload_n dX8_countsOf_30 rfl ?_
      refine B_iload_n dX8_countsOf_31 rfl ?_
      refine B_iconst dX8_countsOf_32 k_ic_4 ?_
      refine B_cS3i (c_X8_at (d := d - 1) hk_X8_at  hM) csS_X8_84 hp0 (rm_f hk1) (rm_l hk1 (by decide)) (Nat.le_of_ble_eq_true rfl) dX8_countsOf_33 (fun r4 h3 hM => ?_)
      refine B_iald (sc_57) hM dX8_countsOf_36 (fun hM => ?_)
      refine B_iadd dX8_countsOf_37 ?_
      refine B_aload_n dX8_countsOf_38 rfl ?_
      refine B_getR (sc_56) vc_8 (k := 1) (j := 57) rfl (by decide) inG8 ⟨rfl, rfl, rfl⟩ ww_fl_X8_15 dX8_countsOf_39 ?_
      refine B_iload_n dX8_countsOf_42 rfl ?_
      refine B_iload_n dX8_countsOf_43 rfl ?_
      refine B_iconst dX8_countsOf_44 k_ic_5 ?_
      refine B_cS3i (c_X8_at (d := d - 1) hk_X8_at  hM) csS_X8_84 hp0 (rm_f hk1) (rm_l hk1 (by decide)) (Nat.le_of_ble_eq_true rfl) dX8_countsOf_45 (fun r6 h5 hM => ?_)
      refine B_iald (sc_57) hM dX8_countsOf_48 (fun hM => ?_)
      refine B_iadd dX8_countsOf_49 ?_
      refine B_iadd dX8_countsOf_50 ?_
      refine B_istore_n dX8_countsOf_51 (Nat.le_of_ble_eq_true rfl) ?_
      refine B_iinc dX8_countsOf_52 rfl k_ic_1 (Nat.le_of_ble_eq_true rfl) ?_
      refine B_goto (tgt := 4) dX8_countsOf_55 rfl ?_
      exact B_wk (hr4 _ _ _ _ hM) (wk_1 (wk_1 (wk_1 (wk_1 wk_n))))
def P_X8_countsOf (F : Nat) (a1 : Int32) (h : AH) (K : Int32 → AH → Prop) : Prop := X8_countsOf_c4 F K F a1 (nI 0) (nI 0) h
set_option maxHeartbeats 4000000 in
theorem c_X8_countsOf {l : Launch} {d : Nat} {F : Nat} {a1 : Int32} {h : AH} {K : Int32 → AH → Prop} (hd : 1 ≤ d) (hM : P_X8_countsOf F a1 h K) : Ct l yX8_countsOf cX8_countsOf 4 (some .int) (rmD d) [.ref 56, .int a1] h (Qi K) := by
  have hk1 : 1 ≤ d := by omega
  have hk_X8_at : 0 ≤ d - 1 := by omega
  refine Ct_ofBW (by decide) rfl (Nat.le_of_ble_eq_true rfl) ⟨rfl, rfl⟩ ?_
  show BW RX8 cX8_countsOf 4 (some .int) l (rmD d) tb0 3 [.ref 56, .int a1, .null, .null] [] 0 h (Qi K)
  unfold P_X8_countsOf at hM
  refine B_iconst dX8_countsOf_0 k_ic_0 ?_
  refine B_istore_n dX8_countsOf_1 (Nat.le_of_ble_eq_true rfl) ?_
  refine B_iconst dX8_countsOf_2 k_ic_0 ?_
  refine B_istore_n dX8_countsOf_3 (Nat.le_of_ble_eq_true rfl) ?_
  exact B_wk (bw_X8_countsOf_c4 hd  _ _ _ _ _ hM) (wk_1 (wk_1 (wk_1 (wk_1 wk_n))))

def X8_leastOf_c40 (F : Nat) (rc5 : Int32 → Int32 → Int32 → AH → Prop) (K : Int32 → AH → Prop) (x1 : Int32) (x2 : Int32) (x3 : Int32) (h : AH) : Prop := rc5 x1 x2 (x3 + (nI 1)) h
set_option maxHeartbeats 4000000 in
theorem bw_X8_leastOf_c40 {l : Launch} {d : Nat} {F : Nat} {rc5 : Int32 → Int32 → Int32 → AH → Prop} {K : Int32 → AH → Prop} {x1 : Int32} {x2 : Int32} {x3 : Int32} {h : AH} (hd : 2 ≤ d) (hr5 : ∀ (x1 : Int32) (x2 : Int32) (x3 : Int32) (h : AH), rc5 x1 x2 x3 h → BW RX8 cX8_leastOf 4 (some .int) l (rmD d) tb0 3 [.ref 56, .int x1, .int x2, .int x3] [] 5 h (Qi K)) (hM : X8_leastOf_c40 F rc5 K x1 x2 x3 h) : BW RX8 cX8_leastOf 4 (some .int) l (rmD d) tb0 3 [.ref 56, .int x1, .int x2, .int x3] [] 40 h (Qi K) := by
  have hk1 : 1 ≤ d := by omega
  have hk_X8_countsOf : 1 ≤ d - 1 := by omega
  have hk_X8_has : 0 ≤ d - 1 := by omega
  unfold X8_leastOf_c40 at hM
  refine B_iinc dX8_leastOf_40 rfl k_ic_1 (Nat.le_of_ble_eq_true rfl) ?_
  refine B_goto (tgt := 5) dX8_leastOf_43 rfl ?_
  exact B_wk (hr5 _ _ _ _ hM) (wk_1 (wk_1 (wk_1 (wk_1 wk_n))))
def X8_leastOf_c38 (F : Nat) (rc5 : Int32 → Int32 → Int32 → AH → Prop) (K : Int32 → AH → Prop) (x1 : Int32) (x3 : Int32) (h : AH) : Prop := X8_leastOf_c40 F rc5 K x1 x3 x3 h
set_option maxHeartbeats 4000000 in
theorem bw_X8_leastOf_c38 {l : Launch} {d : Nat} {F : Nat} {rc5 : Int32 → Int32 → Int32 → AH → Prop} {K : Int32 → AH → Prop} {x1 : Int32} {x3 : Int32} {h : AH} (hd : 2 ≤ d) (hr5 : ∀ (x1 : Int32) (x2 : Int32) (x3 : Int32) (h : AH), rc5 x1 x2 x3 h → BW RX8 cX8_leastOf 4 (some .int) l (rmD d) tb0 3 [.ref 56, .int x1, .int x2, .int x3] [] 5 h (Qi K)) (hM : X8_leastOf_c38 F rc5 K x1 x3 h) : BW RX8 cX8_leastOf 4 (some .int) l (rmD d) tb0 3 [.ref 56, .int x1, .null, .int x3] [] 38 h (Qi K) := by
  have hk1 : 1 ≤ d := by omega
  have hk_X8_countsOf : 1 ≤ d - 1 := by omega
  have hk_X8_has : 0 ≤ d - 1 := by omega
  unfold X8_leastOf_c38 at hM
  refine B_iload_n dX8_leastOf_38 rfl ?_
  refine B_istore_n dX8_leastOf_39 (Nat.le_of_ble_eq_true rfl) ?_
  exact B_wk (bw_X8_leastOf_c40 hd hr5 hM) (wk_1 (wk_1 (wk_1 (wk_1 wk_n))))
def X8_leastOf_c5 (F : Nat) (K : Int32 → AH → Prop) (n : Nat) : Int32 → Int32 → Int32 → AH → Prop := Nat.rec (motive := fun _ => Int32 → Int32 → Int32 → AH → Prop) (fun _ _ _ _ => False) (fun _ rc5 x1 x2 x3 h => if (nI 6) ≤ x3 then (K x2 h) else (P_X8_has F x1 x3 h (fun (r2 : Int32) (h1 : AH) => if r2 = (nI 0) then (X8_leastOf_c40 F rc5 K x1 x2 x3 h1) else (if x2 = (-2 : Int32) then (X8_leastOf_c38 F rc5 K x1 x3 h1) else (P_X8_countsOf F x3 h1 (fun (r4 : Int32) (h3 : AH) => P_X8_countsOf F x2 h3 (fun (r6 : Int32) (h5 : AH) => if r6 < r4 then (X8_leastOf_c40 F rc5 K x1 x2 x3 h5) else (X8_leastOf_c38 F rc5 K x1 x3 h5)))))))) n
theorem X8_leastOf_c5_s {F : Nat} {K : Int32 → AH → Prop} {n : Nat} {x1 : Int32} {x2 : Int32} {x3 : Int32} {h : AH} : X8_leastOf_c5 F K (n + 1) x1 x2 x3 h = (if (nI 6) ≤ x3 then (K x2 h) else (P_X8_has F x1 x3 h (fun (r2 : Int32) (h1 : AH) => if r2 = (nI 0) then (X8_leastOf_c40 F (X8_leastOf_c5 F K n) K x1 x2 x3 h1) else (if x2 = (-2 : Int32) then (X8_leastOf_c38 F (X8_leastOf_c5 F K n) K x1 x3 h1) else (P_X8_countsOf F x3 h1 (fun (r4 : Int32) (h3 : AH) => P_X8_countsOf F x2 h3 (fun (r6 : Int32) (h5 : AH) => if r6 < r4 then (X8_leastOf_c40 F (X8_leastOf_c5 F K n) K x1 x2 x3 h5) else (X8_leastOf_c38 F (X8_leastOf_c5 F K n) K x1 x3 h5)))))))) := rfl
set_option maxHeartbeats 4000000 in
theorem bw_X8_leastOf_c5 {l : Launch} {d : Nat} {F : Nat} {K : Int32 → AH → Prop} (hd : 2 ≤ d) : ∀ (n : Nat) (x1 : Int32) (x2 : Int32) (x3 : Int32) (h : AH), X8_leastOf_c5 F K n x1 x2 x3 h → BW RX8 cX8_leastOf 4 (some .int) l (rmD d) tb0 3 [.ref 56, .int x1, .int x2, .int x3] [] 5 h (Qi K) := by
  have hk1 : 1 ≤ d := by omega
  have hk_X8_countsOf : 1 ≤ d - 1 := by omega
  have hk_X8_has : 0 ≤ d - 1 := by omega
  intro n
  induction n with
  | zero =>
    intro x1 x2 x3 h hM
    exact hM.elim
  | succ n hr5 =>
    intro x1 x2 x3 h hM
    rw [X8_leastOf_c5_s] at hM
    refine B_iload_n dX8_leastOf_5 rfl ?_
    refine B_bipush dX8_leastOf_6 k_bi_6 ?_
    refine B_icmp_ge dX8_leastOf_8 hM (tgt := 46) rfl (fun hM => ?_) (fun hM => ?_)
    · refine B_iload_n dX8_leastOf_46 rfl ?_
      exact B_iret ⟨_, rfl, hM⟩ trivial dX8_leastOf_47
    · refine B_iload_n dX8_leastOf_11 rfl ?_
      refine B_iload_n dX8_leastOf_12 rfl ?_
      refine B_cS2i (c_X8_has (d := d - 1) hk_X8_has  hM) csS_X8_80 hp0 (rm_f hk1) (rm_l hk1 (by decide)) (Nat.le_of_ble_eq_true rfl) dX8_leastOf_13 (fun r2 h1 hM => ?_)
      refine B_if_eq dX8_leastOf_16 hM (tgt := 40) rfl (fun hM => ?_) (fun hM => ?_)
      · exact B_wk (bw_X8_leastOf_c40 hd hr5 hM) (wk_1 (wk_1 (wk_1 (wk_1 wk_n))))
      · refine B_iload_n dX8_leastOf_19 rfl ?_
        refine B_bipush dX8_leastOf_20 k_bi_m2 ?_
        refine B_icmp_eq dX8_leastOf_22 hM (tgt := 38) rfl (fun hM => ?_) (fun hM => ?_)
        · exact B_wk (bw_X8_leastOf_c38 hd hr5 hM) (wk_1 (wk_1 (wk_0 (wk_1 wk_n))))
        · refine B_aload_n dX8_leastOf_25 rfl ?_
          refine B_iload_n dX8_leastOf_26 rfl ?_
          refine B_cV1i (c_X8_countsOf (d := d - 1) hk_X8_countsOf  hM) csV_X8_168 (sc_56) vc_8 rfl hp0 (rm_f hk1) (rm_l hk1 (by decide)) (Nat.le_of_ble_eq_true rfl) dX8_leastOf_27 (fun r4 h3 hM => ?_)
          refine B_aload_n dX8_leastOf_30 rfl ?_
          refine B_iload_n dX8_leastOf_31 rfl ?_
          refine B_cV1i (c_X8_countsOf (d := d - 1) hk_X8_countsOf  hM) csV_X8_168 (sc_56) vc_8 rfl hp0 (rm_f hk1) (rm_l hk1 (by decide)) (Nat.le_of_ble_eq_true rfl) dX8_leastOf_32 (fun r6 h5 hM => ?_)
          refine B_icmp_gt dX8_leastOf_35 hM (tgt := 40) rfl (fun hM => ?_) (fun hM => ?_)
          · exact B_wk (bw_X8_leastOf_c40 hd hr5 hM) (wk_1 (wk_1 (wk_1 (wk_1 wk_n))))
          · exact B_wk (bw_X8_leastOf_c38 hd hr5 hM) (wk_1 (wk_1 (wk_0 (wk_1 wk_n))))
def P_X8_leastOf (F : Nat) (a1 : Int32) (h : AH) (K : Int32 → AH → Prop) : Prop := X8_leastOf_c5 F K F a1 (-2 : Int32) (nI 0) h
set_option maxHeartbeats 4000000 in
theorem c_X8_leastOf {l : Launch} {d : Nat} {F : Nat} {a1 : Int32} {h : AH} {K : Int32 → AH → Prop} (hd : 2 ≤ d) (hM : P_X8_leastOf F a1 h K) : Ct l yX8_leastOf cX8_leastOf 4 (some .int) (rmD d) [.ref 56, .int a1] h (Qi K) := by
  have hk1 : 1 ≤ d := by omega
  have hk_X8_countsOf : 1 ≤ d - 1 := by omega
  have hk_X8_has : 0 ≤ d - 1 := by omega
  refine Ct_ofBW (by decide) rfl (Nat.le_of_ble_eq_true rfl) ⟨rfl, rfl⟩ ?_
  show BW RX8 cX8_leastOf 4 (some .int) l (rmD d) tb0 3 [.ref 56, .int a1, .null, .null] [] 0 h (Qi K)
  unfold P_X8_leastOf at hM
  refine B_bipush dX8_leastOf_0 k_bi_m2 ?_
  refine B_istore_n dX8_leastOf_2 (Nat.le_of_ble_eq_true rfl) ?_
  refine B_iconst dX8_leastOf_3 k_ic_0 ?_
  refine B_istore_n dX8_leastOf_4 (Nat.le_of_ble_eq_true rfl) ?_
  exact B_wk (bw_X8_leastOf_c5 hd  _ _ _ _ _ hM) (wk_1 (wk_1 (wk_1 (wk_1 wk_n))))

def P_X8_breaks (F : Nat) (h : AH) (K : Int32 → AH → Prop) : Prop := P_X8_ringNow F h (fun (r2 : Int32) (h1 : AH) => P_X8_leastOf F r2 h1 (fun (r4 : Int32) (h3 : AH) => if r4 = (-2 : Int32) then (K r4 h3) else (P_X8_leavesAll F r4 h3 (fun (r6 : Int32) (h5 : AH) => K r4 h5))))
set_option maxHeartbeats 4000000 in
theorem c_X8_breaks {l : Launch} {d : Nat} {F : Nat} {h : AH} {K : Int32 → AH → Prop} (hd : 9 ≤ d) (hM : P_X8_breaks F h K) : Ct l yX8_breaks cX8_breaks 2 (some .int) (rmD d) [.ref 56] h (Qi K) := by
  have hk1 : 1 ≤ d := by omega
  have hk_X8_leastOf : 2 ≤ d - 1 := by omega
  have hk_X8_leavesAll : 8 ≤ d - 1 := by omega
  have hk_X8_ringNow : 8 ≤ d - 1 := by omega
  refine Ct_ofBW (by decide) rfl (Nat.le_of_ble_eq_true rfl) ⟨rfl, rfl⟩ ?_
  show BW RX8 cX8_breaks 2 (some .int) l (rmD d) tb0 3 [.ref 56, .null] [] 0 h (Qi K)
  unfold P_X8_breaks at hM
  refine B_aload_n dX8_breaks_0 rfl ?_
  refine B_aload_n dX8_breaks_1 rfl ?_
  refine B_cV0i (c_X8_ringNow (d := d - 1) hk_X8_ringNow  hM) csV_X8_171 (sc_56) vc_8 rfl hp0 (rm_f hk1) (rm_l hk1 (by decide)) (Nat.le_of_ble_eq_true rfl) dX8_breaks_2 (fun r2 h1 hM => ?_)
  refine B_cV1i (c_X8_leastOf (d := d - 1) hk_X8_leastOf  hM) csV_X8_174 (sc_56) vc_8 rfl hp0 (rm_f hk1) (rm_l hk1 (by decide)) (Nat.le_of_ble_eq_true rfl) dX8_breaks_5 (fun r4 h3 hM => ?_)
  refine B_istore_n dX8_breaks_8 (Nat.le_of_ble_eq_true rfl) ?_
  refine B_iload_n dX8_breaks_9 rfl ?_
  refine B_bipush dX8_breaks_10 k_bi_m2 ?_
  refine B_icmp_eq dX8_breaks_12 hM (tgt := 21) rfl (fun hM => ?_) (fun hM => ?_)
  · refine B_iload_n dX8_breaks_21 rfl ?_
    exact B_iret ⟨_, rfl, hM⟩ trivial dX8_breaks_22
  · refine B_aload_n dX8_breaks_15 rfl ?_
    refine B_iload_n dX8_breaks_16 rfl ?_
    refine B_cV1i (c_X8_leavesAll (d := d - 1) hk_X8_leavesAll  hM) csV_X8_159 (sc_56) vc_8 rfl hp0 (rm_f hk1) (rm_l hk1 (by decide)) (Nat.le_of_ble_eq_true rfl) dX8_breaks_17 (fun r6 h5 hM => ?_)
    refine B_popI dX8_breaks_20 ?_
    refine B_iload_n dX8_breaks_21 rfl ?_
    exact B_iret ⟨_, rfl, hM⟩ trivial dX8_breaks_22

def P_X8_held (F : Nat) (a1 : Int32) (a2 : Int32) (a3 : Int32) (h : AH) (K : Int32 → AH → Prop) : Prop := P_X8_isOwner F a1 h (fun (r2 : Int32) (h1 : AH) => if r2 = (nI 0) then (K (-1 : Int32) h1) else (P_X8_isThing F a2 h1 (fun (r4 : Int32) (h3 : AH) => if r4 = (nI 0) then (K (-1 : Int32) h3) else (P_X8_in F a3 (nI 1) (nI 5) h3 (fun (r6 : Int32) (h5 : AH) => if r6 = (nI 0) then (K (-1 : Int32) h5) else (P_X8_at F a1 a2 a3 h5 (fun (r8 : Int32) (h7 : AH) => vp_in r8 441 ∧ (K (h7 57 r8.toNatClampNeg) h7))))))))
set_option maxHeartbeats 4000000 in
theorem c_X8_held {l : Launch} {d : Nat} {F : Nat} {a1 : Int32} {a2 : Int32} {a3 : Int32} {h : AH} {K : Int32 → AH → Prop} (hd : 2 ≤ d) (hM : P_X8_held F a1 a2 a3 h K) : Ct l yX8_held cX8_held 4 (some .int) (rmD d) [.ref 56, .int a1, .int a2, .int a3] h (Qi K) := by
  have hk1 : 1 ≤ d := by omega
  have hk_X8_at : 0 ≤ d - 1 := by omega
  have hk_X8_in : 0 ≤ d - 1 := by omega
  have hk_X8_isOwner : 1 ≤ d - 1 := by omega
  have hk_X8_isThing : 1 ≤ d - 1 := by omega
  refine Ct_ofBW (by decide) rfl (Nat.le_of_ble_eq_true rfl) ⟨rfl, rfl⟩ ?_
  show BW RX8 cX8_held 4 (some .int) l (rmD d) tb0 3 [.ref 56, .int a1, .int a2, .int a3] [] 0 h (Qi K)
  unfold P_X8_held at hM
  refine B_iload_n dX8_held_0 rfl ?_
  refine B_cS1i (c_X8_isOwner (d := d - 1) hk_X8_isOwner  hM) csS_X8_66 hp0 (rm_f hk1) (rm_l hk1 (by decide)) (Nat.le_of_ble_eq_true rfl) dX8_held_1 (fun r2 h1 hM => ?_)
  refine B_if_eq dX8_held_4 hM (tgt := 38) rfl (fun hM => ?_) (fun hM => ?_)
  · refine B_iconst dX8_held_38 k_ic_m1 ?_
    exact B_iret ⟨_, rfl, hM⟩ trivial dX8_held_39
  · refine B_aload_n dX8_held_7 rfl ?_
    refine B_iload_n dX8_held_8 rfl ?_
    refine B_cV1i (c_X8_isThing (d := d - 1) hk_X8_isThing  hM) csV_X8_70 (sc_56) vc_8 rfl hp0 (rm_f hk1) (rm_l hk1 (by decide)) (Nat.le_of_ble_eq_true rfl) dX8_held_9 (fun r4 h3 hM => ?_)
    refine B_if_eq dX8_held_12 hM (tgt := 38) rfl (fun hM => ?_) (fun hM => ?_)
    · refine B_iconst dX8_held_38 k_ic_m1 ?_
      exact B_iret ⟨_, rfl, hM⟩ trivial dX8_held_39
    · refine B_iload_n dX8_held_15 rfl ?_
      refine B_iconst dX8_held_16 k_ic_1 ?_
      refine B_iconst dX8_held_17 k_ic_5 ?_
      refine B_cS3i (c_X8_in (d := d - 1) hk_X8_in  hM) csS_X8_62 hp0 (rm_f hk1) (rm_l hk1 (by decide)) (Nat.le_of_ble_eq_true rfl) dX8_held_18 (fun r6 h5 hM => ?_)
      refine B_if_eq dX8_held_21 hM (tgt := 38) rfl (fun hM => ?_) (fun hM => ?_)
      · refine B_iconst dX8_held_38 k_ic_m1 ?_
        exact B_iret ⟨_, rfl, hM⟩ trivial dX8_held_39
      · refine B_aload_n dX8_held_24 rfl ?_
        refine B_getR (sc_56) vc_8 (k := 1) (j := 57) rfl (by decide) inG8 ⟨rfl, rfl, rfl⟩ ww_fl_X8_15 dX8_held_25 ?_
        refine B_iload_n dX8_held_28 rfl ?_
        refine B_iload_n dX8_held_29 rfl ?_
        refine B_iload_n dX8_held_30 rfl ?_
        refine B_cS3i (c_X8_at (d := d - 1) hk_X8_at  hM) csS_X8_84 hp0 (rm_f hk1) (rm_l hk1 (by decide)) (Nat.le_of_ble_eq_true rfl) dX8_held_31 (fun r8 h7 hM => ?_)
        refine B_iald (sc_57) hM dX8_held_34 (fun hM => ?_)
        refine B_goto (tgt := 39) dX8_held_35 rfl ?_
        exact B_iret ⟨_, rfl, hM⟩ trivial dX8_held_39

def X8_holders_c75 (F : Nat) (rc24 : Int32 → Int32 → Int32 → Int32 → AH → Prop) (rc34 : Int32 → Int32 → Int32 → Int32 → Int32 → AH → Prop) (K : Int32 → AH → Prop) (x1 : Int32) (x2 : Int32) (x4 : Int32) (x5 : Int32) (s0 : Int32) (s1 : Int32) (h : AH) : Prop := rc34 x1 x2 (s0 ||| s1) x4 (x5 + (nI 1)) h
set_option maxHeartbeats 4000000 in
theorem bw_X8_holders_c75 {l : Launch} {d : Nat} {F : Nat} {rc24 : Int32 → Int32 → Int32 → Int32 → AH → Prop} {rc34 : Int32 → Int32 → Int32 → Int32 → Int32 → AH → Prop} {K : Int32 → AH → Prop} {x1 : Int32} {x2 : Int32} {x4 : Int32} {x5 : Int32} {s0 : Int32} {s1 : Int32} {h : AH} (hd : 2 ≤ d) (hr24 : ∀ (x1 : Int32) (x2 : Int32) (x3 : Int32) (x4 : Int32) (h : AH), rc24 x1 x2 x3 x4 h → BW RX8 cX8_holders 6 (some .int) l (rmD d) tb0 3 [.ref 56, .int x1, .int x2, .int x3, .int x4, .null] [] 24 h (Qi K)) (hr34 : ∀ (x1 : Int32) (x2 : Int32) (x3 : Int32) (x4 : Int32) (x5 : Int32) (h : AH), rc34 x1 x2 x3 x4 x5 h → BW RX8 cX8_holders 6 (some .int) l (rmD d) tb0 3 [.ref 56, .int x1, .int x2, .int x3, .int x4, .int x5] [] 34 h (Qi K)) (hM : X8_holders_c75 F rc24 rc34 K x1 x2 x4 x5 s0 s1 h) : BW RX8 cX8_holders 6 (some .int) l (rmD d) tb0 3 [.ref 56, .int x1, .int x2, .null, .int x4, .int x5] [.int s1, .int s0] 75 h (Qi K) := by
  have hk1 : 1 ≤ d := by omega
  have hk_X8_at : 0 ≤ d - 1 := by omega
  have hk_X8_in : 0 ≤ d - 1 := by omega
  have hk_X8_isThing : 1 ≤ d - 1 := by omega
  unfold X8_holders_c75 at hM
  refine B_ior dX8_holders_75 ?_
  refine B_istore_n dX8_holders_76 (Nat.le_of_ble_eq_true rfl) ?_
  refine B_iinc dX8_holders_77 rfl k_ic_1 (Nat.le_of_ble_eq_true rfl) ?_
  refine B_goto (tgt := 34) dX8_holders_80 rfl ?_
  exact B_wk (hr34 _ _ _ _ _ _ hM) (wk_1 (wk_1 (wk_1 (wk_1 (wk_1 (wk_1 wk_n))))))
def X8_holders_c74 (F : Nat) (rc24 : Int32 → Int32 → Int32 → Int32 → AH → Prop) (rc34 : Int32 → Int32 → Int32 → Int32 → Int32 → AH → Prop) (K : Int32 → AH → Prop) (x1 : Int32) (x2 : Int32) (x4 : Int32) (x5 : Int32) (s0 : Int32) (h : AH) : Prop := X8_holders_c75 F rc24 rc34 K x1 x2 x4 x5 s0 (nI 0) h
set_option maxHeartbeats 4000000 in
theorem bw_X8_holders_c74 {l : Launch} {d : Nat} {F : Nat} {rc24 : Int32 → Int32 → Int32 → Int32 → AH → Prop} {rc34 : Int32 → Int32 → Int32 → Int32 → Int32 → AH → Prop} {K : Int32 → AH → Prop} {x1 : Int32} {x2 : Int32} {x4 : Int32} {x5 : Int32} {s0 : Int32} {h : AH} (hd : 2 ≤ d) (hr24 : ∀ (x1 : Int32) (x2 : Int32) (x3 : Int32) (x4 : Int32) (h : AH), rc24 x1 x2 x3 x4 h → BW RX8 cX8_holders 6 (some .int) l (rmD d) tb0 3 [.ref 56, .int x1, .int x2, .int x3, .int x4, .null] [] 24 h (Qi K)) (hr34 : ∀ (x1 : Int32) (x2 : Int32) (x3 : Int32) (x4 : Int32) (x5 : Int32) (h : AH), rc34 x1 x2 x3 x4 x5 h → BW RX8 cX8_holders 6 (some .int) l (rmD d) tb0 3 [.ref 56, .int x1, .int x2, .int x3, .int x4, .int x5] [] 34 h (Qi K)) (hM : X8_holders_c74 F rc24 rc34 K x1 x2 x4 x5 s0 h) : BW RX8 cX8_holders 6 (some .int) l (rmD d) tb0 3 [.ref 56, .int x1, .int x2, .null, .int x4, .int x5] [.int s0] 74 h (Qi K) := by
  have hk1 : 1 ≤ d := by omega
  have hk_X8_at : 0 ≤ d - 1 := by omega
  have hk_X8_in : 0 ≤ d - 1 := by omega
  have hk_X8_isThing : 1 ≤ d - 1 := by omega
  unfold X8_holders_c74 at hM
  refine B_iconst dX8_holders_74 k_ic_0 ?_
  exact B_wk (bw_X8_holders_c75 hd hr24 hr34 hM) (wk_1 (wk_1 (wk_1 (wk_0 (wk_1 (wk_1 wk_n))))))
def X8_holders_c51 (F : Nat) (rc24 : Int32 → Int32 → Int32 → Int32 → AH → Prop) (rc34 : Int32 → Int32 → Int32 → Int32 → Int32 → AH → Prop) (K : Int32 → AH → Prop) (x1 : Int32) (x2 : Int32) (x4 : Int32) (x5 : Int32) (s0 : Int32) (h : AH) : Prop := P_X8_at F x4 x1 x5 h (fun (r2 : Int32) (h1 : AH) => vp_in r2 441 ∧ (if (h1 57 r2.toNatClampNeg) ≤ (nI 0) then (X8_holders_c74 F rc24 rc34 K x1 x2 x4 x5 s0 h1) else (X8_holders_c75 F rc24 rc34 K x1 x2 x4 x5 s0 ((nI 1) <<< (x4 &&& 31)) h1)))
set_option maxHeartbeats 4000000 in
theorem bw_X8_holders_c51 {l : Launch} {d : Nat} {F : Nat} {rc24 : Int32 → Int32 → Int32 → Int32 → AH → Prop} {rc34 : Int32 → Int32 → Int32 → Int32 → Int32 → AH → Prop} {K : Int32 → AH → Prop} {x1 : Int32} {x2 : Int32} {x4 : Int32} {x5 : Int32} {s0 : Int32} {h : AH} (hd : 2 ≤ d) (hr24 : ∀ (x1 : Int32) (x2 : Int32) (x3 : Int32) (x4 : Int32) (h : AH), rc24 x1 x2 x3 x4 h → BW RX8 cX8_holders 6 (some .int) l (rmD d) tb0 3 [.ref 56, .int x1, .int x2, .int x3, .int x4, .null] [] 24 h (Qi K)) (hr34 : ∀ (x1 : Int32) (x2 : Int32) (x3 : Int32) (x4 : Int32) (x5 : Int32) (h : AH), rc34 x1 x2 x3 x4 x5 h → BW RX8 cX8_holders 6 (some .int) l (rmD d) tb0 3 [.ref 56, .int x1, .int x2, .int x3, .int x4, .int x5] [] 34 h (Qi K)) (hM : X8_holders_c51 F rc24 rc34 K x1 x2 x4 x5 s0 h) : BW RX8 cX8_holders 6 (some .int) l (rmD d) tb0 3 [.ref 56, .int x1, .int x2, .null, .int x4, .int x5] [.int s0] 51 h (Qi K) := by
  have hk1 : 1 ≤ d := by omega
  have hk_X8_at : 0 ≤ d - 1 := by omega
  have hk_X8_in : 0 ≤ d - 1 := by omega
  have hk_X8_isThing : 1 ≤ d - 1 := by omega
  unfold X8_holders_c51 at hM
  refine B_aload_n dX8_holders_51 rfl ?_
  refine B_getR (sc_56) vc_8 (k := 1) (j := 57) rfl (by decide) inG8 ⟨rfl, rfl, rfl⟩ ww_fl_X8_15 dX8_holders_52 ?_
  refine B_iload dX8_holders_55 rfl ?_
  refine B_iload_n dX8_holders_57 rfl ?_
  refine B_iload dX8_holders_58 rfl ?_
  refine B_cS3i (c_X8_at (d := d - 1) hk_X8_at  hM) csS_X8_84 hp0 (rm_f hk1) (rm_l hk1 (by decide)) (Nat.le_of_ble_eq_true rfl) dX8_holders_60 (fun r2 h1 hM => ?_)
  refine B_iald (sc_57) hM dX8_holders_63 (fun hM => ?_)
  refine B_if_le dX8_holders_64 hM (tgt := 74) rfl (fun hM => ?_) (fun hM => ?_)
  · exact B_wk (bw_X8_holders_c74 hd hr24 hr34 hM) (wk_1 (wk_1 (wk_1 (wk_0 (wk_1 (wk_1 wk_n))))))
  · refine B_iconst dX8_holders_67 k_ic_1 ?_
    refine B_iload dX8_holders_68 rfl ?_
    refine B_ishl dX8_holders_70 ?_
    refine B_goto (tgt := 75) dX8_holders_71 rfl ?_
    exact B_wk (bw_X8_holders_c75 hd hr24 hr34 hM) (wk_1 (wk_1 (wk_1 (wk_0 (wk_1 (wk_1 wk_n))))))
def X8_holders_c34 (F : Nat) (rc24 : Int32 → Int32 → Int32 → Int32 → AH → Prop) (K : Int32 → AH → Prop) (n : Nat) : Int32 → Int32 → Int32 → Int32 → Int32 → AH → Prop := Nat.rec (motive := fun _ => Int32 → Int32 → Int32 → Int32 → Int32 → AH → Prop) (fun _ _ _ _ _ _ => False) (fun _ rc34 x1 x2 x3 x4 x5 h => if (nI 5) < x5 then (rc24 x1 x2 x3 (x4 + (nI 1)) h) else (if x2 = (nI 0) then (X8_holders_c51 F rc24 rc34 K x1 x2 x4 x5 x3 h) else (if ¬ x2 = x5 then (X8_holders_c74 F rc24 rc34 K x1 x2 x4 x5 x3 h) else (X8_holders_c51 F rc24 rc34 K x1 x2 x4 x5 x3 h)))) n
theorem X8_holders_c34_s {F : Nat} {rc24 : Int32 → Int32 → Int32 → Int32 → AH → Prop} {K : Int32 → AH → Prop} {n : Nat} {x1 : Int32} {x2 : Int32} {x3 : Int32} {x4 : Int32} {x5 : Int32} {h : AH} : X8_holders_c34 F rc24 K (n + 1) x1 x2 x3 x4 x5 h = (if (nI 5) < x5 then (rc24 x1 x2 x3 (x4 + (nI 1)) h) else (if x2 = (nI 0) then (X8_holders_c51 F rc24 (X8_holders_c34 F rc24 K n) K x1 x2 x4 x5 x3 h) else (if ¬ x2 = x5 then (X8_holders_c74 F rc24 (X8_holders_c34 F rc24 K n) K x1 x2 x4 x5 x3 h) else (X8_holders_c51 F rc24 (X8_holders_c34 F rc24 K n) K x1 x2 x4 x5 x3 h)))) := rfl
set_option maxHeartbeats 4000000 in
theorem bw_X8_holders_c34 {l : Launch} {d : Nat} {F : Nat} {rc24 : Int32 → Int32 → Int32 → Int32 → AH → Prop} {K : Int32 → AH → Prop} (hd : 2 ≤ d) (hr24 : ∀ (x1 : Int32) (x2 : Int32) (x3 : Int32) (x4 : Int32) (h : AH), rc24 x1 x2 x3 x4 h → BW RX8 cX8_holders 6 (some .int) l (rmD d) tb0 3 [.ref 56, .int x1, .int x2, .int x3, .int x4, .null] [] 24 h (Qi K)) : ∀ (n : Nat) (x1 : Int32) (x2 : Int32) (x3 : Int32) (x4 : Int32) (x5 : Int32) (h : AH), X8_holders_c34 F rc24 K n x1 x2 x3 x4 x5 h → BW RX8 cX8_holders 6 (some .int) l (rmD d) tb0 3 [.ref 56, .int x1, .int x2, .int x3, .int x4, .int x5] [] 34 h (Qi K) := by
  have hk1 : 1 ≤ d := by omega
  have hk_X8_at : 0 ≤ d - 1 := by omega
  have hk_X8_in : 0 ≤ d - 1 := by omega
  have hk_X8_isThing : 1 ≤ d - 1 := by omega
  intro n
  induction n with
  | zero =>
    intro x1 x2 x3 x4 x5 h hM
    exact hM.elim
  | succ n hr34 =>
    intro x1 x2 x3 x4 x5 h hM
    rw [X8_holders_c34_s] at hM
    refine B_iload dX8_holders_34 rfl ?_
    refine B_iconst dX8_holders_36 k_ic_5 ?_
    refine B_icmp_gt dX8_holders_37 hM (tgt := 83) rfl (fun hM => ?_) (fun hM => ?_)
    · refine B_iinc dX8_holders_83 rfl k_ic_1 (Nat.le_of_ble_eq_true rfl) ?_
      refine B_goto (tgt := 24) dX8_holders_86 rfl ?_
      exact B_wk (hr24 _ _ _ _ _ hM) (wk_1 (wk_1 (wk_1 (wk_1 (wk_1 (wk_0 wk_n))))))
    · refine B_iload_n dX8_holders_40 rfl ?_
      refine B_iload_n dX8_holders_41 rfl ?_
      refine B_if_eq dX8_holders_42 hM (tgt := 51) rfl (fun hM => ?_) (fun hM => ?_)
      · exact B_wk (bw_X8_holders_c51 hd hr24 hr34 hM) (wk_1 (wk_1 (wk_1 (wk_0 (wk_1 (wk_1 wk_n))))))
      · refine B_iload_n dX8_holders_45 rfl ?_
        refine B_iload dX8_holders_46 rfl ?_
        refine B_icmp_ne dX8_holders_48 hM (tgt := 74) rfl (fun hM => ?_) (fun hM => ?_)
        · exact B_wk (bw_X8_holders_c74 hd hr24 hr34 hM) (wk_1 (wk_1 (wk_1 (wk_0 (wk_1 (wk_1 wk_n))))))
        · exact B_wk (bw_X8_holders_c51 hd hr24 hr34 hM) (wk_1 (wk_1 (wk_1 (wk_0 (wk_1 (wk_1 wk_n))))))
def X8_holders_c24 (F : Nat) (K : Int32 → AH → Prop) (n : Nat) : Int32 → Int32 → Int32 → Int32 → AH → Prop := Nat.rec (motive := fun _ => Int32 → Int32 → Int32 → Int32 → AH → Prop) (fun _ _ _ _ _ => False) (fun _ rc24 x1 x2 x3 x4 h => if (nI 6) ≤ x4 then (K x3 h) else (X8_holders_c34 F rc24 K F x1 x2 x3 x4 (nI 1) h)) n
theorem X8_holders_c24_s {F : Nat} {K : Int32 → AH → Prop} {n : Nat} {x1 : Int32} {x2 : Int32} {x3 : Int32} {x4 : Int32} {h : AH} : X8_holders_c24 F K (n + 1) x1 x2 x3 x4 h = (if (nI 6) ≤ x4 then (K x3 h) else (X8_holders_c34 F (X8_holders_c24 F K n) K F x1 x2 x3 x4 (nI 1) h)) := rfl
set_option maxHeartbeats 4000000 in
theorem bw_X8_holders_c24 {l : Launch} {d : Nat} {F : Nat} {K : Int32 → AH → Prop} (hd : 2 ≤ d) : ∀ (n : Nat) (x1 : Int32) (x2 : Int32) (x3 : Int32) (x4 : Int32) (h : AH), X8_holders_c24 F K n x1 x2 x3 x4 h → BW RX8 cX8_holders 6 (some .int) l (rmD d) tb0 3 [.ref 56, .int x1, .int x2, .int x3, .int x4, .null] [] 24 h (Qi K) := by
  have hk1 : 1 ≤ d := by omega
  have hk_X8_at : 0 ≤ d - 1 := by omega
  have hk_X8_in : 0 ≤ d - 1 := by omega
  have hk_X8_isThing : 1 ≤ d - 1 := by omega
  intro n
  induction n with
  | zero =>
    intro x1 x2 x3 x4 h hM
    exact hM.elim
  | succ n hr24 =>
    intro x1 x2 x3 x4 h hM
    rw [X8_holders_c24_s] at hM
    refine B_iload dX8_holders_24 rfl ?_
    refine B_bipush dX8_holders_26 k_bi_6 ?_
    refine B_icmp_ge dX8_holders_28 hM (tgt := 89) rfl (fun hM => ?_) (fun hM => ?_)
    · refine B_iload_n dX8_holders_89 rfl ?_
      exact B_iret ⟨_, rfl, hM⟩ trivial dX8_holders_90
    · refine B_iconst dX8_holders_31 k_ic_1 ?_
      refine B_istore dX8_holders_32 (Nat.le_of_ble_eq_true rfl) ?_
      exact B_wk (bw_X8_holders_c34 hd hr24 _ _ _ _ _ _ _ hM) (wk_1 (wk_1 (wk_1 (wk_1 (wk_1 (wk_1 wk_n))))))
def P_X8_holders (F : Nat) (a1 : Int32) (a2 : Int32) (h : AH) (K : Int32 → AH → Prop) : Prop := P_X8_isThing F a1 h (fun (r2 : Int32) (h1 : AH) => if r2 = (nI 0) then (K (-1 : Int32) h1) else (P_X8_in F a2 (nI 0) (nI 5) h1 (fun (r4 : Int32) (h3 : AH) => if ¬ r4 = (nI 0) then (X8_holders_c24 F K F a1 a2 (nI 0) (nI 0) h3) else (K (-1 : Int32) h3))))
set_option maxHeartbeats 4000000 in
theorem c_X8_holders {l : Launch} {d : Nat} {F : Nat} {a1 : Int32} {a2 : Int32} {h : AH} {K : Int32 → AH → Prop} (hd : 2 ≤ d) (hM : P_X8_holders F a1 a2 h K) : Ct l yX8_holders cX8_holders 6 (some .int) (rmD d) [.ref 56, .int a1, .int a2] h (Qi K) := by
  have hk1 : 1 ≤ d := by omega
  have hk_X8_at : 0 ≤ d - 1 := by omega
  have hk_X8_in : 0 ≤ d - 1 := by omega
  have hk_X8_isThing : 1 ≤ d - 1 := by omega
  refine Ct_ofBW (by decide) rfl (Nat.le_of_ble_eq_true rfl) ⟨rfl, rfl⟩ ?_
  show BW RX8 cX8_holders 6 (some .int) l (rmD d) tb0 3 [.ref 56, .int a1, .int a2, .null, .null, .null] [] 0 h (Qi K)
  unfold P_X8_holders at hM
  refine B_aload_n dX8_holders_0 rfl ?_
  refine B_iload_n dX8_holders_1 rfl ?_
  refine B_cV1i (c_X8_isThing (d := d - 1) hk_X8_isThing  hM) csV_X8_70 (sc_56) vc_8 rfl hp0 (rm_f hk1) (rm_l hk1 (by decide)) (Nat.le_of_ble_eq_true rfl) dX8_holders_2 (fun r2 h1 hM => ?_)
  refine B_if_eq dX8_holders_5 hM (tgt := 17) rfl (fun hM => ?_) (fun hM => ?_)
  · refine B_iconst dX8_holders_17 k_ic_m1 ?_
    exact B_iret ⟨_, rfl, hM⟩ trivial dX8_holders_18
  · refine B_iload_n dX8_holders_8 rfl ?_
    refine B_iconst dX8_holders_9 k_ic_0 ?_
    refine B_iconst dX8_holders_10 k_ic_5 ?_
    refine B_cS3i (c_X8_in (d := d - 1) hk_X8_in  hM) csS_X8_62 hp0 (rm_f hk1) (rm_l hk1 (by decide)) (Nat.le_of_ble_eq_true rfl) dX8_holders_11 (fun r4 h3 hM => ?_)
    refine B_if_ne dX8_holders_14 hM (tgt := 19) rfl (fun hM => ?_) (fun hM => ?_)
    · refine B_iconst dX8_holders_19 k_ic_0 ?_
      refine B_istore_n dX8_holders_20 (Nat.le_of_ble_eq_true rfl) ?_
      refine B_iconst dX8_holders_21 k_ic_0 ?_
      refine B_istore dX8_holders_22 (Nat.le_of_ble_eq_true rfl) ?_
      exact B_wk (bw_X8_holders_c24 hd  _ _ _ _ _ _ hM) (wk_1 (wk_1 (wk_1 (wk_1 (wk_1 (wk_0 wk_n))))))
    · refine B_iconst dX8_holders_17 k_ic_m1 ?_
      exact B_iret ⟨_, rfl, hM⟩ trivial dX8_holders_18

def P_X8_waits (F : Nat) (a1 : Int32) (h : AH) (K : Int32 → AH → Prop) : Prop := P_X8_isOwner F a1 h (fun (r2 : Int32) (h1 : AH) => if ¬ r2 = (nI 0) then (P_X8_placeOf F a1 h1 (fun (r4 : Int32) (h3 : AH) => if ¬ r4 = (-1 : Int32) then (vp_in (((nI 26) + ((nI 3) * r4)) + (nI 1)) 441 ∧ (vp_in (((nI 26) + ((nI 3) * r4)) + (nI 2)) 441 ∧ (P_X8_isRaise F a1 (h3 57 (((nI 26) + ((nI 3) * r4)) + (nI 1)).toNatClampNeg) h3 (fun (r6 : Int32) (h5 : AH) => if r6 = (nI 0) then (K ((((nI 100) * (h3 57 (((nI 26) + ((nI 3) * r4)) + (nI 1)).toNatClampNeg)) + ((nI 10) * (h3 57 (((nI 26) + ((nI 3) * r4)) + (nI 2)).toNatClampNeg))) + (nI 0)) h5) else (K ((((nI 100) * (h3 57 (((nI 26) + ((nI 3) * r4)) + (nI 1)).toNatClampNeg)) + ((nI 10) * (h3 57 (((nI 26) + ((nI 3) * r4)) + (nI 2)).toNatClampNeg))) + (nI 1)) h5))))) else (K (-2 : Int32) h3))) else (K (-1 : Int32) h1))
set_option maxHeartbeats 4000000 in
theorem c_X8_waits {l : Launch} {d : Nat} {F : Nat} {a1 : Int32} {h : AH} {K : Int32 → AH → Prop} (hd : 2 ≤ d) (hM : P_X8_waits F a1 h K) : Ct l yX8_waits cX8_waits 4 (some .int) (rmD d) [.ref 56, .int a1] h (Qi K) := by
  have hk1 : 1 ≤ d := by omega
  have hk_X8_isOwner : 1 ≤ d - 1 := by omega
  have hk_X8_isRaise : 1 ≤ d - 1 := by omega
  have hk_X8_placeOf : 0 ≤ d - 1 := by omega
  refine Ct_ofBW (by decide) rfl (Nat.le_of_ble_eq_true rfl) ⟨rfl, rfl⟩ ?_
  show BW RX8 cX8_waits 4 (some .int) l (rmD d) tb0 3 [.ref 56, .int a1, .null, .null] [] 0 h (Qi K)
  unfold P_X8_waits at hM
  refine B_iload_n dX8_waits_0 rfl ?_
  refine B_cS1i (c_X8_isOwner (d := d - 1) hk_X8_isOwner  hM) csS_X8_66 hp0 (rm_f hk1) (rm_l hk1 (by decide)) (Nat.le_of_ble_eq_true rfl) dX8_waits_1 (fun r2 h1 hM => ?_)
  refine B_if_ne dX8_waits_4 hM (tgt := 9) rfl (fun hM => ?_) (fun hM => ?_)
  · refine B_aload_n dX8_waits_9 rfl ?_
    refine B_iload_n dX8_waits_10 rfl ?_
    refine B_cV1i (c_X8_placeOf (d := d - 1) hk_X8_placeOf  hM) csV_X8_109 (sc_56) vc_8 rfl hp0 (rm_f hk1) (rm_l hk1 (by decide)) (Nat.le_of_ble_eq_true rfl) dX8_waits_11 (fun r4 h3 hM => ?_)
    refine B_istore_n dX8_waits_14 (Nat.le_of_ble_eq_true rfl) ?_
    refine B_iload_n dX8_waits_15 rfl ?_
    refine B_iconst dX8_waits_16 k_ic_m1 ?_
    refine B_icmp_ne dX8_waits_17 hM (tgt := 23) rfl (fun hM => ?_) (fun hM => ?_)
    · refine B_aload_n dX8_waits_23 rfl ?_
      refine B_getR (sc_56) vc_8 (k := 1) (j := 57) rfl (by decide) inG8 ⟨rfl, rfl, rfl⟩ ww_fl_X8_15 dX8_waits_24 ?_
      refine B_bipush dX8_waits_27 k_bi_26 ?_
      refine B_iconst dX8_waits_29 k_ic_3 ?_
      refine B_iload_n dX8_waits_30 rfl ?_
      refine B_imul dX8_waits_31 ?_
      refine B_iadd dX8_waits_32 ?_
      refine B_iconst dX8_waits_33 k_ic_1 ?_
      refine B_iadd dX8_waits_34 ?_
      refine B_iald (sc_57) hM dX8_waits_35 (fun hM => ?_)
      refine B_istore_n dX8_waits_36 (Nat.le_of_ble_eq_true rfl) ?_
      refine B_bipush dX8_waits_37 k_bi_100 ?_
      refine B_iload_n dX8_waits_39 rfl ?_
      refine B_imul dX8_waits_40 ?_
      refine B_bipush dX8_waits_41 k_bi_10 ?_
      refine B_aload_n dX8_waits_43 rfl ?_
      refine B_getR (sc_56) vc_8 (k := 1) (j := 57) rfl (by decide) inG8 ⟨rfl, rfl, rfl⟩ ww_fl_X8_15 dX8_waits_44 ?_
      refine B_bipush dX8_waits_47 k_bi_26 ?_
      refine B_iconst dX8_waits_49 k_ic_3 ?_
      refine B_iload_n dX8_waits_50 rfl ?_
      refine B_imul dX8_waits_51 ?_
      refine B_iadd dX8_waits_52 ?_
      refine B_iconst dX8_waits_53 k_ic_2 ?_
      refine B_iadd dX8_waits_54 ?_
      refine B_iald (sc_57) hM dX8_waits_55 (fun hM => ?_)
      refine B_imul dX8_waits_56 ?_
      refine B_iadd dX8_waits_57 ?_
      refine B_aload_n dX8_waits_58 rfl ?_
      refine B_iload_n dX8_waits_59 rfl ?_
      refine B_iload_n dX8_waits_60 rfl ?_
      refine B_cV2i (c_X8_isRaise (d := d - 1) hk_X8_isRaise  hM) csV_X8_115 (sc_56) vc_8 rfl hp0 (rm_f hk1) (rm_l hk1 (by decide)) (Nat.le_of_ble_eq_true rfl) dX8_waits_61 (fun r6 h5 hM => ?_)
      refine B_if_eq dX8_waits_64 hM (tgt := 71) rfl (fun hM => ?_) (fun hM => ?_)
      · refine B_iconst dX8_waits_71 k_ic_0 ?_
        refine B_iadd dX8_waits_72 ?_
        exact B_iret ⟨_, rfl, hM⟩ trivial dX8_waits_73
      · refine B_iconst dX8_waits_67 k_ic_1 ?_
        refine B_goto (tgt := 72) dX8_waits_68 rfl ?_
        refine B_iadd dX8_waits_72 ?_
        exact B_iret ⟨_, rfl, hM⟩ trivial dX8_waits_73
    · refine B_bipush dX8_waits_20 k_bi_m2 ?_
      exact B_iret ⟨_, rfl, hM⟩ trivial dX8_waits_22
  · refine B_iconst dX8_waits_7 k_ic_m1 ?_
    exact B_iret ⟨_, rfl, hM⟩ trivial dX8_waits_8

def P_X8_line (F : Nat) (a1 : Int32) (h : AH) (K : Int32 → AH → Prop) : Prop := if (-1 : Int32) ≤ a1 then (if ¬ a1 = (-1 : Int32) then (vp_in (nI 25) 441 ∧ (if (h 57 (nI 25).toNatClampNeg) ≤ a1 then (K (-2 : Int32) h) else (vp_in ((nI 26) + ((nI 3) * a1)) 441 ∧ (K (h 57 ((nI 26) + ((nI 3) * a1)).toNatClampNeg) h)))) else (vp_in (nI 25) 441 ∧ (K (h 57 (nI 25).toNatClampNeg) h))) else (K (-1 : Int32) h)
set_option maxHeartbeats 4000000 in
theorem c_X8_line {l : Launch} {d : Nat} {F : Nat} {a1 : Int32} {h : AH} {K : Int32 → AH → Prop} (hd : 0 ≤ d) (hM : P_X8_line F a1 h K) : Ct l yX8_line cX8_line 2 (some .int) (rmD d) [.ref 56, .int a1] h (Qi K) := by
  refine Ct_ofBW (by decide) rfl (Nat.le_of_ble_eq_true rfl) ⟨rfl, rfl⟩ ?_
  show BW RX8 cX8_line 2 (some .int) l (rmD d) tb0 3 [.ref 56, .int a1] [] 0 h (Qi K)
  unfold P_X8_line at hM
  refine B_iload_n dX8_line_0 rfl ?_
  refine B_iconst dX8_line_1 k_ic_m1 ?_
  refine B_icmp_ge dX8_line_2 hM (tgt := 7) rfl (fun hM => ?_) (fun hM => ?_)
  · refine B_iload_n dX8_line_7 rfl ?_
    refine B_iconst dX8_line_8 k_ic_m1 ?_
    refine B_icmp_ne dX8_line_9 hM (tgt := 22) rfl (fun hM => ?_) (fun hM => ?_)
    · refine B_iload_n dX8_line_22 rfl ?_
      refine B_aload_n dX8_line_23 rfl ?_
      refine B_getR (sc_56) vc_8 (k := 1) (j := 57) rfl (by decide) inG8 ⟨rfl, rfl, rfl⟩ ww_fl_X8_15 dX8_line_24 ?_
      refine B_bipush dX8_line_27 k_bi_25 ?_
      refine B_iald (sc_57) hM dX8_line_29 (fun hM => ?_)
      refine B_icmp_ge dX8_line_30 hM (tgt := 47) rfl (fun hM => ?_) (fun hM => ?_)
      · refine B_bipush dX8_line_47 k_bi_m2 ?_
        exact B_iret ⟨_, rfl, hM⟩ trivial dX8_line_49
      · refine B_aload_n dX8_line_33 rfl ?_
        refine B_getR (sc_56) vc_8 (k := 1) (j := 57) rfl (by decide) inG8 ⟨rfl, rfl, rfl⟩ ww_fl_X8_15 dX8_line_34 ?_
        refine B_bipush dX8_line_37 k_bi_26 ?_
        refine B_iconst dX8_line_39 k_ic_3 ?_
        refine B_iload_n dX8_line_40 rfl ?_
        refine B_imul dX8_line_41 ?_
        refine B_iadd dX8_line_42 ?_
        refine B_iald (sc_57) hM dX8_line_43 (fun hM => ?_)
        refine B_goto (tgt := 49) dX8_line_44 rfl ?_
        exact B_iret ⟨_, rfl, hM⟩ trivial dX8_line_49
    · refine B_aload_n dX8_line_12 rfl ?_
      refine B_getR (sc_56) vc_8 (k := 1) (j := 57) rfl (by decide) inG8 ⟨rfl, rfl, rfl⟩ ww_fl_X8_15 dX8_line_13 ?_
      refine B_bipush dX8_line_16 k_bi_25 ?_
      refine B_iald (sc_57) hM dX8_line_18 (fun hM => ?_)
      refine B_goto (tgt := 49) dX8_line_19 rfl ?_
      exact B_iret ⟨_, rfl, hM⟩ trivial dX8_line_49
  · refine B_iconst dX8_line_5 k_ic_m1 ?_
    exact B_iret ⟨_, rfl, hM⟩ trivial dX8_line_6

def P_X8_waitsFor (F : Nat) (a1 : Int32) (h : AH) (K : Int32 → AH → Prop) : Prop := P_X8_isOwner F a1 h (fun (r2 : Int32) (h1 : AH) => if r2 = (nI 0) then (K (-1 : Int32) h1) else (P_X8_waitsForNow F a1 h1 (fun (r4 : Int32) (h3 : AH) => K r4 h3)))
set_option maxHeartbeats 4000000 in
theorem c_X8_waitsFor {l : Launch} {d : Nat} {F : Nat} {a1 : Int32} {h : AH} {K : Int32 → AH → Prop} (hd : 7 ≤ d) (hM : P_X8_waitsFor F a1 h K) : Ct l yX8_waitsFor cX8_waitsFor 2 (some .int) (rmD d) [.ref 56, .int a1] h (Qi K) := by
  have hk1 : 1 ≤ d := by omega
  have hk_X8_isOwner : 1 ≤ d - 1 := by omega
  have hk_X8_waitsForNow : 6 ≤ d - 1 := by omega
  refine Ct_ofBW (by decide) rfl (Nat.le_of_ble_eq_true rfl) ⟨rfl, rfl⟩ ?_
  show BW RX8 cX8_waitsFor 2 (some .int) l (rmD d) tb0 3 [.ref 56, .int a1] [] 0 h (Qi K)
  unfold P_X8_waitsFor at hM
  refine B_iload_n dX8_waitsFor_0 rfl ?_
  refine B_cS1i (c_X8_isOwner (d := d - 1) hk_X8_isOwner  hM) csS_X8_66 hp0 (rm_f hk1) (rm_l hk1 (by decide)) (Nat.le_of_ble_eq_true rfl) dX8_waitsFor_1 (fun r2 h1 hM => ?_)
  refine B_if_eq dX8_waitsFor_4 hM (tgt := 15) rfl (fun hM => ?_) (fun hM => ?_)
  · refine B_iconst dX8_waitsFor_15 k_ic_m1 ?_
    exact B_iret ⟨_, rfl, hM⟩ trivial dX8_waitsFor_16
  · refine B_aload_n dX8_waitsFor_7 rfl ?_
    refine B_iload_n dX8_waitsFor_8 rfl ?_
    refine B_cV1i (c_X8_waitsForNow (d := d - 1) hk_X8_waitsForNow  hM) csV_X8_162 (sc_56) vc_8 rfl hp0 (rm_f hk1) (rm_l hk1 (by decide)) (Nat.le_of_ble_eq_true rfl) dX8_waitsFor_9 (fun r4 h3 hM => ?_)
    refine B_goto (tgt := 16) dX8_waitsFor_12 rfl ?_
    exact B_iret ⟨_, rfl, hM⟩ trivial dX8_waitsFor_16

def P_X8_ring (F : Nat) (a1 : Int32) (h : AH) (K : Int32 → AH → Prop) : Prop := P_X8_in F a1 (nI 0) (nI 2) h (fun (r2 : Int32) (h1 : AH) => if ¬ r2 = (nI 0) then (P_X8_ringNow F h1 (fun (r4 : Int32) (h3 : AH) => P_X8_leastOf F r4 h3 (fun (r6 : Int32) (h5 : AH) => if ¬ a1 = (nI 0) then (if a1 = (nI 1) then (K r6 h5) else (if ¬ r6 = (-2 : Int32) then (P_X8_countsOf F r6 h5 (fun (r8 : Int32) (h7 : AH) => K r8 h7)) else (K r6 h5))) else (K r4 h5)))) else (K (-1 : Int32) h1))
set_option maxHeartbeats 4000000 in
theorem c_X8_ring {l : Launch} {d : Nat} {F : Nat} {a1 : Int32} {h : AH} {K : Int32 → AH → Prop} (hd : 9 ≤ d) (hM : P_X8_ring F a1 h K) : Ct l yX8_ring cX8_ring 4 (some .int) (rmD d) [.ref 56, .int a1] h (Qi K) := by
  have hk1 : 1 ≤ d := by omega
  have hk_X8_countsOf : 1 ≤ d - 1 := by omega
  have hk_X8_in : 0 ≤ d - 1 := by omega
  have hk_X8_leastOf : 2 ≤ d - 1 := by omega
  have hk_X8_ringNow : 8 ≤ d - 1 := by omega
  refine Ct_ofBW (by decide) rfl (Nat.le_of_ble_eq_true rfl) ⟨rfl, rfl⟩ ?_
  show BW RX8 cX8_ring 4 (some .int) l (rmD d) tb0 3 [.ref 56, .int a1, .null, .null] [] 0 h (Qi K)
  unfold P_X8_ring at hM
  refine B_iload_n dX8_ring_0 rfl ?_
  refine B_iconst dX8_ring_1 k_ic_0 ?_
  refine B_iconst dX8_ring_2 k_ic_2 ?_
  refine B_cS3i (c_X8_in (d := d - 1) hk_X8_in  hM) csS_X8_62 hp0 (rm_f hk1) (rm_l hk1 (by decide)) (Nat.le_of_ble_eq_true rfl) dX8_ring_3 (fun r2 h1 hM => ?_)
  refine B_if_ne dX8_ring_6 hM (tgt := 11) rfl (fun hM => ?_) (fun hM => ?_)
  · refine B_aload_n dX8_ring_11 rfl ?_
    refine B_cV0i (c_X8_ringNow (d := d - 1) hk_X8_ringNow  hM) csV_X8_171 (sc_56) vc_8 rfl hp0 (rm_f hk1) (rm_l hk1 (by decide)) (Nat.le_of_ble_eq_true rfl) dX8_ring_12 (fun r4 h3 hM => ?_)
    refine B_istore_n dX8_ring_15 (Nat.le_of_ble_eq_true rfl) ?_
    refine B_aload_n dX8_ring_16 rfl ?_
    refine B_iload_n dX8_ring_17 rfl ?_
    refine B_cV1i (c_X8_leastOf (d := d - 1) hk_X8_leastOf  hM) csV_X8_174 (sc_56) vc_8 rfl hp0 (rm_f hk1) (rm_l hk1 (by decide)) (Nat.le_of_ble_eq_true rfl) dX8_ring_18 (fun r6 h5 hM => ?_)
    refine B_istore_n dX8_ring_21 (Nat.le_of_ble_eq_true rfl) ?_
    refine B_iload_n dX8_ring_22 rfl ?_
    refine B_if_ne dX8_ring_23 hM (tgt := 30) rfl (fun hM => ?_) (fun hM => ?_)
    · refine B_iload_n dX8_ring_30 rfl ?_
      refine B_iconst dX8_ring_31 k_ic_1 ?_
      refine B_icmp_eq dX8_ring_32 hM (tgt := 41) rfl (fun hM => ?_) (fun hM => ?_)
      · refine B_iload_n dX8_ring_41 rfl ?_
        refine B_goto (tgt := 50) dX8_ring_42 rfl ?_
        exact B_iret ⟨_, rfl, hM⟩ trivial dX8_ring_50
      · refine B_iload_n dX8_ring_35 rfl ?_
        refine B_bipush dX8_ring_36 k_bi_m2 ?_
        refine B_icmp_ne dX8_ring_38 hM (tgt := 45) rfl (fun hM => ?_) (fun hM => ?_)
        · refine B_aload_n dX8_ring_45 rfl ?_
          refine B_iload_n dX8_ring_46 rfl ?_
          refine B_cV1i (c_X8_countsOf (d := d - 1) hk_X8_countsOf  hM) csV_X8_168 (sc_56) vc_8 rfl hp0 (rm_f hk1) (rm_l hk1 (by decide)) (Nat.le_of_ble_eq_true rfl) dX8_ring_47 (fun r8 h7 hM => ?_)
          exact B_iret ⟨_, rfl, hM⟩ trivial dX8_ring_50
        · refine B_iload_n dX8_ring_41 rfl ?_
          refine B_goto (tgt := 50) dX8_ring_42 rfl ?_
          exact B_iret ⟨_, rfl, hM⟩ trivial dX8_ring_50
    · refine B_iload_n dX8_ring_26 rfl ?_
      refine B_goto (tgt := 50) dX8_ring_27 rfl ?_
      exact B_iret ⟨_, rfl, hM⟩ trivial dX8_ring_50
  · refine B_iconst dX8_ring_9 k_ic_m1 ?_
    exact B_iret ⟨_, rfl, hM⟩ trivial dX8_ring_10

def X8_allCounts_c4 (F : Nat) (K : Int32 → AH → Prop) (n : Nat) : Int32 → Int32 → AH → Prop := Nat.rec (motive := fun _ => Int32 → Int32 → AH → Prop) (fun _ _ _ => False) (fun _ rc4 x1 x2 h => vp_in (nI 0) 441 ∧ (if (h 57 (nI 0).toNatClampNeg) ≤ x2 then (K x1 h) else (P_X8_countsAt F x2 h (fun (r2 : Int32) (h1 : AH) => rc4 (x1 + r2) (x2 + (nI 1)) h1)))) n
theorem X8_allCounts_c4_s {F : Nat} {K : Int32 → AH → Prop} {n : Nat} {x1 : Int32} {x2 : Int32} {h : AH} : X8_allCounts_c4 F K (n + 1) x1 x2 h = (vp_in (nI 0) 441 ∧ (if (h 57 (nI 0).toNatClampNeg) ≤ x2 then (K x1 h) else (P_X8_countsAt F x2 h (fun (r2 : Int32) (h1 : AH) => (X8_allCounts_c4 F K n) (x1 + r2) (x2 + (nI 1)) h1)))) := rfl
set_option maxHeartbeats 4000000 in
theorem bw_X8_allCounts_c4 {l : Launch} {d : Nat} {F : Nat} {K : Int32 → AH → Prop} (hd : 2 ≤ d) : ∀ (n : Nat) (x1 : Int32) (x2 : Int32) (h : AH), X8_allCounts_c4 F K n x1 x2 h → BW RX8 cX8_allCounts 3 (some .int) l (rmD d) tb0 3 [.ref 56, .int x1, .int x2] [] 4 h (Qi K) := by
  have hk1 : 1 ≤ d := by omega
  have hk_X8_countsAt : 1 ≤ d - 1 := by omega
  intro n
  induction n with
  | zero =>
    intro x1 x2 h hM
    exact hM.elim
  | succ n hr4 =>
    intro x1 x2 h hM
    rw [X8_allCounts_c4_s] at hM
    refine B_iload_n dX8_allCounts_4 rfl ?_
    refine B_aload_n dX8_allCounts_5 rfl ?_
    refine B_getR (sc_56) vc_8 (k := 1) (j := 57) rfl (by decide) inG8 ⟨rfl, rfl, rfl⟩ ww_fl_X8_15 dX8_allCounts_6 ?_
    refine B_iconst dX8_allCounts_9 k_ic_0 ?_
    refine B_iald (sc_57) hM dX8_allCounts_10 (fun hM => ?_)
    refine B_icmp_ge dX8_allCounts_11 hM (tgt := 28) rfl (fun hM => ?_) (fun hM => ?_)
    · refine B_iload_n dX8_allCounts_28 rfl ?_
      exact B_iret ⟨_, rfl, hM⟩ trivial dX8_allCounts_29
    · refine B_iload_n dX8_allCounts_14 rfl ?_
      refine B_aload_n dX8_allCounts_15 rfl ?_
      refine B_iload_n dX8_allCounts_16 rfl ?_
      refine B_cV1i (c_X8_countsAt (d := d - 1) hk_X8_countsAt  hM) csV_X8_94 (sc_56) vc_8 rfl hp0 (rm_f hk1) (rm_l hk1 (by decide)) (Nat.le_of_ble_eq_true rfl) dX8_allCounts_17 (fun r2 h1 hM => ?_)
      refine B_iadd dX8_allCounts_20 ?_
      refine B_istore_n dX8_allCounts_21 (Nat.le_of_ble_eq_true rfl) ?_
      refine B_iinc dX8_allCounts_22 rfl k_ic_1 (Nat.le_of_ble_eq_true rfl) ?_
      refine B_goto (tgt := 4) dX8_allCounts_25 rfl ?_
      exact B_wk (hr4 _ _ _ hM) (wk_1 (wk_1 (wk_1 wk_n)))
def P_X8_allCounts (F : Nat) (h : AH) (K : Int32 → AH → Prop) : Prop := X8_allCounts_c4 F K F (nI 0) (nI 0) h
set_option maxHeartbeats 4000000 in
theorem c_X8_allCounts {l : Launch} {d : Nat} {F : Nat} {h : AH} {K : Int32 → AH → Prop} (hd : 2 ≤ d) (hM : P_X8_allCounts F h K) : Ct l yX8_allCounts cX8_allCounts 3 (some .int) (rmD d) [.ref 56] h (Qi K) := by
  have hk1 : 1 ≤ d := by omega
  have hk_X8_countsAt : 1 ≤ d - 1 := by omega
  refine Ct_ofBW (by decide) rfl (Nat.le_of_ble_eq_true rfl) ⟨rfl, rfl⟩ ?_
  show BW RX8 cX8_allCounts 3 (some .int) l (rmD d) tb0 3 [.ref 56, .null, .null] [] 0 h (Qi K)
  unfold P_X8_allCounts at hM
  refine B_iconst dX8_allCounts_0 k_ic_0 ?_
  refine B_istore_n dX8_allCounts_1 (Nat.le_of_ble_eq_true rfl) ?_
  refine B_iconst dX8_allCounts_2 k_ic_0 ?_
  refine B_istore_n dX8_allCounts_3 (Nat.le_of_ble_eq_true rfl) ?_
  exact B_wk (bw_X8_allCounts_c4 hd  _ _ _ _ hM) (wk_1 (wk_1 (wk_1 wk_n)))

def P_X8_count (F : Nat) (a1 : Int32) (h : AH) (K : Int32 → AH → Prop) : Prop := if a1 = (nI 0) then (vp_in (nI 0) 441 ∧ (K (h 57 (nI 0).toNatClampNeg) h)) else (if a1 = (nI 1) then (vp_in (nI 25) 441 ∧ (K (h 57 (nI 25).toNatClampNeg) h)) else (if a1 = (nI 2) then (P_X8_allCounts F h (fun (r2 : Int32) (h1 : AH) => K r2 h1)) else (if a1 = (nI 3) then (vp_in (nI 44) 441 ∧ (K (h 57 (nI 44).toNatClampNeg) h)) else (if a1 = (nI 4) then (K (h 56 16) h) else (if a1 = (nI 5) then (K (h 56 24) h) else (if a1 = (nI 6) then (K (h 56 4) h) else (K (-1 : Int32) h)))))))
set_option maxHeartbeats 4000000 in
theorem c_X8_count {l : Launch} {d : Nat} {F : Nat} {a1 : Int32} {h : AH} {K : Int32 → AH → Prop} (hd : 3 ≤ d) (hM : P_X8_count F a1 h K) : Ct l yX8_count cX8_count 2 (some .int) (rmD d) [.ref 56, .int a1] h (Qi K) := by
  have hk1 : 1 ≤ d := by omega
  have hk_X8_allCounts : 2 ≤ d - 1 := by omega
  refine Ct_ofBW (by decide) rfl (Nat.le_of_ble_eq_true rfl) ⟨rfl, rfl⟩ ?_
  show BW RX8 cX8_count 2 (some .int) l (rmD d) tb0 3 [.ref 56, .int a1] [] 0 h (Qi K)
  unfold P_X8_count at hM
  refine B_iload_n dX8_count_0 rfl ?_
  refine ite_p hM (fun hc0 hM => ?_) (fun hc0 hM => ?_)
  · refine B_tin hc0 (by decide) (by decide) rfl dX8_count_1 (tgt := 44) rfl ?_
    refine B_aload_n dX8_count_44 rfl ?_
    refine B_getR (sc_56) vc_8 (k := 1) (j := 57) rfl (by decide) inG8 ⟨rfl, rfl, rfl⟩ ww_fl_X8_15 dX8_count_45 ?_
    refine B_iconst dX8_count_48 k_ic_0 ?_
    refine B_iald (sc_57) hM dX8_count_49 (fun hM => ?_)
    exact B_iret ⟨_, rfl, hM⟩ trivial dX8_count_50
  refine ite_p hM (fun hc1 hM => ?_) (fun hc1 hM => ?_)
  · refine B_tin hc1 (by decide) (by decide) rfl dX8_count_1 (tgt := 51) rfl ?_
    refine B_aload_n dX8_count_51 rfl ?_
    refine B_getR (sc_56) vc_8 (k := 1) (j := 57) rfl (by decide) inG8 ⟨rfl, rfl, rfl⟩ ww_fl_X8_15 dX8_count_52 ?_
    refine B_bipush dX8_count_55 k_bi_25 ?_
    refine B_iald (sc_57) hM dX8_count_57 (fun hM => ?_)
    exact B_iret ⟨_, rfl, hM⟩ trivial dX8_count_58
  refine ite_p hM (fun hc2 hM => ?_) (fun hc2 hM => ?_)
  · refine B_tin hc2 (by decide) (by decide) rfl dX8_count_1 (tgt := 59) rfl ?_
    refine B_aload_n dX8_count_59 rfl ?_
    refine B_cV0i (c_X8_allCounts (d := d - 1) hk_X8_allCounts  hM) csV_X8_177 (sc_56) vc_8 rfl hp0 (rm_f hk1) (rm_l hk1 (by decide)) (Nat.le_of_ble_eq_true rfl) dX8_count_60 (fun r2 h1 hM => ?_)
    exact B_iret ⟨_, rfl, hM⟩ trivial dX8_count_63
  refine ite_p hM (fun hc3 hM => ?_) (fun hc3 hM => ?_)
  · refine B_tin hc3 (by decide) (by decide) rfl dX8_count_1 (tgt := 64) rfl ?_
    refine B_aload_n dX8_count_64 rfl ?_
    refine B_getR (sc_56) vc_8 (k := 1) (j := 57) rfl (by decide) inG8 ⟨rfl, rfl, rfl⟩ ww_fl_X8_15 dX8_count_65 ?_
    refine B_bipush dX8_count_68 k_bi_44 ?_
    refine B_iald (sc_57) hM dX8_count_70 (fun hM => ?_)
    exact B_iret ⟨_, rfl, hM⟩ trivial dX8_count_71
  refine ite_p hM (fun hc4 hM => ?_) (fun hc4 hM => ?_)
  · refine B_tin hc4 (by decide) (by decide) rfl dX8_count_1 (tgt := 72) rfl ?_
    refine B_aload_n dX8_count_72 rfl ?_
    refine B_getI (sc_56) vc_8 (k := 16) rfl (by decide) inG8 ⟨rfl, rfl, rfl⟩ ww_fl_X8_180 dX8_count_73 ?_
    exact B_iret ⟨_, rfl, hM⟩ trivial dX8_count_76
  refine ite_p hM (fun hc5 hM => ?_) (fun hc5 hM => ?_)
  · refine B_tin hc5 (by decide) (by decide) rfl dX8_count_1 (tgt := 77) rfl ?_
    refine B_aload_n dX8_count_77 rfl ?_
    refine B_getI (sc_56) vc_8 (k := 24) rfl (by decide) inG8 ⟨rfl, rfl, rfl⟩ ww_fl_X8_183 dX8_count_78 ?_
    exact B_iret ⟨_, rfl, hM⟩ trivial dX8_count_81
  refine ite_p hM (fun hc6 hM => ?_) (fun hc6 hM => ?_)
  · refine B_tin hc6 (by decide) (by decide) rfl dX8_count_1 (tgt := 82) rfl ?_
    refine B_aload_n dX8_count_82 rfl ?_
    refine B_getI (sc_56) vc_8 (k := 4) rfl (by decide) inG8 ⟨rfl, rfl, rfl⟩ ww_fl_X8_56 dX8_count_83 ?_
    exact B_iret ⟨_, rfl, hM⟩ trivial dX8_count_86
  refine B_tout (tsw_out2 (n := 7) (by decide) (lt_s (lt_s (lt_s (lt_s (lt_s (lt_s (lt_s lt_0 hc0) hc1) hc2) hc3) hc4) hc5) hc6) (by decide)) dX8_count_1 (tgt := 87) rfl ?_
  refine B_iconst dX8_count_87 k_ic_m1 ?_
  exact B_iret ⟨_, rfl, hM⟩ trivial dX8_count_88

def P_X8_would (F : Nat) (a1 : Int32) (a2 : Int32) (a3 : Int32) (h : AH) (K : Int32 → AH → Prop) : Prop := P_X8_isAsk F a1 a2 a3 h (fun (r2 : Int32) (h1 : AH) => if ¬ r2 = (nI 0) then (P_X8_isInLine F a1 h1 (fun (r4 : Int32) (h3 : AH) => if r4 = (nI 0) then (P_X8_canBe F a1 a2 a3 h3 (fun (r6 : Int32) (h5 : AH) => if r6 = (nI 0) then (P_X8_laysAside F h5 (fun (h7 : AH) => vp_in (nI 25) 441 ∧ (vp_in ((nI 26) + ((nI 3) * (h7 57 (nI 25).toNatClampNeg))) 441 ∧ ((fun (h8 : AH) => vp_in (((nI 26) + ((nI 3) * (h7 57 (nI 25).toNatClampNeg))) + (nI 1)) 441 ∧ ((fun (h9 : AH) => vp_in (((nI 26) + ((nI 3) * (h7 57 (nI 25).toNatClampNeg))) + (nI 2)) 441 ∧ ((fun (h10 : AH) => vp_in (nI 25) 441 ∧ (vp_in (nI 25) 441 ∧ ((fun (h11 : AH) => P_X8_comesTo F a1 h11 (fun (r13 : Int32) (h12 : AH) => P_X8_has F r13 a1 h12 (fun (r15 : Int32) (h14 : AH) => P_X8_laysBack F h14 (fun (h16 : AH) => if r15 = (nI 0) then (K (nI 0) h16) else (K (nI 2) h16))))) (up h10 57 (nI 25).toNatClampNeg ((h10 57 (nI 25).toNatClampNeg) + (nI 1)))))) (up h9 57 (((nI 26) + ((nI 3) * (h7 57 (nI 25).toNatClampNeg))) + (nI 2)).toNatClampNeg a3))) (up h8 57 (((nI 26) + ((nI 3) * (h7 57 (nI 25).toNatClampNeg))) + (nI 1)).toNatClampNeg a2))) (up h7 57 ((nI 26) + ((nI 3) * (h7 57 (nI 25).toNatClampNeg))).toNatClampNeg a1))))) else (K (nI 1) h5))) else (K (-5 : Int32) h3))) else (K (-1 : Int32) h1))
set_option maxHeartbeats 4000000 in
theorem c_X8_would {l : Launch} {d : Nat} {F : Nat} {a1 : Int32} {a2 : Int32} {a3 : Int32} {h : AH} {K : Int32 → AH → Prop} (hd : 8 ≤ d) (hM : P_X8_would F a1 a2 a3 h K) : Ct l yX8_would cX8_would 6 (some .int) (rmD d) [.ref 56, .int a1, .int a2, .int a3] h (Qi K) := by
  have hk1 : 1 ≤ d := by omega
  have hk_X8_canBe : 5 ≤ d - 1 := by omega
  have hk_X8_comesTo : 7 ≤ d - 1 := by omega
  have hk_X8_has : 0 ≤ d - 1 := by omega
  have hk_X8_isAsk : 2 ≤ d - 1 := by omega
  have hk_X8_isInLine : 1 ≤ d - 1 := by omega
  have hk_X8_laysAside : 1 ≤ d - 1 := by omega
  have hk_X8_laysBack : 1 ≤ d - 1 := by omega
  refine Ct_ofBW (by decide) rfl (Nat.le_of_ble_eq_true rfl) ⟨rfl, rfl⟩ ?_
  show BW RX8 cX8_would 6 (some .int) l (rmD d) tb0 3 [.ref 56, .int a1, .int a2, .int a3, .null, .null] [] 0 h (Qi K)
  unfold P_X8_would at hM
  refine B_aload_n dX8_would_0 rfl ?_
  refine B_iload_n dX8_would_1 rfl ?_
  refine B_iload_n dX8_would_2 rfl ?_
  refine B_iload_n dX8_would_3 rfl ?_
  refine B_cV3i (c_X8_isAsk (d := d - 1) hk_X8_isAsk  hM) csV_X8_141 (sc_56) vc_8 rfl hp0 (rm_f hk1) (rm_l hk1 (by decide)) (Nat.le_of_ble_eq_true rfl) dX8_would_4 (fun r2 h1 hM => ?_)
  refine B_if_ne dX8_would_7 hM (tgt := 12) rfl (fun hM => ?_) (fun hM => ?_)
  · refine B_aload_n dX8_would_12 rfl ?_
    refine B_iload_n dX8_would_13 rfl ?_
    refine B_cV1i (c_X8_isInLine (d := d - 1) hk_X8_isInLine  hM) csV_X8_144 (sc_56) vc_8 rfl hp0 (rm_f hk1) (rm_l hk1 (by decide)) (Nat.le_of_ble_eq_true rfl) dX8_would_14 (fun r4 h3 hM => ?_)
    refine B_if_eq dX8_would_17 hM (tgt := 23) rfl (fun hM => ?_) (fun hM => ?_)
    · refine B_aload_n dX8_would_23 rfl ?_
      refine B_iload_n dX8_would_24 rfl ?_
      refine B_iload_n dX8_would_25 rfl ?_
      refine B_iload_n dX8_would_26 rfl ?_
      refine B_cV3i (c_X8_canBe (d := d - 1) hk_X8_canBe  hM) csV_X8_147 (sc_56) vc_8 rfl hp0 (rm_f hk1) (rm_l hk1 (by decide)) (Nat.le_of_ble_eq_true rfl) dX8_would_27 (fun r6 h5 hM => ?_)
      refine B_if_eq dX8_would_30 hM (tgt := 35) rfl (fun hM => ?_) (fun hM => ?_)
      · refine B_aload_n dX8_would_35 rfl ?_
        refine B_cV0v (c_X8_laysAside (d := d - 1) hk_X8_laysAside  hM) csV_X8_186 (sc_56) vc_8 rfl hp0 (rm_f hk1) (rm_l hk1 (by decide)) (Nat.le_of_ble_eq_true rfl) dX8_would_36 (fun h7 hM => ?_)
        refine B_bipush dX8_would_39 k_bi_26 ?_
        refine B_iconst dX8_would_41 k_ic_3 ?_
        refine B_aload_n dX8_would_42 rfl ?_
        refine B_getR (sc_56) vc_8 (k := 1) (j := 57) rfl (by decide) inG8 ⟨rfl, rfl, rfl⟩ ww_fl_X8_15 dX8_would_43 ?_
        refine B_bipush dX8_would_46 k_bi_25 ?_
        refine B_iald (sc_57) hM dX8_would_48 (fun hM => ?_)
        refine B_imul dX8_would_49 ?_
        refine B_iadd dX8_would_50 ?_
        refine B_istore dX8_would_51 (Nat.le_of_ble_eq_true rfl) ?_
        refine B_aload_n dX8_would_53 rfl ?_
        refine B_getR (sc_56) vc_8 (k := 1) (j := 57) rfl (by decide) inG8 ⟨rfl, rfl, rfl⟩ ww_fl_X8_15 dX8_would_54 ?_
        refine B_iload dX8_would_57 rfl ?_
        refine B_iload_n dX8_would_59 rfl ?_
        refine B_iast (sc_57) hM dX8_would_60 (fun hM => ?_)
        refine B_aload_n dX8_would_61 rfl ?_
        refine B_getR (sc_56) vc_8 (k := 1) (j := 57) rfl (by decide) inG8 ⟨rfl, rfl, rfl⟩ ww_fl_X8_15 dX8_would_62 ?_
        refine B_iload dX8_would_65 rfl ?_
        refine B_iconst dX8_would_67 k_ic_1 ?_
        refine B_iadd dX8_would_68 ?_
        refine B_iload_n dX8_would_69 rfl ?_
        refine B_iast (sc_57) hM dX8_would_70 (fun hM => ?_)
        refine B_aload_n dX8_would_71 rfl ?_
        refine B_getR (sc_56) vc_8 (k := 1) (j := 57) rfl (by decide) inG8 ⟨rfl, rfl, rfl⟩ ww_fl_X8_15 dX8_would_72 ?_
        refine B_iload dX8_would_75 rfl ?_
        refine B_iconst dX8_would_77 k_ic_2 ?_
        refine B_iadd dX8_would_78 ?_
        refine B_iload_n dX8_would_79 rfl ?_
        refine B_iast (sc_57) hM dX8_would_80 (fun hM => ?_)
        refine B_aload_n dX8_would_81 rfl ?_
        refine B_getR (sc_56) vc_8 (k := 1) (j := 57) rfl (by decide) inG8 ⟨rfl, rfl, rfl⟩ ww_fl_X8_15 dX8_would_82 ?_
        refine B_bipush dX8_would_85 k_bi_25 ?_
        refine B_dup2 dX8_would_87 ?_
        refine B_iald (sc_57) hM dX8_would_88 (fun hM => ?_)
        refine B_iconst dX8_would_89 k_ic_1 ?_
        refine B_iadd dX8_would_90 ?_
        refine B_iast (sc_57) hM dX8_would_91 (fun hM => ?_)
        refine B_aload_n dX8_would_92 rfl ?_
        refine B_iload_n dX8_would_93 rfl ?_
        refine B_cV1i (c_X8_comesTo (d := d - 1) hk_X8_comesTo  hM) csV_X8_165 (sc_56) vc_8 rfl hp0 (rm_f hk1) (rm_l hk1 (by decide)) (Nat.le_of_ble_eq_true rfl) dX8_would_94 (fun r13 h12 hM => ?_)
        refine B_iload_n dX8_would_97 rfl ?_
        refine B_cS2i (c_X8_has (d := d - 1) hk_X8_has  hM) csS_X8_80 hp0 (rm_f hk1) (rm_l hk1 (by decide)) (Nat.le_of_ble_eq_true rfl) dX8_would_98 (fun r15 h14 hM => ?_)
        refine B_istore dX8_would_101 (Nat.le_of_ble_eq_true rfl) ?_
        refine B_aload_n dX8_would_103 rfl ?_
        refine B_cV0v (c_X8_laysBack (d := d - 1) hk_X8_laysBack  hM) csV_X8_189 (sc_56) vc_8 rfl hp0 (rm_f hk1) (rm_l hk1 (by decide)) (Nat.le_of_ble_eq_true rfl) dX8_would_104 (fun h16 hM => ?_)
        refine B_iload dX8_would_107 rfl ?_
        refine B_if_eq dX8_would_109 hM (tgt := 116) rfl (fun hM => ?_) (fun hM => ?_)
        · refine B_iconst dX8_would_116 k_ic_0 ?_
          exact B_iret ⟨_, rfl, hM⟩ trivial dX8_would_117
        · refine B_iconst dX8_would_112 k_ic_2 ?_
          refine B_goto (tgt := 117) dX8_would_113 rfl ?_
          exact B_iret ⟨_, rfl, hM⟩ trivial dX8_would_117
      · refine B_iconst dX8_would_33 k_ic_1 ?_
        exact B_iret ⟨_, rfl, hM⟩ trivial dX8_would_34
    · refine B_bipush dX8_would_20 k_bi_m5 ?_
      exact B_iret ⟨_, rfl, hM⟩ trivial dX8_would_22
  · refine B_iconst dX8_would_10 k_ic_m1 ?_
    exact B_iret ⟨_, rfl, hM⟩ trivial dX8_would_11
