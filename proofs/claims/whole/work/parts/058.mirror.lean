def X8_into_c39 (F : Nat) (K : Int32 → AH → Prop) (n : Nat) : Int32 → Int32 → Int32 → Int32 → AH → Prop := Nat.rec (motive := fun _ => Int32 → Int32 → Int32 → Int32 → AH → Prop) (fun _ _ _ _ _ => False) (fun _ rc39 x1 x2 x3 x4 h => if (30 : Int32) ≤ x4 then (K x4 h) else (vp_in x2 3 ∧ (if ((h 66 x2.toNatClampNeg) - x4) ≤ x3 then (K x4 h) else (¬ (5 : Int32) = 0 ∧ (¬ (5 : Int32) = 0 ∧ (P_X8_at F (x4 / (5 : Int32)) x1 ((x4 - x4 / (5 : Int32) * (5 : Int32)) + (1 : Int32)) h (fun (r2 : Int32) (h1 : AH) => vp_in r2 441 ∧ (vp_in ((((36 : Int32) * x2) + x3) + x4) 108 ∧ ((fun (h3 : AH) => rc39 x1 x2 x3 (x4 + (1 : Int32)) h3) (up h1 67 ((((36 : Int32) * x2) + x3) + x4).toNatClampNeg (h1 57 r2.toNatClampNeg))))))))))) n
theorem X8_into_c39_s {F : Nat} {K : Int32 → AH → Prop} {n : Nat} {x1 : Int32} {x2 : Int32} {x3 : Int32} {x4 : Int32} {h : AH} : X8_into_c39 F K (n + 1) x1 x2 x3 x4 h = (if (30 : Int32) ≤ x4 then (K x4 h) else (vp_in x2 3 ∧ (if ((h 66 x2.toNatClampNeg) - x4) ≤ x3 then (K x4 h) else (¬ (5 : Int32) = 0 ∧ (¬ (5 : Int32) = 0 ∧ (P_X8_at F (x4 / (5 : Int32)) x1 ((x4 - x4 / (5 : Int32) * (5 : Int32)) + (1 : Int32)) h (fun (r2 : Int32) (h1 : AH) => vp_in r2 441 ∧ (vp_in ((((36 : Int32) * x2) + x3) + x4) 108 ∧ ((fun (h3 : AH) => (X8_into_c39 F K n) x1 x2 x3 (x4 + (1 : Int32)) h3) (up h1 67 ((((36 : Int32) * x2) + x3) + x4).toNatClampNeg (h1 57 r2.toNatClampNeg))))))))))) := rfl
set_option maxHeartbeats 4000000 in
theorem bw_X8_into_c39 {l : Launch} {d : Nat} {F : Nat} {K : Int32 → AH → Prop} (hd : 2 ≤ d) : ∀ (n : Nat) (x1 : Int32) (x2 : Int32) (x3 : Int32) (x4 : Int32) (h : AH), X8_into_c39 F K n x1 x2 x3 x4 h → BW RX8 cX8_into 5 (some .int) l (rmD d) tb0 3 [.ref 56, .int x1, .int x2, .int x3, .int x4] [] 39 h (Qi K) := by
  have hk1 : 1 ≤ d := by omega
  have hk_X8_at : 0 ≤ d - 1 := by omega
  have hk_X8_isList : 1 ≤ d - 1 := by omega
  have hk_X8_isThing : 1 ≤ d - 1 := by omega
  intro n
  induction n with
  | zero =>
    intro x1 x2 x3 x4 h hM
    exact hM.elim
  | succ n hr39 =>
    intro x1 x2 x3 x4 h hM
    rw [X8_into_c39_s] at hM
    refine B_iload dX8_into_39 rfl ?_
    refine B_bipush dX8_into_41 k_bi_30 ?_
    refine B_icmp_ge dX8_into_43 hM (tgt := 98) rfl (fun hM => ?_) (fun hM => ?_)
    · refine B_iload dX8_into_98 rfl ?_
      exact B_iret ⟨_, rfl, hM⟩ trivial dX8_into_100
    · refine B_iload_n dX8_into_46 rfl ?_
      refine B_aload_n dX8_into_47 rfl ?_
      refine B_getR (sc_56) vc_8 (k := 25) (j := 66) rfl (by decide) inG8 ⟨rfl, rfl, rfl⟩ ww_fl_X8_43 dX8_into_48 ?_
      refine B_iload_n dX8_into_51 rfl ?_
      refine B_iald (sc_66) hM dX8_into_52 (fun hM => ?_)
      refine B_iload dX8_into_53 rfl ?_
      refine B_isub dX8_into_55 ?_
      refine B_icmp_ge dX8_into_56 hM (tgt := 98) rfl (fun hM => ?_) (fun hM => ?_)
      · refine B_iload dX8_into_98 rfl ?_
        exact B_iret ⟨_, rfl, hM⟩ trivial dX8_into_100
      · refine B_aload_n dX8_into_59 rfl ?_
        refine B_getR (sc_56) vc_8 (k := 26) (j := 67) rfl (by decide) inG8 ⟨rfl, rfl, rfl⟩ ww_fl_X8_46 dX8_into_60 ?_
        refine B_bipush dX8_into_63 k_bi_36 ?_
        refine B_iload_n dX8_into_65 rfl ?_
        refine B_imul dX8_into_66 ?_
        refine B_iload_n dX8_into_67 rfl ?_
        refine B_iadd dX8_into_68 ?_
        refine B_iload dX8_into_69 rfl ?_
        refine B_iadd dX8_into_71 ?_
        refine B_aload_n dX8_into_72 rfl ?_
        refine B_getR (sc_56) vc_8 (k := 1) (j := 57) rfl (by decide) inG8 ⟨rfl, rfl, rfl⟩ ww_fl_X8_15 dX8_into_73 ?_
        refine B_iload dX8_into_76 rfl ?_
        refine B_iconst dX8_into_78 k_ic_5 ?_
        refine B_idiv dX8_into_79 hM (fun hM => ?_)
        refine B_iload_n dX8_into_80 rfl ?_
        refine B_iload dX8_into_81 rfl ?_
        refine B_iconst dX8_into_83 k_ic_5 ?_
        refine B_irem dX8_into_84 hM (fun hM => ?_)
        refine B_iconst dX8_into_85 k_ic_1 ?_
        refine B_iadd dX8_into_86 ?_
        refine B_cS3i (c_X8_at (d := d - 1) hk_X8_at  hM) csS_X8_84 hp0 (rm_f hk1) (rm_l hk1 (by decide)) (Nat.le_of_ble_eq_true rfl) dX8_into_87 (fun r2 h1 hM => ?_)
        refine B_iald (sc_57) hM dX8_into_90 (fun hM => ?_)
        refine B_iast (sc_67) hM dX8_into_91 (fun hM => ?_)
        refine B_iinc dX8_into_92 rfl k_ic_1 (Nat.le_of_ble_eq_true rfl) ?_
        refine B_goto (tgt := 39) dX8_into_95 rfl ?_
        exact B_wk (hr39 _ _ _ _ _ hM) (wk_1 (wk_1 (wk_1 (wk_1 (wk_1 wk_n)))))
def P_X8_into (F : Nat) (a1 : Int32) (a2 : Int32) (a3 : Int32) (h : AH) (K : Int32 → AH → Prop) : Prop := P_X8_isThing F a1 h (fun (r2 : Int32) (h1 : AH) => if r2 = 0 then (K (-1 : Int32) h1) else (P_X8_isList F a2 h1 (fun (r4 : Int32) (h3 : AH) => if ¬ r4 = 0 then (vp_in a2 3 ∧ (if 0 ≤ (h3 66 a2.toNatClampNeg) then (if 0 ≤ a3 then (X8_into_c39 F K F a1 a2 a3 (0 : Int32) h3) else (K (-13 : Int32) h3)) else (K (-11 : Int32) h3))) else (K (-1 : Int32) h3))))
set_option maxHeartbeats 4000000 in
theorem c_X8_into {l : Launch} {d : Nat} {F : Nat} {a1 : Int32} {a2 : Int32} {a3 : Int32} {h : AH} {K : Int32 → AH → Prop} (hd : 2 ≤ d) (hM : P_X8_into F a1 a2 a3 h K) : Ct l yX8_into cX8_into 5 (some .int) (rmD d) [.ref 56, .int a1, .int a2, .int a3] h (Qi K) := by
  have hk1 : 1 ≤ d := by omega
  have hk_X8_at : 0 ≤ d - 1 := by omega
  have hk_X8_isList : 1 ≤ d - 1 := by omega
  have hk_X8_isThing : 1 ≤ d - 1 := by omega
  refine Ct_ofBW (by decide) rfl (Nat.le_of_ble_eq_true rfl) ⟨rfl, rfl⟩ ?_
  show BW RX8 cX8_into 5 (some .int) l (rmD d) tb0 3 [.ref 56, .int a1, .int a2, .int a3, .null] [] 0 h (Qi K)
  unfold P_X8_into at hM
  refine B_aload_n dX8_into_0 rfl ?_
  refine B_iload_n dX8_into_1 rfl ?_
  refine B_cV1i (c_X8_isThing (d := d - 1) hk_X8_isThing  hM) csV_X8_70 (sc_56) vc_8 rfl hp0 (rm_f hk1) (rm_l hk1 (by decide)) (Nat.le_of_ble_eq_true rfl) dX8_into_2 (fun r2 h1 hM => ?_)
  refine B_if_eq dX8_into_5 hM (tgt := 15) rfl (fun hM => ?_) (fun hM => ?_)
  · refine B_iconst dX8_into_15 k_ic_m1 ?_
    exact B_iret ⟨_, rfl, hM⟩ trivial dX8_into_16
  · refine B_iload_n dX8_into_8 rfl ?_
    refine B_cS1i (c_X8_isList (d := d - 1) hk_X8_isList  hM) csS_X8_312 hp0 (rm_f hk1) (rm_l hk1 (by decide)) (Nat.le_of_ble_eq_true rfl) dX8_into_9 (fun r4 h3 hM => ?_)
    refine B_if_ne dX8_into_12 hM (tgt := 17) rfl (fun hM => ?_) (fun hM => ?_)
    · refine B_aload_n dX8_into_17 rfl ?_
      refine B_getR (sc_56) vc_8 (k := 25) (j := 66) rfl (by decide) inG8 ⟨rfl, rfl, rfl⟩ ww_fl_X8_43 dX8_into_18 ?_
      refine B_iload_n dX8_into_21 rfl ?_
      refine B_iald (sc_66) hM dX8_into_22 (fun hM => ?_)
      refine B_if_ge dX8_into_23 hM (tgt := 29) rfl (fun hM => ?_) (fun hM => ?_)
      · refine B_iload_n dX8_into_29 rfl ?_
        refine B_if_ge dX8_into_30 hM (tgt := 36) rfl (fun hM => ?_) (fun hM => ?_)
        · refine B_iconst dX8_into_36 k_ic_0 ?_
          refine B_istore dX8_into_37 (Nat.le_of_ble_eq_true rfl) ?_
          exact B_wk (bw_X8_into_c39 hd  _ _ _ _ _ _ hM) (wk_1 (wk_1 (wk_1 (wk_1 (wk_1 wk_n)))))
        · refine B_bipush dX8_into_33 k_bi_m13 ?_
          exact B_iret ⟨_, rfl, hM⟩ trivial dX8_into_35
      · refine B_bipush dX8_into_26 k_bi_m11 ?_
        exact B_iret ⟨_, rfl, hM⟩ trivial dX8_into_28
    · refine B_iconst dX8_into_15 k_ic_m1 ?_
      exact B_iret ⟨_, rfl, hM⟩ trivial dX8_into_16

def P_X8_image (F : Nat) (h : AH) (K : Int32 → AH → Prop) : Prop := P_X8_copies F 57 68 h (fun (h1 : AH) => (fun (h2 : AH) => vp_in (0 : Int32) 441 ∧ (K (h2 57 (0 : Int32).toNatClampNeg) h2)) (up h1 56 28 (1 : Int32)))
set_option maxHeartbeats 4000000 in
theorem c_X8_image {l : Launch} {d : Nat} {F : Nat} {h : AH} {K : Int32 → AH → Prop} (hd : 1 ≤ d) (hM : P_X8_image F h K) : Ct l yX8_image cX8_image 1 (some .int) (rmD d) [.ref 56] h (Qi K) := by
  have hk1 : 1 ≤ d := by omega
  have hk_X8_copies : 0 ≤ d - 1 := by omega
  refine Ct_ofBW (by decide) rfl (Nat.le_of_ble_eq_true rfl) ⟨rfl, rfl⟩ ?_
  show BW RX8 cX8_image 1 (some .int) l (rmD d) tb0 3 [.ref 56] [] 0 h (Qi K)
  unfold P_X8_image at hM
  refine B_aload_n dX8_image_0 rfl ?_
  refine B_getR (sc_56) vc_8 (k := 1) (j := 57) rfl (by decide) inG8 ⟨rfl, rfl, rfl⟩ ww_fl_X8_15 dX8_image_1 ?_
  refine B_aload_n dX8_image_4 rfl ?_
  refine B_getR (sc_56) vc_8 (k := 27) (j := 68) rfl (by decide) inG8 ⟨rfl, rfl, rfl⟩ ww_fl_X8_49 dX8_image_5 ?_
  refine B_cS2v (c_X8_copies (d := d - 1) hk_X8_copies sc_57 sc_68 hM) csS_X8_52 hp0 (rm_f hk1) (rm_l hk1 (by decide)) (Nat.le_of_ble_eq_true rfl) dX8_image_8 (fun h1 hM => ?_)
  refine B_aload_n dX8_image_11 rfl ?_
  refine B_iconst dX8_image_12 k_ic_1 ?_
  refine B_putI (fits_Z zB_1) (sc_56) vc_8 (k := 28) rfl (by decide) inG8 ⟨rfl, rfl, rfl⟩ tyX8 tyX8_ok nmX8 rfl rfl ww_fl_X8_317 dX8_image_13 ?_
  refine B_aload_n dX8_image_16 rfl ?_
  refine B_getR (sc_56) vc_8 (k := 1) (j := 57) rfl (by decide) inG8 ⟨rfl, rfl, rfl⟩ ww_fl_X8_15 dX8_image_17 ?_
  refine B_iconst dX8_image_20 k_ic_0 ?_
  refine B_iald (sc_57) hM dX8_image_21 (fun hM => ?_)
  exact B_iret ⟨_, rfl, hM⟩ trivial dX8_image_22

def P_X8_back (F : Nat) (h : AH) (K : Int32 → AH → Prop) : Prop := if ¬ (h 56 28) = 0 then (P_X8_copies F 68 57 h (fun (h1 : AH) => vp_in (0 : Int32) 441 ∧ (K (h1 57 (0 : Int32).toNatClampNeg) h1))) else (K (-5 : Int32) h)
set_option maxHeartbeats 4000000 in
theorem c_X8_back {l : Launch} {d : Nat} {F : Nat} {h : AH} {K : Int32 → AH → Prop} (hd : 1 ≤ d) (hM : P_X8_back F h K) : Ct l yX8_back cX8_back 1 (some .int) (rmD d) [.ref 56] h (Qi K) := by
  have hk1 : 1 ≤ d := by omega
  have hk_X8_copies : 0 ≤ d - 1 := by omega
  refine Ct_ofBW (by decide) rfl (Nat.le_of_ble_eq_true rfl) ⟨rfl, rfl⟩ ?_
  show BW RX8 cX8_back 1 (some .int) l (rmD d) tb0 3 [.ref 56] [] 0 h (Qi K)
  unfold P_X8_back at hM
  refine B_aload_n dX8_back_0 rfl ?_
  refine B_getI (sc_56) vc_8 (k := 28) rfl (by decide) inG8 ⟨rfl, rfl, rfl⟩ ww_fl_X8_317 dX8_back_1 ?_
  refine B_if_ne dX8_back_4 hM (tgt := 10) rfl (fun hM => ?_) (fun hM => ?_)
  · refine B_aload_n dX8_back_10 rfl ?_
    refine B_getR (sc_56) vc_8 (k := 27) (j := 68) rfl (by decide) inG8 ⟨rfl, rfl, rfl⟩ ww_fl_X8_49 dX8_back_11 ?_
    refine B_aload_n dX8_back_14 rfl ?_
    refine B_getR (sc_56) vc_8 (k := 1) (j := 57) rfl (by decide) inG8 ⟨rfl, rfl, rfl⟩ ww_fl_X8_15 dX8_back_15 ?_
    refine B_cS2v (c_X8_copies (d := d - 1) hk_X8_copies sc_68 sc_57 hM) csS_X8_52 hp0 (rm_f hk1) (rm_l hk1 (by decide)) (Nat.le_of_ble_eq_true rfl) dX8_back_18 (fun h1 hM => ?_)
    refine B_aload_n dX8_back_21 rfl ?_
    refine B_getR (sc_56) vc_8 (k := 1) (j := 57) rfl (by decide) inG8 ⟨rfl, rfl, rfl⟩ ww_fl_X8_15 dX8_back_22 ?_
    refine B_iconst dX8_back_25 k_ic_0 ?_
    refine B_iald (sc_57) hM dX8_back_26 (fun hM => ?_)
    exact B_iret ⟨_, rfl, hM⟩ trivial dX8_back_27
  · refine B_bipush dX8_back_7 k_bi_m5 ?_
    exact B_iret ⟨_, rfl, hM⟩ trivial dX8_back_9
