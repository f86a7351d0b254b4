def X5_serve_c4 (F : Nat) (b : Nat) (K : Int32 → AH → Prop) (n : Nat) : Int32 → Int32 → AH → Prop := Nat.rec (motive := fun _ => Int32 → Int32 → AH → Prop) (fun _ _ _ => False) (fun _ rc4 x1 x2 h => if (nI 6) ≤ x2 then (K x1 h) else (P_X5_nextToServe F b h (fun (r2 : Int32) (h1 : AH) => if (nI 0) ≤ r2 then (vp_in r2 6 ∧ (vp_in r2 6 ∧ (P_X5_grant F b r2 (h1 (b + 6) r2.toNatClampNeg) (h1 (b + 7) r2.toNatClampNeg) h1 (fun (h3 : AH) => P_X5_quitLine F b r2 h3 (fun (h4 : AH) => rc4 (x1 + (nI 1)) (x2 + (nI 1)) h4))))) else (K x1 h1)))) n
theorem X5_serve_c4_s {F : Nat} {b : Nat} {K : Int32 → AH → Prop} {n : Nat} {x1 : Int32} {x2 : Int32} {h : AH} : X5_serve_c4 F b K (n + 1) x1 x2 h = (if (nI 6) ≤ x2 then (K x1 h) else (P_X5_nextToServe F b h (fun (r2 : Int32) (h1 : AH) => if (nI 0) ≤ r2 then (vp_in r2 6 ∧ (vp_in r2 6 ∧ (P_X5_grant F b r2 (h1 (b + 6) r2.toNatClampNeg) (h1 (b + 7) r2.toNatClampNeg) h1 (fun (h3 : AH) => P_X5_quitLine F b r2 h3 (fun (h4 : AH) => (X5_serve_c4 F b K n) (x1 + (nI 1)) (x2 + (nI 1)) h4))))) else (K x1 h1)))) := rfl
set_option maxHeartbeats 4000000 in
theorem bw_X5_serve_c4 {l : Launch} {d : Nat} {F : Nat} {b : Nat} {K : Int32 → AH → Prop} (hd : 3 ≤ d) (hb : isTbl b) : ∀ (n : Nat) (x1 : Int32) (x2 : Int32) (h : AH), X5_serve_c4 F b K n x1 x2 h → BW RX5 cX5_serve 4 (some .int) l (rmD d) tb0 3 [.ref b, .int x1, .int x2, .null] [] 4 h (Qi K) := by
  have hk1 : 1 ≤ d := by omega
  have hk_X5_grant : 2 ≤ d - 1 := by omega
  have hk_X5_nextToServe : 2 ≤ d - 1 := by omega
  have hk_X5_quitLine : 0 ≤ d - 1 := by omega
  intro n
  induction n with
  | zero =>
    intro x1 x2 h hM
    exact hM.elim
  | succ n hr4 =>
    intro x1 x2 h hM
    rw [X5_serve_c4_s] at hM
    refine B_iload_n dX5_serve_4 rfl ?_
    refine B_bipush dX5_serve_5 k_bi_6 ?_
    refine B_icmp_ge dX5_serve_7 hM (tgt := 53) rfl (fun hM => ?_) (fun hM => ?_)
    · refine B_iload_n dX5_serve_53 rfl ?_
      exact B_iret ⟨_, rfl, hM⟩ trivial dX5_serve_54
    · refine B_aload_n dX5_serve_10 rfl ?_
      refine B_cV0i (c_X5_nextToServe (d := d - 1) hk_X5_nextToServe hb hM) csV_X5_131 (tb_0 hb) vc_5 rfl hp0 (rm_f hk1) (rm_l hk1 (by decide)) (Nat.le_of_ble_eq_true rfl) dX5_serve_11 (fun r2 h1 hM => ?_)
      refine B_istore_n dX5_serve_14 (Nat.le_of_ble_eq_true rfl) ?_
      refine B_iload_n dX5_serve_15 rfl ?_
      refine B_if_ge dX5_serve_16 hM (tgt := 22) rfl (fun hM => ?_) (fun hM => ?_)
      · refine B_aload_n dX5_serve_22 rfl ?_
        refine B_iload_n dX5_serve_23 rfl ?_
        refine B_aload_n dX5_serve_24 rfl ?_
        refine B_getR (tb_0 hb) vc_5 (k := 7) (j := (b + 6)) rfl (by decide) inG5 ⟨rfl, rfl, rfl⟩ ww_fl_X5_34 dX5_serve_25 ?_
        refine B_iload_n dX5_serve_28 rfl ?_
        refine B_iald (tb_6 hb) hM dX5_serve_29 (fun hM => ?_)
        refine B_aload_n dX5_serve_30 rfl ?_
        refine B_getR (tb_0 hb) vc_5 (k := 8) (j := (b + 7)) rfl (by decide) inG5 ⟨rfl, rfl, rfl⟩ ww_fl_X5_37 dX5_serve_31 ?_
        refine B_iload_n dX5_serve_34 rfl ?_
        refine B_iald (tb_7 hb) hM dX5_serve_35 (fun hM => ?_)
        refine B_cV3v (c_X5_grant (d := d - 1) hk_X5_grant hb hM) csV_X5_106 (tb_0 hb) vc_5 rfl hp0 (rm_f hk1) (rm_l hk1 (by decide)) (Nat.le_of_ble_eq_true rfl) dX5_serve_36 (fun h3 hM => ?_)
        refine B_aload_n dX5_serve_39 rfl ?_
        refine B_iload_n dX5_serve_40 rfl ?_
        refine B_cV1v (c_X5_quitLine (d := d - 1) hk_X5_quitLine hb hM) csV_X5_127 (tb_0 hb) vc_5 rfl hp0 (rm_f hk1) (rm_l hk1 (by decide)) (Nat.le_of_ble_eq_true rfl) dX5_serve_41 (fun h4 hM => ?_)
        refine B_iinc dX5_serve_44 rfl k_ic_1 (Nat.le_of_ble_eq_true rfl) ?_
        refine B_iinc dX5_serve_47 rfl k_ic_1 (Nat.le_of_ble_eq_true rfl) ?_
        refine B_goto (tgt := 4) dX5_serve_50 rfl ?_
        exact B_wk (hr4 _ _ _ hM) (wk_1 (wk_1 (wk_1 (wk_0 wk_n))))
      · refine B_goto (tgt := 53) dX5_serve_19 rfl ?_
        refine B_iload_n dX5_serve_53 rfl ?_
        exact B_iret ⟨_, rfl, hM⟩ trivial dX5_serve_54
def P_X5_serve (F : Nat) (b : Nat) (h : AH) (K : Int32 → AH → Prop) : Prop := X5_serve_c4 F b K F (nI 0) (nI 0) h
set_option maxHeartbeats 4000000 in
theorem c_X5_serve {l : Launch} {d : Nat} {F : Nat} {b : Nat} {h : AH} {K : Int32 → AH → Prop} (hd : 3 ≤ d) (hb : isTbl b) (hM : P_X5_serve F b h K) : Ct l yX5_serve cX5_serve 4 (some .int) (rmD d) [.ref b] h (Qi K) := by
  have hk1 : 1 ≤ d := by omega
  have hk_X5_grant : 2 ≤ d - 1 := by omega
  have hk_X5_nextToServe : 2 ≤ d - 1 := by omega
  have hk_X5_quitLine : 0 ≤ d - 1 := by omega
  refine Ct_ofBW (by decide) rfl (Nat.le_of_ble_eq_true rfl) ⟨rfl, rfl⟩ ?_
  show BW RX5 cX5_serve 4 (some .int) l (rmD d) tb0 3 [.ref b, .null, .null, .null] [] 0 h (Qi K)
  unfold P_X5_serve at hM
  refine B_iconst dX5_serve_0 k_ic_0 ?_
  refine B_istore_n dX5_serve_1 (Nat.le_of_ble_eq_true rfl) ?_
  refine B_iconst dX5_serve_2 k_ic_0 ?_
  refine B_istore_n dX5_serve_3 (Nat.le_of_ble_eq_true rfl) ?_
  exact B_wk (bw_X5_serve_c4 hd hb  _ _ _ _ hM) (wk_1 (wk_1 (wk_1 (wk_0 wk_n))))

def X5_giveUpAll_c17 (F : Nat) (b : Nat) (rc7 : Int32 → Int32 → AH → Prop) (K : Int32 → AH → Prop) (n : Nat) : Int32 → Int32 → Int32 → AH → Prop := Nat.rec (motive := fun _ => Int32 → Int32 → Int32 → AH → Prop) (fun _ _ _ _ => False) (fun _ rc17 x1 x2 x3 h => if (nI 5) < x3 then (rc7 x1 (x2 + (nI 1)) h) else (P_X5_cell F x1 x2 x3 h (fun (r2 : Int32) (h1 : AH) => vp_in r2 360 ∧ ((fun (h3 : AH) => P_X5_row F x2 x3 h3 (fun (r5 : Int32) (h4 : AH) => vp_in r5 60 ∧ (vp_in r5 60 ∧ ((fun (h6 : AH) => rc17 x1 x2 (x3 + (nI 1)) h6) (up h4 (b + 4) r5.toNatClampNeg ((h4 (b + 4) r5.toNatClampNeg) &&& (((nI 1) <<< (x1 &&& 31)) ^^^ (-1 : Int32)))))))) (up h1 (b + 3) r2.toNatClampNeg (nI 0)))))) n
theorem X5_giveUpAll_c17_s {F : Nat} {b : Nat} {rc7 : Int32 → Int32 → AH → Prop} {K : Int32 → AH → Prop} {n : Nat} {x1 : Int32} {x2 : Int32} {x3 : Int32} {h : AH} : X5_giveUpAll_c17 F b rc7 K (n + 1) x1 x2 x3 h = (if (nI 5) < x3 then (rc7 x1 (x2 + (nI 1)) h) else (P_X5_cell F x1 x2 x3 h (fun (r2 : Int32) (h1 : AH) => vp_in r2 360 ∧ ((fun (h3 : AH) => P_X5_row F x2 x3 h3 (fun (r5 : Int32) (h4 : AH) => vp_in r5 60 ∧ (vp_in r5 60 ∧ ((fun (h6 : AH) => (X5_giveUpAll_c17 F b rc7 K n) x1 x2 (x3 + (nI 1)) h6) (up h4 (b + 4) r5.toNatClampNeg ((h4 (b + 4) r5.toNatClampNeg) &&& (((nI 1) <<< (x1 &&& 31)) ^^^ (-1 : Int32)))))))) (up h1 (b + 3) r2.toNatClampNeg (nI 0)))))) := rfl
set_option maxHeartbeats 4000000 in
theorem bw_X5_giveUpAll_c17 {l : Launch} {d : Nat} {F : Nat} {b : Nat} {rc7 : Int32 → Int32 → AH → Prop} {K : Int32 → AH → Prop} (hd : 4 ≤ d) (hb : isTbl b) (hr7 : ∀ (x1 : Int32) (x2 : Int32) (h : AH), rc7 x1 x2 h → BW RX5 cX5_giveUpAll 4 (some .int) l (rmD d) tb0 3 [.ref b, .int x1, .int x2, .null] [] 7 h (Qi K)) : ∀ (n : Nat) (x1 : Int32) (x2 : Int32) (x3 : Int32) (h : AH), X5_giveUpAll_c17 F b rc7 K n x1 x2 x3 h → BW RX5 cX5_giveUpAll 4 (some .int) l (rmD d) tb0 3 [.ref b, .int x1, .int x2, .int x3] [] 17 h (Qi K) := by
  have hk1 : 1 ≤ d := by omega
  have hk_X5_cell : 0 ≤ d - 1 := by omega
  have hk_X5_quitLine : 0 ≤ d - 1 := by omega
  have hk_X5_row : 0 ≤ d - 1 := by omega
  have hk_X5_serve : 3 ≤ d - 1 := by omega
  intro n
  induction n with
  | zero =>
    intro x1 x2 x3 h hM
    exact hM.elim
  | succ n hr17 =>
    intro x1 x2 x3 h hM
    rw [X5_giveUpAll_c17_s] at hM
    refine B_iload_n dX5_giveUpAll_17 rfl ?_
    refine B_iconst dX5_giveUpAll_18 k_ic_5 ?_
    refine B_icmp_gt dX5_giveUpAll_19 hM (tgt := 58) rfl (fun hM => ?_) (fun hM => ?_)
    · refine B_iinc dX5_giveUpAll_58 rfl k_ic_1 (Nat.le_of_ble_eq_true rfl) ?_
      refine B_goto (tgt := 7) dX5_giveUpAll_61 rfl ?_
      exact B_wk (hr7 _ _ _ hM) (wk_1 (wk_1 (wk_1 (wk_0 wk_n))))
    · refine B_aload_n dX5_giveUpAll_22 rfl ?_
      refine B_getR (tb_0 hb) vc_5 (k := 3) (j := (b + 3)) rfl (by decide) inG5 ⟨rfl, rfl, rfl⟩ ww_fl_X5_22 dX5_giveUpAll_23 ?_
      refine B_iload_n dX5_giveUpAll_26 rfl ?_
      refine B_iload_n dX5_giveUpAll_27 rfl ?_
      refine B_iload_n dX5_giveUpAll_28 rfl ?_
      refine B_cS3i (c_X5_cell (d := d - 1) hk_X5_cell  hM) csS_X5_116 hp0 (rm_f hk1) (rm_l hk1 (by decide)) (Nat.le_of_ble_eq_true rfl) dX5_giveUpAll_29 (fun r2 h1 hM => ?_)
      refine B_iconst dX5_giveUpAll_32 k_ic_0 ?_
      refine B_iast (tb_3 hb) hM dX5_giveUpAll_33 (fun hM => ?_)
      refine B_aload_n dX5_giveUpAll_34 rfl ?_
      refine B_getR (tb_0 hb) vc_5 (k := 4) (j := (b + 4)) rfl (by decide) inG5 ⟨rfl, rfl, rfl⟩ ww_fl_X5_25 dX5_giveUpAll_35 ?_
      refine B_iload_n dX5_giveUpAll_38 rfl ?_
      refine B_iload_n dX5_giveUpAll_39 rfl ?_
      refine B_cS2i (c_X5_row (d := d - 1) hk_X5_row  hM) csS_X5_78 hp0 (rm_f hk1) (rm_l hk1 (by decide)) (Nat.le_of_ble_eq_true rfl) dX5_giveUpAll_40 (fun r5 h4 hM => ?_)
      refine B_dup2 dX5_giveUpAll_43 ?_
      refine B_iald (tb_4 hb) hM dX5_giveUpAll_44 (fun hM => ?_)
      refine B_iconst dX5_giveUpAll_45 k_ic_1 ?_
      refine B_iload_n dX5_giveUpAll_46 rfl ?_
      refine B_ishl dX5_giveUpAll_47 ?_
      refine B_iconst dX5_giveUpAll_48 k_ic_m1 ?_
      refine B_ixor dX5_giveUpAll_49 ?_
      refine B_iand dX5_giveUpAll_50 ?_
      refine B_iast (tb_4 hb) hM dX5_giveUpAll_51 (fun hM => ?_)
      refine B_iinc dX5_giveUpAll_52 rfl k_ic_1 (Nat.le_of_ble_eq_true rfl) ?_
      refine B_goto (tgt := 17) dX5_giveUpAll_55 rfl ?_
      exact B_wk (hr17 _ _ _ _ hM) (wk_1 (wk_1 (wk_1 (wk_1 wk_n))))
def X5_giveUpAll_c7 (F : Nat) (b : Nat) (K : Int32 → AH → Prop) (n : Nat) : Int32 → Int32 → AH → Prop := Nat.rec (motive := fun _ => Int32 → Int32 → AH → Prop) (fun _ _ _ => False) (fun _ rc7 x1 x2 h => if (h b 0) ≤ x2 then (P_X5_serve F b h (fun (r2 : Int32) (h1 : AH) => K r2 h1)) else (X5_giveUpAll_c17 F b rc7 K F x1 x2 (nI 1) h)) n
theorem X5_giveUpAll_c7_s {F : Nat} {b : Nat} {K : Int32 → AH → Prop} {n : Nat} {x1 : Int32} {x2 : Int32} {h : AH} : X5_giveUpAll_c7 F b K (n + 1) x1 x2 h = (if (h b 0) ≤ x2 then (P_X5_serve F b h (fun (r2 : Int32) (h1 : AH) => K r2 h1)) else (X5_giveUpAll_c17 F b (X5_giveUpAll_c7 F b K n) K F x1 x2 (nI 1) h)) := rfl
set_option maxHeartbeats 4000000 in
theorem bw_X5_giveUpAll_c7 {l : Launch} {d : Nat} {F : Nat} {b : Nat} {K : Int32 → AH → Prop} (hd : 4 ≤ d) (hb : isTbl b) : ∀ (n : Nat) (x1 : Int32) (x2 : Int32) (h : AH), X5_giveUpAll_c7 F b K n x1 x2 h → BW RX5 cX5_giveUpAll 4 (some .int) l (rmD d) tb0 3 [.ref b, .int x1, .int x2, .null] [] 7 h (Qi K) := by
  have hk1 : 1 ≤ d := by omega
  have hk_X5_cell : 0 ≤ d - 1 := by omega
  have hk_X5_quitLine : 0 ≤ d - 1 := by omega
  have hk_X5_row : 0 ≤ d - 1 := by omega
  have hk_X5_serve : 3 ≤ d - 1 := by omega
  intro n
  induction n with
  | zero =>
    intro x1 x2 h hM
    exact hM.elim
  | succ n hr7 =>
    intro x1 x2 h hM
    rw [X5_giveUpAll_c7_s] at hM
    refine B_iload_n dX5_giveUpAll_7 rfl ?_
    refine B_aload_n dX5_giveUpAll_8 rfl ?_
    refine B_getI (tb_0 hb) vc_5 (k := 0) rfl (by decide) inG5 ⟨rfl, rfl, rfl⟩ ww_fl_X5_9 dX5_giveUpAll_9 ?_
    refine B_icmp_ge dX5_giveUpAll_12 hM (tgt := 64) rfl (fun hM => ?_) (fun hM => ?_)
    · refine B_aload_n dX5_giveUpAll_64 rfl ?_
      refine B_cV0i (c_X5_serve (d := d - 1) hk_X5_serve hb hM) csV_X5_123 (tb_0 hb) vc_5 rfl hp0 (rm_f hk1) (rm_l hk1 (by decide)) (Nat.le_of_ble_eq_true rfl) dX5_giveUpAll_65 (fun r2 h1 hM => ?_)
      exact B_iret ⟨_, rfl, hM⟩ trivial dX5_giveUpAll_68
    · refine B_iconst dX5_giveUpAll_15 k_ic_1 ?_
      refine B_istore_n dX5_giveUpAll_16 (Nat.le_of_ble_eq_true rfl) ?_
      exact B_wk (bw_X5_giveUpAll_c17 hd hb hr7 _ _ _ _ _ hM) (wk_1 (wk_1 (wk_1 (wk_1 wk_n))))
def P_X5_giveUpAll (F : Nat) (b : Nat) (a1 : Int32) (h : AH) (K : Int32 → AH → Prop) : Prop := P_X5_quitLine F b a1 h (fun (h1 : AH) => X5_giveUpAll_c7 F b K F a1 (nI 0) h1)
set_option maxHeartbeats 4000000 in
theorem c_X5_giveUpAll {l : Launch} {d : Nat} {F : Nat} {b : Nat} {a1 : Int32} {h : AH} {K : Int32 → AH → Prop} (hd : 4 ≤ d) (hb : isTbl b) (hM : P_X5_giveUpAll F b a1 h K) : Ct l yX5_giveUpAll cX5_giveUpAll 4 (some .int) (rmD d) [.ref b, .int a1] h (Qi K) := by
  have hk1 : 1 ≤ d := by omega
  have hk_X5_cell : 0 ≤ d - 1 := by omega
  have hk_X5_quitLine : 0 ≤ d - 1 := by omega
  have hk_X5_row : 0 ≤ d - 1 := by omega
  have hk_X5_serve : 3 ≤ d - 1 := by omega
  refine Ct_ofBW (by decide) rfl (Nat.le_of_ble_eq_true rfl) ⟨rfl, rfl⟩ ?_
  show BW RX5 cX5_giveUpAll 4 (some .int) l (rmD d) tb0 3 [.ref b, .int a1, .null, .null] [] 0 h (Qi K)
  unfold P_X5_giveUpAll at hM
  refine B_aload_n dX5_giveUpAll_0 rfl ?_
  refine B_iload_n dX5_giveUpAll_1 rfl ?_
  refine B_cV1v (c_X5_quitLine (d := d - 1) hk_X5_quitLine hb hM) csV_X5_127 (tb_0 hb) vc_5 rfl hp0 (rm_f hk1) (rm_l hk1 (by decide)) (Nat.le_of_ble_eq_true rfl) dX5_giveUpAll_2 (fun h1 hM => ?_)
  refine B_iconst dX5_giveUpAll_5 k_ic_0 ?_
  refine B_istore_n dX5_giveUpAll_6 (Nat.le_of_ble_eq_true rfl) ?_
  exact B_wk (bw_X5_giveUpAll_c7 hd hb  _ _ _ _ hM) (wk_1 (wk_1 (wk_1 (wk_0 wk_n))))

def X4_takeRow_c7 (F : Nat) (b : Nat) (K : Int32 → AH → Prop) (n : Nat) : Int32 → Int32 → AH → Prop := Nat.rec (motive := fun _ => Int32 → Int32 → AH → Prop) (fun _ _ _ => False) (fun _ rc7 x2 x3 h => if (h b 9) ≤ x3 then (K (-1 : Int32) h) else (vp_in x3 12 ∧ (if ¬ (h (b + 8) x3.toNatClampNeg) = x2 then (rc7 x2 (x3 + (nI 1)) h) else (vp_in x2 6 ∧ ((fun (h1 : AH) => K x3 h1) (up h 38 x2.toNatClampNeg (x3 + (nI 1)))))))) n
theorem X4_takeRow_c7_s {F : Nat} {b : Nat} {K : Int32 → AH → Prop} {n : Nat} {x2 : Int32} {x3 : Int32} {h : AH} : X4_takeRow_c7 F b K (n + 1) x2 x3 h = (if (h b 9) ≤ x3 then (K (-1 : Int32) h) else (vp_in x3 12 ∧ (if ¬ (h (b + 8) x3.toNatClampNeg) = x2 then ((X4_takeRow_c7 F b K n) x2 (x3 + (nI 1)) h) else (vp_in x2 6 ∧ ((fun (h1 : AH) => K x3 h1) (up h 38 x2.toNatClampNeg (x3 + (nI 1)))))))) := rfl
set_option maxHeartbeats 4000000 in
theorem bw_X4_takeRow_c7 {l : Launch} {d : Nat} {F : Nat} {b : Nat} {K : Int32 → AH → Prop} (hd : 0 ≤ d) (hb : isTbl b) : ∀ (n : Nat) (x2 : Int32) (x3 : Int32) (h : AH), X4_takeRow_c7 F b K n x2 x3 h → BW RX4 cX4_takeRow 4 (some .int) l (rmD d) tb0 3 [.ref 37, .ref b, .int x2, .int x3] [] 7 h (Qi K) := by
  intro n
  induction n with
  | zero =>
    intro x2 x3 h hM
    exact hM.elim
  | succ n hr7 =>
    intro x2 x3 h hM
    rw [X4_takeRow_c7_s] at hM
    refine B_iload_n dX4_takeRow_7 rfl ?_
    refine B_aload_n dX4_takeRow_8 rfl ?_
    refine B_getI (tb_0 hb) vc_5 (k := 9) rfl (by decide) inG5 ⟨rfl, rfl, rfl⟩ ww_fl_X4_25 dX4_takeRow_9 ?_
    refine B_icmp_ge dX4_takeRow_12 hM (tgt := 42) rfl (fun hM => ?_) (fun hM => ?_)
    · refine B_iconst dX4_takeRow_42 k_ic_m1 ?_
      exact B_iret ⟨_, rfl, hM⟩ trivial dX4_takeRow_43
    · refine B_aload_n dX4_takeRow_15 rfl ?_
      refine B_getR (tb_0 hb) vc_5 (k := 10) (j := (b + 8)) rfl (by decide) inG5 ⟨rfl, rfl, rfl⟩ ww_fl_X4_30 dX4_takeRow_16 ?_
      refine B_iload_n dX4_takeRow_19 rfl ?_
      refine B_iald (tb_8 hb) hM dX4_takeRow_20 (fun hM => ?_)
      refine B_iload_n dX4_takeRow_21 rfl ?_
      refine B_icmp_ne dX4_takeRow_22 hM (tgt := 36) rfl (fun hM => ?_) (fun hM => ?_)
      · refine B_iinc dX4_takeRow_36 rfl k_ic_1 (Nat.le_of_ble_eq_true rfl) ?_
        refine B_goto (tgt := 7) dX4_takeRow_39 rfl ?_
        exact B_wk (hr7 _ _ _ hM) (wk_1 (wk_1 (wk_1 (wk_1 wk_n))))
      · refine B_aload_n dX4_takeRow_25 rfl ?_
        refine B_getR (sc_37) vc_4 (k := 0) (j := 38) rfl (by decide) inG4 ⟨rfl, rfl, rfl⟩ ww_fl_X4_9 dX4_takeRow_26 ?_
        refine B_iload_n dX4_takeRow_29 rfl ?_
        refine B_iload_n dX4_takeRow_30 rfl ?_
        refine B_iconst dX4_takeRow_31 k_ic_1 ?_
        refine B_iadd dX4_takeRow_32 ?_
        refine B_iast (sc_38) hM dX4_takeRow_33 (fun hM => ?_)
        refine B_iload_n dX4_takeRow_34 rfl ?_
        exact B_iret ⟨_, rfl, hM⟩ trivial dX4_takeRow_35
def P_X4_takeRow (F : Nat) (b : Nat) (a1 : Int32) (h : AH) (K : Int32 → AH → Prop) : Prop := vp_in a1 6 ∧ (X4_takeRow_c7 F b K F a1 (h 38 a1.toNatClampNeg) h)
set_option maxHeartbeats 4000000 in
theorem c_X4_takeRow {l : Launch} {d : Nat} {F : Nat} {b : Nat} {a1 : Int32} {h : AH} {K : Int32 → AH → Prop} (hd : 0 ≤ d) (hb : isTbl b) (hM : P_X4_takeRow F b a1 h K) : Ct l yX4_takeRow cX4_takeRow 4 (some .int) (rmD d) [.ref 37, .ref b, .int a1] h (Qi K) := by
  refine Ct_ofBW (by decide) rfl (Nat.le_of_ble_eq_true rfl) ⟨rfl, rfl⟩ ?_
  show BW RX4 cX4_takeRow 4 (some .int) l (rmD d) tb0 3 [.ref 37, .ref b, .int a1, .null] [] 0 h (Qi K)
  unfold P_X4_takeRow at hM
  refine B_aload_n dX4_takeRow_0 rfl ?_
  refine B_getR (sc_37) vc_4 (k := 0) (j := 38) rfl (by decide) inG4 ⟨rfl, rfl, rfl⟩ ww_fl_X4_9 dX4_takeRow_1 ?_
  refine B_iload_n dX4_takeRow_4 rfl ?_
  refine B_iald (sc_38) hM dX4_takeRow_5 (fun hM => ?_)
  refine B_istore_n dX4_takeRow_6 (Nat.le_of_ble_eq_true rfl) ?_
  exact B_wk (bw_X4_takeRow_c7 hd hb  _ _ _ _ hM) (wk_1 (wk_1 (wk_1 (wk_1 wk_n))))

def X5_askedCounts_c15 (F : Nat) (b : Nat) (rc4 : Int32 → Int32 → Int32 → AH → Prop) (K : Int32 → AH → Prop) (n : Nat) : Int32 → Int32 → Int32 → Int32 → AH → Prop := Nat.rec (motive := fun _ => Int32 → Int32 → Int32 → Int32 → AH → Prop) (fun _ _ _ _ _ => False) (fun _ rc15 x1 x2 x3 x4 h => if (nI 3) ≤ x4 then (rc4 x1 x2 (x3 + (nI 1)) h) else (vp_in x4 3 ∧ (P_X5_cell F x1 x3 (tAM x4.toNatClampNeg) h (fun (r2 : Int32) (h1 : AH) => vp_in r2 360 ∧ (rc15 x1 (x2 + (h1 (b + 3) r2.toNatClampNeg)) x3 (x4 + (nI 1)) h1))))) n
theorem X5_askedCounts_c15_s {F : Nat} {b : Nat} {rc4 : Int32 → Int32 → Int32 → AH → Prop} {K : Int32 → AH → Prop} {n : Nat} {x1 : Int32} {x2 : Int32} {x3 : Int32} {x4 : Int32} {h : AH} : X5_askedCounts_c15 F b rc4 K (n + 1) x1 x2 x3 x4 h = (if (nI 3) ≤ x4 then (rc4 x1 x2 (x3 + (nI 1)) h) else (vp_in x4 3 ∧ (P_X5_cell F x1 x3 (tAM x4.toNatClampNeg) h (fun (r2 : Int32) (h1 : AH) => vp_in r2 360 ∧ ((X5_askedCounts_c15 F b rc4 K n) x1 (x2 + (h1 (b + 3) r2.toNatClampNeg)) x3 (x4 + (nI 1)) h1))))) := rfl
set_option maxHeartbeats 4000000 in
theorem bw_X5_askedCounts_c15 {l : Launch} {d : Nat} {F : Nat} {b : Nat} {rc4 : Int32 → Int32 → Int32 → AH → Prop} {K : Int32 → AH → Prop} (hd : 1 ≤ d) (hb : isTbl b) (hr4 : ∀ (x1 : Int32) (x2 : Int32) (x3 : Int32) (h : AH), rc4 x1 x2 x3 h → BW RX5 cX5_askedCounts 5 (some .int) l (rmD d) tb0 3 [.ref b, .int x1, .int x2, .int x3, .null] [] 4 h (Qi K)) : ∀ (n : Nat) (x1 : Int32) (x2 : Int32) (x3 : Int32) (x4 : Int32) (h : AH), X5_askedCounts_c15 F b rc4 K n x1 x2 x3 x4 h → BW RX5 cX5_askedCounts 5 (some .int) l (rmD d) tb0 3 [.ref b, .int x1, .int x2, .int x3, .int x4] [] 15 h (Qi K) := by
  have hk1 : 1 ≤ d := by omega
  have hk_X5_cell : 0 ≤ d - 1 := by omega
  intro n
  induction n with
  | zero =>
    intro x1 x2 x3 x4 h hM
    exact hM.elim
  | succ n hr15 =>
    intro x1 x2 x3 x4 h hM
    rw [X5_askedCounts_c15_s] at hM
    refine B_iload dX5_askedCounts_15 rfl ?_
    refine B_gsN2 (by unfold nwF; simp) dX5_askedCounts_17 ?_
    refine B_tlen (t := 2) (v := (nI 3)) (by decide) rfl dX5_askedCounts_20 ?_
    refine B_icmp_ge dX5_askedCounts_21 hM (tgt := 49) rfl (fun hM => ?_) (fun hM => ?_)
    · refine B_iinc dX5_askedCounts_49 rfl k_ic_1 (Nat.le_of_ble_eq_true rfl) ?_
      refine B_goto (tgt := 4) dX5_askedCounts_52 rfl ?_
      exact B_wk (hr4 _ _ _ _ hM) (wk_1 (wk_1 (wk_1 (wk_1 (wk_0 wk_n)))))
    · refine B_iload_n dX5_askedCounts_24 rfl ?_
      refine B_aload_n dX5_askedCounts_25 rfl ?_
      refine B_getR (tb_0 hb) vc_5 (k := 3) (j := (b + 3)) rfl (by decide) inG5 ⟨rfl, rfl, rfl⟩ ww_fl_X5_22 dX5_askedCounts_26 ?_
      refine B_iload_n dX5_askedCounts_29 rfl ?_
      refine B_iload_n dX5_askedCounts_30 rfl ?_
      refine B_gsN2 (by unfold nwF; simp) dX5_askedCounts_31 ?_
      refine B_iload dX5_askedCounts_34 rfl ?_
      refine B_tald (t := 2) (by decide) hM dX5_askedCounts_36 (fun hM => ?_)
      refine B_cS3i (c_X5_cell (d := d - 1) hk_X5_cell  hM) csS_X5_116 hp0 (rm_f hk1) (rm_l hk1 (by decide)) (Nat.le_of_ble_eq_true rfl) dX5_askedCounts_37 (fun r2 h1 hM => ?_)
      refine B_iald (tb_3 hb) hM dX5_askedCounts_40 (fun hM => ?_)
      refine B_iadd dX5_askedCounts_41 ?_
      refine B_istore_n dX5_askedCounts_42 (Nat.le_of_ble_eq_true rfl) ?_
      refine B_iinc dX5_askedCounts_43 rfl k_ic_1 (Nat.le_of_ble_eq_true rfl) ?_
      refine B_goto (tgt := 15) dX5_askedCounts_46 rfl ?_
      exact B_wk (hr15 _ _ _ _ _ hM) (wk_1 (wk_1 (wk_1 (wk_1 (wk_1 wk_n)))))
def X5_askedCounts_c4 (F : Nat) (b : Nat) (K : Int32 → AH → Prop) (n : Nat) : Int32 → Int32 → Int32 → AH → Prop := Nat.rec (motive := fun _ => Int32 → Int32 → Int32 → AH → Prop) (fun _ _ _ _ => False) (fun _ rc4 x1 x2 x3 h => if (h b 0) ≤ x3 then (K x2 h) else (X5_askedCounts_c15 F b rc4 K F x1 x2 x3 (nI 0) h)) n
theorem X5_askedCounts_c4_s {F : Nat} {b : Nat} {K : Int32 → AH → Prop} {n : Nat} {x1 : Int32} {x2 : Int32} {x3 : Int32} {h : AH} : X5_askedCounts_c4 F b K (n + 1) x1 x2 x3 h = (if (h b 0) ≤ x3 then (K x2 h) else (X5_askedCounts_c15 F b (X5_askedCounts_c4 F b K n) K F x1 x2 x3 (nI 0) h)) := rfl
set_option maxHeartbeats 4000000 in
theorem bw_X5_askedCounts_c4 {l : Launch} {d : Nat} {F : Nat} {b : Nat} {K : Int32 → AH → Prop} (hd : 1 ≤ d) (hb : isTbl b) : ∀ (n : Nat) (x1 : Int32) (x2 : Int32) (x3 : Int32) (h : AH), X5_askedCounts_c4 F b K n x1 x2 x3 h → BW RX5 cX5_askedCounts 5 (some .int) l (rmD d) tb0 3 [.ref b, .int x1, .int x2, .int x3, .null] [] 4 h (Qi K) := by
  have hk1 : 1 ≤ d := by omega
  have hk_X5_cell : 0 ≤ d - 1 := by omega
  intro n
  induction n with
  | zero =>
    intro x1 x2 x3 h hM
    exact hM.elim
  | succ n hr4 =>
    intro x1 x2 x3 h hM
    rw [X5_askedCounts_c4_s] at hM
    refine B_iload_n dX5_askedCounts_4 rfl ?_
    refine B_aload_n dX5_askedCounts_5 rfl ?_
    refine B_getI (tb_0 hb) vc_5 (k := 0) rfl (by decide) inG5 ⟨rfl, rfl, rfl⟩ ww_fl_X5_9 dX5_askedCounts_6 ?_
    refine B_icmp_ge dX5_askedCounts_9 hM (tgt := 55) rfl (fun hM => ?_) (fun hM => ?_)
    · refine B_iload_n dX5_askedCounts_55 rfl ?_
      exact B_iret ⟨_, rfl, hM⟩ trivial dX5_askedCounts_56
    · refine B_iconst dX5_askedCounts_12 k_ic_0 ?_
      refine B_istore dX5_askedCounts_13 (Nat.le_of_ble_eq_true rfl) ?_
      exact B_wk (bw_X5_askedCounts_c15 hd hb hr4 _ _ _ _ _ _ hM) (wk_1 (wk_1 (wk_1 (wk_1 (wk_1 wk_n)))))
def P_X5_askedCounts (F : Nat) (b : Nat) (a1 : Int32) (h : AH) (K : Int32 → AH → Prop) : Prop := X5_askedCounts_c4 F b K F a1 (nI 0) (nI 0) h
set_option maxHeartbeats 4000000 in
theorem c_X5_askedCounts {l : Launch} {d : Nat} {F : Nat} {b : Nat} {a1 : Int32} {h : AH} {K : Int32 → AH → Prop} (hd : 1 ≤ d) (hb : isTbl b) (hM : P_X5_askedCounts F b a1 h K) : Ct l yX5_askedCounts cX5_askedCounts 5 (some .int) (rmD d) [.ref b, .int a1] h (Qi K) := by
  have hk1 : 1 ≤ d := by omega
  have hk_X5_cell : 0 ≤ d - 1 := by omega
  refine Ct_ofBW (by decide) rfl (Nat.le_of_ble_eq_true rfl) ⟨rfl, rfl⟩ ?_
  show BW RX5 cX5_askedCounts 5 (some .int) l (rmD d) tb0 3 [.ref b, .int a1, .null, .null, .null] [] 0 h (Qi K)
  unfold P_X5_askedCounts at hM
  refine B_iconst dX5_askedCounts_0 k_ic_0 ?_
  refine B_istore_n dX5_askedCounts_1 (Nat.le_of_ble_eq_true rfl) ?_
  refine B_iconst dX5_askedCounts_2 k_ic_0 ?_
  refine B_istore_n dX5_askedCounts_3 (Nat.le_of_ble_eq_true rfl) ?_
  exact B_wk (bw_X5_askedCounts_c4 hd hb  _ _ _ _ _ hM) (wk_1 (wk_1 (wk_1 (wk_1 (wk_0 wk_n)))))

def X5_leastOf_c50 (F : Nat) (b : Nat) (rc7 : Int32 → Int32 → Int32 → Int32 → AH → Prop) (K : Int32 → AH → Prop) (x1 : Int32) (x2 : Int32) (x3 : Int32) (x4 : Int32) (h : AH) : Prop := rc7 x1 x2 x3 (x4 + (nI 1)) h
set_option maxHeartbeats 4000000 in
theorem bw_X5_leastOf_c50 {l : Launch} {d : Nat} {F : Nat} {b : Nat} {rc7 : Int32 → Int32 → Int32 → Int32 → AH → Prop} {K : Int32 → AH → Prop} {x1 : Int32} {x2 : Int32} {x3 : Int32} {x4 : Int32} {h : AH} (hd : 2 ≤ d) (hb : isTbl b) (hr7 : ∀ (x1 : Int32) (x2 : Int32) (x3 : Int32) (x4 : Int32) (h : AH), rc7 x1 x2 x3 x4 h → BW RX5 cX5_leastOf 6 (some .int) l (rmD d) tb0 3 [.ref b, .int x1, .int x2, .int x3, .int x4, .null] [] 7 h (Qi K)) (hM : X5_leastOf_c50 F b rc7 K x1 x2 x3 x4 h) : BW RX5 cX5_leastOf 6 (some .int) l (rmD d) tb0 3 [.ref b, .int x1, .int x2, .int x3, .int x4, .null] [] 50 h (Qi K) := by
  have hk1 : 1 ≤ d := by omega
  have hk_X5_askedCounts : 1 ≤ d - 1 := by omega
  have hk_X7_hasBit : 0 ≤ d - 1 := by omega
  unfold X5_leastOf_c50 at hM
  refine B_iinc dX5_leastOf_50 rfl k_ic_1 (Nat.le_of_ble_eq_true rfl) ?_
  refine B_goto (tgt := 7) dX5_leastOf_53 rfl ?_
  exact B_wk (hr7 _ _ _ _ _ hM) (wk_1 (wk_1 (wk_1 (wk_1 (wk_1 (wk_0 wk_n))))))
def X5_leastOf_c44 (F : Nat) (b : Nat) (rc7 : Int32 → Int32 → Int32 → Int32 → AH → Prop) (K : Int32 → AH → Prop) (x1 : Int32) (x4 : Int32) (x5 : Int32) (h : AH) : Prop := X5_leastOf_c50 F b rc7 K x1 x4 x5 x4 h
set_option maxHeartbeats 4000000 in
theorem bw_X5_leastOf_c44 {l : Launch} {d : Nat} {F : Nat} {b : Nat} {rc7 : Int32 → Int32 → Int32 → Int32 → AH → Prop} {K : Int32 → AH → Prop} {x1 : Int32} {x4 : Int32} {x5 : Int32} {h : AH} (hd : 2 ≤ d) (hb : isTbl b) (hr7 : ∀ (x1 : Int32) (x2 : Int32) (x3 : Int32) (x4 : Int32) (h : AH), rc7 x1 x2 x3 x4 h → BW RX5 cX5_leastOf 6 (some .int) l (rmD d) tb0 3 [.ref b, .int x1, .int x2, .int x3, .int x4, .null] [] 7 h (Qi K)) (hM : X5_leastOf_c44 F b rc7 K x1 x4 x5 h) : BW RX5 cX5_leastOf 6 (some .int) l (rmD d) tb0 3 [.ref b, .int x1, .null, .null, .int x4, .int x5] [] 44 h (Qi K) := by
  have hk1 : 1 ≤ d := by omega
  have hk_X5_askedCounts : 1 ≤ d - 1 := by omega
  have hk_X7_hasBit : 0 ≤ d - 1 := by omega
  unfold X5_leastOf_c44 at hM
  refine B_iload dX5_leastOf_44 rfl ?_
  refine B_istore_n dX5_leastOf_46 (Nat.le_of_ble_eq_true rfl) ?_
  refine B_iload dX5_leastOf_47 rfl ?_
  refine B_istore_n dX5_leastOf_49 (Nat.le_of_ble_eq_true rfl) ?_
  exact B_wk (bw_X5_leastOf_c50 hd hb hr7 hM) (wk_1 (wk_1 (wk_1 (wk_1 (wk_1 (wk_0 wk_n))))))
def X5_leastOf_c7 (F : Nat) (b : Nat) (K : Int32 → AH → Prop) (n : Nat) : Int32 → Int32 → Int32 → Int32 → AH → Prop := Nat.rec (motive := fun _ => Int32 → Int32 → Int32 → Int32 → AH → Prop) (fun _ _ _ _ _ => False) (fun _ rc7 x1 x2 x3 x4 h => if (nI 6) ≤ x4 then (K x2 h) else (P_X7_hasBit F x1 x4 h (fun (r2 : Int32) (h1 : AH) => if ¬ r2 = (nI 0) then (P_X5_askedCounts F b x4 h1 (fun (r4 : Int32) (h3 : AH) => if x2 < (nI 0) then (X5_leastOf_c44 F b rc7 K x1 x4 r4 h3) else (if x3 < r4 then (X5_leastOf_c50 F b rc7 K x1 x2 x3 x4 h3) else (X5_leastOf_c44 F b rc7 K x1 x4 r4 h3)))) else (X5_leastOf_c50 F b rc7 K x1 x2 x3 x4 h1)))) n
theorem X5_leastOf_c7_s {F : Nat} {b : Nat} {K : Int32 → AH → Prop} {n : Nat} {x1 : Int32} {x2 : Int32} {x3 : Int32} {x4 : Int32} {h : AH} : X5_leastOf_c7 F b K (n + 1) x1 x2 x3 x4 h = (if (nI 6) ≤ x4 then (K x2 h) else (P_X7_hasBit F x1 x4 h (fun (r2 : Int32) (h1 : AH) => if ¬ r2 = (nI 0) then (P_X5_askedCounts F b x4 h1 (fun (r4 : Int32) (h3 : AH) => if x2 < (nI 0) then (X5_leastOf_c44 F b (X5_leastOf_c7 F b K n) K x1 x4 r4 h3) else (if x3 < r4 then (X5_leastOf_c50 F b (X5_leastOf_c7 F b K n) K x1 x2 x3 x4 h3) else (X5_leastOf_c44 F b (X5_leastOf_c7 F b K n) K x1 x4 r4 h3)))) else (X5_leastOf_c50 F b (X5_leastOf_c7 F b K n) K x1 x2 x3 x4 h1)))) := rfl
set_option maxHeartbeats 4000000 in
theorem bw_X5_leastOf_c7 {l : Launch} {d : Nat} {F : Nat} {b : Nat} {K : Int32 → AH → Prop} (hd : 2 ≤ d) (hb : isTbl b) : ∀ (n : Nat) (x1 : Int32) (x2 : Int32) (x3 : Int32) (x4 : Int32) (h : AH), X5_leastOf_c7 F b K n x1 x2 x3 x4 h → BW RX5 cX5_leastOf 6 (some .int) l (rmD d) tb0 3 [.ref b, .int x1, .int x2, .int x3, .int x4, .null] [] 7 h (Qi K) := by
  have hk1 : 1 ≤ d := by omega
  have hk_X5_askedCounts : 1 ≤ d - 1 := by omega
  have hk_X7_hasBit : 0 ≤ d - 1 := by omega
  intro n
  induction n with
  | zero =>
    intro x1 x2 x3 x4 h hM
    exact hM.elim
  | succ n hr7 =>
    intro x1 x2 x3 x4 h hM
    rw [X5_leastOf_c7_s] at hM
    refine B_iload dX5_leastOf_7 rfl ?_
    refine B_bipush dX5_leastOf_9 k_bi_6 ?_
    refine B_icmp_ge dX5_leastOf_11 hM (tgt := 56) rfl (fun hM => ?_) (fun hM => ?_)
    · refine B_iload_n dX5_leastOf_56 rfl ?_
      exact B_iret ⟨_, rfl, hM⟩ trivial dX5_leastOf_57
    · refine B_iload_n dX5_leastOf_14 rfl ?_
      refine B_iload dX5_leastOf_15 rfl ?_
      refine B_cN2i (c_X7_hasBit (d := d - 1) hk_X7_hasBit  hM) csN_X5_137 hp0 (rm_f hk1) (rm_l hk1 (by decide)) (Nat.le_of_ble_eq_true rfl) dX5_leastOf_17 (fun r2 h1 hM => ?_)
      refine B_if_ne dX5_leastOf_20 hM (tgt := 26) rfl (fun hM => ?_) (fun hM => ?_)
      · refine B_aload_n dX5_leastOf_26 rfl ?_
        refine B_iload dX5_leastOf_27 rfl ?_
        refine B_cV1i (c_X5_askedCounts (d := d - 1) hk_X5_askedCounts hb hM) csV_X5_140 (tb_0 hb) vc_5 rfl hp0 (rm_f hk1) (rm_l hk1 (by decide)) (Nat.le_of_ble_eq_true rfl) dX5_leastOf_29 (fun r4 h3 hM => ?_)
        refine B_istore dX5_leastOf_32 (Nat.le_of_ble_eq_true rfl) ?_
        refine B_iload_n dX5_leastOf_34 rfl ?_
        refine B_if_lt dX5_leastOf_35 hM (tgt := 44) rfl (fun hM => ?_) (fun hM => ?_)
        · exact B_wk (bw_X5_leastOf_c44 hd hb hr7 hM) (wk_1 (wk_1 (wk_0 (wk_0 (wk_1 (wk_1 wk_n))))))
        · refine B_iload dX5_leastOf_38 rfl ?_
          refine B_iload_n dX5_leastOf_40 rfl ?_
          refine B_icmp_gt dX5_leastOf_41 hM (tgt := 50) rfl (fun hM => ?_) (fun hM => ?_)
          · exact B_wk (bw_X5_leastOf_c50 hd hb hr7 hM) (wk_1 (wk_1 (wk_1 (wk_1 (wk_1 (wk_0 wk_n))))))
          · exact B_wk (bw_X5_leastOf_c44 hd hb hr7 hM) (wk_1 (wk_1 (wk_0 (wk_0 (wk_1 (wk_1 wk_n))))))
      · refine B_goto (tgt := 50) dX5_leastOf_23 rfl ?_
        exact B_wk (bw_X5_leastOf_c50 hd hb hr7 hM) (wk_1 (wk_1 (wk_1 (wk_1 (wk_1 (wk_0 wk_n))))))
def P_X5_leastOf (F : Nat) (b : Nat) (a1 : Int32) (h : AH) (K : Int32 → AH → Prop) : Prop := X5_leastOf_c7 F b K F a1 (-1 : Int32) (nI 0) (nI 0) h
set_option maxHeartbeats 4000000 in
theorem c_X5_leastOf {l : Launch} {d : Nat} {F : Nat} {b : Nat} {a1 : Int32} {h : AH} {K : Int32 → AH → Prop} (hd : 2 ≤ d) (hb : isTbl b) (hM : P_X5_leastOf F b a1 h K) : Ct l yX5_leastOf cX5_leastOf 6 (some .int) (rmD d) [.ref b, .int a1] h (Qi K) := by
  have hk1 : 1 ≤ d := by omega
  have hk_X5_askedCounts : 1 ≤ d - 1 := by omega
  have hk_X7_hasBit : 0 ≤ d - 1 := by omega
  refine Ct_ofBW (by decide) rfl (Nat.le_of_ble_eq_true rfl) ⟨rfl, rfl⟩ ?_
  show BW RX5 cX5_leastOf 6 (some .int) l (rmD d) tb0 3 [.ref b, .int a1, .null, .null, .null, .null] [] 0 h (Qi K)
  unfold P_X5_leastOf at hM
  refine B_iconst dX5_leastOf_0 k_ic_m1 ?_
  refine B_istore_n dX5_leastOf_1 (Nat.le_of_ble_eq_true rfl) ?_
  refine B_iconst dX5_leastOf_2 k_ic_0 ?_
  refine B_istore_n dX5_leastOf_3 (Nat.le_of_ble_eq_true rfl) ?_
  refine B_iconst dX5_leastOf_4 k_ic_0 ?_
  refine B_istore dX5_leastOf_5 (Nat.le_of_ble_eq_true rfl) ?_
  exact B_wk (bw_X5_leastOf_c7 hd hb  _ _ _ _ _ _ hM) (wk_1 (wk_1 (wk_1 (wk_1 (wk_1 (wk_0 wk_n))))))

def P_X5_joinLine (F : Nat) (b : Nat) (a1 : Int32) (a2 : Int32) (a3 : Int32) (h : AH) (K : AH → Prop) : Prop := if (h b 5) < (nI 6) then (vp_in (h b 5) 6 ∧ ((fun (h1 : AH) => vp_in a1 6 ∧ ((fun (h2 : AH) => vp_in a1 6 ∧ ((fun (h3 : AH) => (fun (h4 : AH) => K h4) (up h3 b 5 ((h3 b 5) + (nI 1)))) (up h2 (b + 7) a1.toNatClampNeg a3))) (up h1 (b + 6) a1.toNatClampNeg a2))) (up h (b + 5) (h b 5).toNatClampNeg a1))) else (K h)
set_option maxHeartbeats 4000000 in
theorem c_X5_joinLine {l : Launch} {d : Nat} {F : Nat} {b : Nat} {a1 : Int32} {a2 : Int32} {a3 : Int32} {h : AH} {K : AH → Prop} (hd : 0 ≤ d) (hb : isTbl b) (hM : P_X5_joinLine F b a1 a2 a3 h K) : Ct l yX5_joinLine cX5_joinLine 4 none (rmD d) [.ref b, .int a1, .int a2, .int a3] h (Qv K) := by
  refine Ct_ofBW (by decide) rfl (Nat.le_of_ble_eq_true rfl) ⟨rfl, rfl⟩ ?_
  show BW RX5 cX5_joinLine 4 none l (rmD d) tb0 3 [.ref b, .int a1, .int a2, .int a3] [] 0 h (Qv K)
  unfold P_X5_joinLine at hM
  refine B_aload_n dX5_joinLine_0 rfl ?_
  refine B_getI (tb_0 hb) vc_5 (k := 5) rfl (by decide) inG5 ⟨rfl, rfl, rfl⟩ ww_fl_X5_28 dX5_joinLine_1 ?_
  refine B_bipush dX5_joinLine_4 k_bi_6 ?_
  refine B_icmp_lt dX5_joinLine_6 hM (tgt := 10) rfl (fun hM => ?_) (fun hM => ?_)
  · refine B_aload_n dX5_joinLine_10 rfl ?_
    refine B_getR (tb_0 hb) vc_5 (k := 6) (j := (b + 5)) rfl (by decide) inG5 ⟨rfl, rfl, rfl⟩ ww_fl_X5_31 dX5_joinLine_11 ?_
    refine B_aload_n dX5_joinLine_14 rfl ?_
    refine B_getI (tb_0 hb) vc_5 (k := 5) rfl (by decide) inG5 ⟨rfl, rfl, rfl⟩ ww_fl_X5_28 dX5_joinLine_15 ?_
    refine B_iload_n dX5_joinLine_18 rfl ?_
    refine B_iast (tb_5 hb) hM dX5_joinLine_19 (fun hM => ?_)
    refine B_aload_n dX5_joinLine_20 rfl ?_
    refine B_getR (tb_0 hb) vc_5 (k := 7) (j := (b + 6)) rfl (by decide) inG5 ⟨rfl, rfl, rfl⟩ ww_fl_X5_34 dX5_joinLine_21 ?_
    refine B_iload_n dX5_joinLine_24 rfl ?_
    refine B_iload_n dX5_joinLine_25 rfl ?_
    refine B_iast (tb_6 hb) hM dX5_joinLine_26 (fun hM => ?_)
    refine B_aload_n dX5_joinLine_27 rfl ?_
    refine B_getR (tb_0 hb) vc_5 (k := 8) (j := (b + 7)) rfl (by decide) inG5 ⟨rfl, rfl, rfl⟩ ww_fl_X5_37 dX5_joinLine_28 ?_
    refine B_iload_n dX5_joinLine_31 rfl ?_
    refine B_iload_n dX5_joinLine_32 rfl ?_
    refine B_iast (tb_7 hb) hM dX5_joinLine_33 (fun hM => ?_)
    refine B_aload_n dX5_joinLine_34 rfl ?_
    refine B_dupR dX5_joinLine_35 ?_
    refine B_getI (tb_0 hb) vc_5 (k := 5) rfl (by decide) inG5 ⟨rfl, rfl, rfl⟩ ww_fl_X5_28 dX5_joinLine_36 ?_
    refine B_iconst dX5_joinLine_39 k_ic_1 ?_
    refine B_iadd dX5_joinLine_40 ?_
    refine B_putI (fits_I _) (tb_0 hb) vc_5 (k := 5) rfl (by decide) inG5 ⟨rfl, rfl, rfl⟩ tyX5 tyX5_ok nmX5 rfl rfl ww_fl_X5_28 dX5_joinLine_41 ?_
    exact B_vret ⟨rfl, hM⟩ trivial dX5_joinLine_44
  · exact B_vret ⟨rfl, hM⟩ trivial dX5_joinLine_9

def X5_raiseWaits_c41 (F : Nat) (b : Nat) (rc2 : Int32 → Int32 → AH → Prop) (K : Int32 → AH → Prop) (x1 : Int32) (x2 : Int32) (h : AH) : Prop := rc2 x1 (x2 + (nI 1)) h
set_option maxHeartbeats 4000000 in
theorem bw_X5_raiseWaits_c41 {l : Launch} {d : Nat} {F : Nat} {b : Nat} {rc2 : Int32 → Int32 → AH → Prop} {K : Int32 → AH → Prop} {x1 : Int32} {x2 : Int32} {h : AH} (hd : 1 ≤ d) (hb : isTbl b) (hr2 : ∀ (x1 : Int32) (x2 : Int32) (h : AH), rc2 x1 x2 h → BW RX5 cX5_raiseWaits 3 (some .boolean) l (rmD d) tb0 3 [.ref b, .int x1, .int x2] [] 2 h (Qi K)) (hM : X5_raiseWaits_c41 F b rc2 K x1 x2 h) : BW RX5 cX5_raiseWaits 3 (some .boolean) l (rmD d) tb0 3 [.ref b, .int x1, .int x2] [] 41 h (Qi K) := by
  have hk1 : 1 ≤ d := by omega
  have hk_X5_isRaise : 0 ≤ d - 1 := by omega
  unfold X5_raiseWaits_c41 at hM
  refine B_iinc dX5_raiseWaits_41 rfl k_ic_1 (Nat.le_of_ble_eq_true rfl) ?_
  refine B_goto (tgt := 2) dX5_raiseWaits_44 rfl ?_
  exact B_wk (hr2 _ _ _ hM) (wk_1 (wk_1 (wk_1 wk_n)))
def X5_raiseWaits_c2 (F : Nat) (b : Nat) (K : Int32 → AH → Prop) (n : Nat) : Int32 → Int32 → AH → Prop := Nat.rec (motive := fun _ => Int32 → Int32 → AH → Prop) (fun _ _ _ => False) (fun _ rc2 x1 x2 h => if (h b 5) ≤ x2 then (K (nI 0) h) else (vp_in x2 6 ∧ (vp_in (h (b + 5) x2.toNatClampNeg) 6 ∧ (if ¬ (h (b + 6) (h (b + 5) x2.toNatClampNeg).toNatClampNeg) = x1 then (X5_raiseWaits_c41 F b rc2 K x1 x2 h) else (vp_in x2 6 ∧ (P_X5_isRaise F b (h (b + 5) x2.toNatClampNeg) x1 h (fun (r2 : Int32) (h1 : AH) => if r2 = (nI 0) then (X5_raiseWaits_c41 F b rc2 K x1 x2 h1) else (K (nI 1) h1)))))))) n
theorem X5_raiseWaits_c2_s {F : Nat} {b : Nat} {K : Int32 → AH → Prop} {n : Nat} {x1 : Int32} {x2 : Int32} {h : AH} : X5_raiseWaits_c2 F b K (n + 1) x1 x2 h = (if (h b 5) ≤ x2 then (K (nI 0) h) else (vp_in x2 6 ∧ (vp_in (h (b + 5) x2.toNatClampNeg) 6 ∧ (if ¬ (h (b + 6) (h (b + 5) x2.toNatClampNeg).toNatClampNeg) = x1 then (X5_raiseWaits_c41 F b (X5_raiseWaits_c2 F b K n) K x1 x2 h) else (vp_in x2 6 ∧ (P_X5_isRaise F b (h (b + 5) x2.toNatClampNeg) x1 h (fun (r2 : Int32) (h1 : AH) => if r2 = (nI 0) then (X5_raiseWaits_c41 F b (X5_raiseWaits_c2 F b K n) K x1 x2 h1) else (K (nI 1) h1)))))))) := rfl
set_option maxHeartbeats 4000000 in
theorem bw_X5_raiseWaits_c2 {l : Launch} {d : Nat} {F : Nat} {b : Nat} {K : Int32 → AH → Prop} (hd : 1 ≤ d) (hb : isTbl b) : ∀ (n : Nat) (x1 : Int32) (x2 : Int32) (h : AH), X5_raiseWaits_c2 F b K n x1 x2 h → BW RX5 cX5_raiseWaits 3 (some .boolean) l (rmD d) tb0 3 [.ref b, .int x1, .int x2] [] 2 h (Qi K) := by
  have hk1 : 1 ≤ d := by omega
  have hk_X5_isRaise : 0 ≤ d - 1 := by omega
  intro n
  induction n with
  | zero =>
    intro x1 x2 h hM
    exact hM.elim
  | succ n hr2 =>
    intro x1 x2 h hM
    rw [X5_raiseWaits_c2_s] at hM
    refine B_iload_n dX5_raiseWaits_2 rfl ?_
    refine B_aload_n dX5_raiseWaits_3 rfl ?_
    refine B_getI (tb_0 hb) vc_5 (k := 5) rfl (by decide) inG5 ⟨rfl, rfl, rfl⟩ ww_fl_X5_28 dX5_raiseWaits_4 ?_
    refine B_icmp_ge dX5_raiseWaits_7 hM (tgt := 47) rfl (fun hM => ?_) (fun hM => ?_)
    · refine B_iconst dX5_raiseWaits_47 k_ic_0 ?_
      exact B_iret ⟨_, rfl, hM⟩ zB_0 dX5_raiseWaits_48
    · refine B_aload_n dX5_raiseWaits_10 rfl ?_
      refine B_getR (tb_0 hb) vc_5 (k := 7) (j := (b + 6)) rfl (by decide) inG5 ⟨rfl, rfl, rfl⟩ ww_fl_X5_34 dX5_raiseWaits_11 ?_
      refine B_aload_n dX5_raiseWaits_14 rfl ?_
      refine B_getR (tb_0 hb) vc_5 (k := 6) (j := (b + 5)) rfl (by decide) inG5 ⟨rfl, rfl, rfl⟩ ww_fl_X5_31 dX5_raiseWaits_15 ?_
      refine B_iload_n dX5_raiseWaits_18 rfl ?_
      refine B_iald (tb_5 hb) hM dX5_raiseWaits_19 (fun hM => ?_)
      refine B_iald (tb_6 hb) hM dX5_raiseWaits_20 (fun hM => ?_)
      refine B_iload_n dX5_raiseWaits_21 rfl ?_
      refine B_icmp_ne dX5_raiseWaits_22 hM (tgt := 41) rfl (fun hM => ?_) (fun hM => ?_)
      · exact B_wk (bw_X5_raiseWaits_c41 hd hb hr2 hM) (wk_1 (wk_1 (wk_1 wk_n)))
      · refine B_aload_n dX5_raiseWaits_25 rfl ?_
        refine B_aload_n dX5_raiseWaits_26 rfl ?_
        refine B_getR (tb_0 hb) vc_5 (k := 6) (j := (b + 5)) rfl (by decide) inG5 ⟨rfl, rfl, rfl⟩ ww_fl_X5_31 dX5_raiseWaits_27 ?_
        refine B_iload_n dX5_raiseWaits_30 rfl ?_
        refine B_iald (tb_5 hb) hM dX5_raiseWaits_31 (fun hM => ?_)
        refine B_iload_n dX5_raiseWaits_32 rfl ?_
        refine B_cV2i (c_X5_isRaise (d := d - 1) hk_X5_isRaise hb hM) csV_X5_86 (tb_0 hb) vc_5 rfl hp0 (rm_f hk1) (rm_l hk1 (by decide)) (Nat.le_of_ble_eq_true rfl) dX5_raiseWaits_33 (fun r2 h1 hM => ?_)
        refine B_if_eq dX5_raiseWaits_36 hM (tgt := 41) rfl (fun hM => ?_) (fun hM => ?_)
        · exact B_wk (bw_X5_raiseWaits_c41 hd hb hr2 hM) (wk_1 (wk_1 (wk_1 wk_n)))
        · refine B_iconst dX5_raiseWaits_39 k_ic_1 ?_
          exact B_iret ⟨_, rfl, hM⟩ zB_1 dX5_raiseWaits_40
def P_X5_raiseWaits (F : Nat) (b : Nat) (a1 : Int32) (h : AH) (K : Int32 → AH → Prop) : Prop := X5_raiseWaits_c2 F b K F a1 (nI 0) h
set_option maxHeartbeats 4000000 in
theorem c_X5_raiseWaits {l : Launch} {d : Nat} {F : Nat} {b : Nat} {a1 : Int32} {h : AH} {K : Int32 → AH → Prop} (hd : 1 ≤ d) (hb : isTbl b) (hM : P_X5_raiseWaits F b a1 h K) : Ct l yX5_raiseWaits cX5_raiseWaits 3 (some .boolean) (rmD d) [.ref b, .int a1] h (Qi K) := by
  have hk1 : 1 ≤ d := by omega
  have hk_X5_isRaise : 0 ≤ d - 1 := by omega
  refine Ct_ofBW (by decide) rfl (Nat.le_of_ble_eq_true rfl) ⟨rfl, rfl⟩ ?_
  show BW RX5 cX5_raiseWaits 3 (some .boolean) l (rmD d) tb0 3 [.ref b, .int a1, .null] [] 0 h (Qi K)
  unfold P_X5_raiseWaits at hM
  refine B_iconst dX5_raiseWaits_0 k_ic_0 ?_
  refine B_istore_n dX5_raiseWaits_1 (Nat.le_of_ble_eq_true rfl) ?_
  exact B_wk (bw_X5_raiseWaits_c2 hd hb  _ _ _ _ hM) (wk_1 (wk_1 (wk_1 wk_n)))

def P_X5_isThing (F : Nat) (b : Nat) (a1 : Int32) (h : AH) (K : Int32 → AH → Prop) : Prop := if a1 < (nI 0) then (K (nI 0) h) else (if (h b 0) ≤ a1 then (K (nI 0) h) else (K (nI 1) h))
set_option maxHeartbeats 4000000 in
theorem c_X5_isThing {l : Launch} {d : Nat} {F : Nat} {b : Nat} {a1 : Int32} {h : AH} {K : Int32 → AH → Prop} (hd : 0 ≤ d) (hb : isTbl b) (hM : P_X5_isThing F b a1 h K) : Ct l yX5_isThing cX5_isThing 2 (some .boolean) (rmD d) [.ref b, .int a1] h (Qi K) := by
  refine Ct_ofBW (by decide) rfl (Nat.le_of_ble_eq_true rfl) ⟨rfl, rfl⟩ ?_
  show BW RX5 cX5_isThing 2 (some .boolean) l (rmD d) tb0 3 [.ref b, .int a1] [] 0 h (Qi K)
  unfold P_X5_isThing at hM
  refine B_iload_n dX5_isThing_0 rfl ?_
  refine B_if_lt dX5_isThing_1 hM (tgt := 16) rfl (fun hM => ?_) (fun hM => ?_)
  · refine B_iconst dX5_isThing_16 k_ic_0 ?_
    exact B_iret ⟨_, rfl, hM⟩ zB_0 dX5_isThing_17
  · refine B_iload_n dX5_isThing_4 rfl ?_
    refine B_aload_n dX5_isThing_5 rfl ?_
    refine B_getI (tb_0 hb) vc_5 (k := 0) rfl (by decide) inG5 ⟨rfl, rfl, rfl⟩ ww_fl_X5_9 dX5_isThing_6 ?_
    refine B_icmp_ge dX5_isThing_9 hM (tgt := 16) rfl (fun hM => ?_) (fun hM => ?_)
    · refine B_iconst dX5_isThing_16 k_ic_0 ?_
      exact B_iret ⟨_, rfl, hM⟩ zB_0 dX5_isThing_17
    · refine B_iconst dX5_isThing_12 k_ic_1 ?_
      refine B_goto (tgt := 17) dX5_isThing_13 rfl ?_
      exact B_iret ⟨_, rfl, hM⟩ zB_1 dX5_isThing_17

def P_X7_isOwner (F : Nat) (a1 : Int32) (h : AH) (K : Int32 → AH → Prop) : Prop := if a1 < (nI 0) then (K (nI 0) h) else (if (nI 6) ≤ a1 then (K (nI 0) h) else (K (nI 1) h))
set_option maxHeartbeats 4000000 in
theorem c_X7_isOwner {l : Launch} {d : Nat} {F : Nat} {a1 : Int32} {h : AH} {K : Int32 → AH → Prop} (hd : 0 ≤ d) (hM : P_X7_isOwner F a1 h K) : Ct l yX7_isOwner cX7_isOwner 1 (some .boolean) (rmD d) [.int a1] h (Qi K) := by
  refine Ct_ofBW (by decide) rfl (Nat.le_of_ble_eq_true rfl) ⟨rfl, rfl⟩ ?_
  show BW RX7 cX7_isOwner 1 (some .boolean) l (rmD d) tb0 3 [.int a1] [] 0 h (Qi K)
  unfold P_X7_isOwner at hM
  refine B_iload_n dX7_isOwner_0 rfl ?_
  refine B_if_lt dX7_isOwner_1 hM (tgt := 14) rfl (fun hM => ?_) (fun hM => ?_)
  · refine B_iconst dX7_isOwner_14 k_ic_0 ?_
    exact B_iret ⟨_, rfl, hM⟩ zB_0 dX7_isOwner_15
  · refine B_iload_n dX7_isOwner_4 rfl ?_
    refine B_bipush dX7_isOwner_5 k_bi_6 ?_
    refine B_icmp_ge dX7_isOwner_7 hM (tgt := 14) rfl (fun hM => ?_) (fun hM => ?_)
    · refine B_iconst dX7_isOwner_14 k_ic_0 ?_
      exact B_iret ⟨_, rfl, hM⟩ zB_0 dX7_isOwner_15
    · refine B_iconst dX7_isOwner_10 k_ic_1 ?_
      refine B_goto (tgt := 15) dX7_isOwner_11 rfl ?_
      exact B_iret ⟨_, rfl, hM⟩ zB_1 dX7_isOwner_15

def P_X5_isAsk (F : Nat) (b : Nat) (a1 : Int32) (a2 : Int32) (a3 : Int32) (h : AH) (K : Int32 → AH → Prop) : Prop := P_X7_isOwner F a1 h (fun (r2 : Int32) (h1 : AH) => if r2 = (nI 0) then (K (nI 0) h1) else (P_X5_isThing F b a2 h1 (fun (r4 : Int32) (h3 : AH) => if r4 = (nI 0) then (K (nI 0) h3) else (if a3 = (nI 2) then (K (nI 1) h3) else (if a3 = (nI 4) then (K (nI 1) h3) else (if ¬ a3 = (nI 5) then (K (nI 0) h3) else (K (nI 1) h3)))))))
set_option maxHeartbeats 4000000 in
theorem c_X5_isAsk {l : Launch} {d : Nat} {F : Nat} {b : Nat} {a1 : Int32} {a2 : Int32} {a3 : Int32} {h : AH} {K : Int32 → AH → Prop} (hd : 1 ≤ d) (hb : isTbl b) (hM : P_X5_isAsk F b a1 a2 a3 h K) : Ct l yX5_isAsk cX5_isAsk 4 (some .boolean) (rmD d) [.ref b, .int a1, .int a2, .int a3] h (Qi K) := by
  have hk1 : 1 ≤ d := by omega
  have hk_X5_isThing : 0 ≤ d - 1 := by omega
  have hk_X7_isOwner : 0 ≤ d - 1 := by omega
  refine Ct_ofBW (by decide) rfl (Nat.le_of_ble_eq_true rfl) ⟨rfl, rfl⟩ ?_
  show BW RX5 cX5_isAsk 4 (some .boolean) l (rmD d) tb0 3 [.ref b, .int a1, .int a2, .int a3] [] 0 h (Qi K)
  unfold P_X5_isAsk at hM
  refine B_iload_n dX5_isAsk_0 rfl ?_
  refine B_cN1i (c_X7_isOwner (d := d - 1) hk_X7_isOwner  hM) csN_X5_64 hp0 (rm_f hk1) (rm_l hk1 (by decide)) (Nat.le_of_ble_eq_true rfl) dX5_isAsk_1 (fun r2 h1 hM => ?_)
  refine B_if_eq dX5_isAsk_4 hM (tgt := 34) rfl (fun hM => ?_) (fun hM => ?_)
  · refine B_iconst dX5_isAsk_34 k_ic_0 ?_
    exact B_iret ⟨_, rfl, hM⟩ zB_0 dX5_isAsk_35
  · refine B_aload_n dX5_isAsk_7 rfl ?_
    refine B_iload_n dX5_isAsk_8 rfl ?_
    refine B_cV1i (c_X5_isThing (d := d - 1) hk_X5_isThing hb hM) csV_X5_68 (tb_0 hb) vc_5 rfl hp0 (rm_f hk1) (rm_l hk1 (by decide)) (Nat.le_of_ble_eq_true rfl) dX5_isAsk_9 (fun r4 h3 hM => ?_)
    refine B_if_eq dX5_isAsk_12 hM (tgt := 34) rfl (fun hM => ?_) (fun hM => ?_)
    · refine B_iconst dX5_isAsk_34 k_ic_0 ?_
      exact B_iret ⟨_, rfl, hM⟩ zB_0 dX5_isAsk_35
    · refine B_iload_n dX5_isAsk_15 rfl ?_
      refine B_iconst dX5_isAsk_16 k_ic_2 ?_
      refine B_icmp_eq dX5_isAsk_17 hM (tgt := 30) rfl (fun hM => ?_) (fun hM => ?_)
      · refine B_iconst dX5_isAsk_30 k_ic_1 ?_
        refine B_goto (tgt := 35) dX5_isAsk_31 rfl ?_
        exact B_iret ⟨_, rfl, hM⟩ zB_1 dX5_isAsk_35
      · refine B_iload_n dX5_isAsk_20 rfl ?_
        refine B_iconst dX5_isAsk_21 k_ic_4 ?_
        refine B_icmp_eq dX5_isAsk_22 hM (tgt := 30) rfl (fun hM => ?_) (fun hM => ?_)
        · refine B_iconst dX5_isAsk_30 k_ic_1 ?_
          refine B_goto (tgt := 35) dX5_isAsk_31 rfl ?_
          exact B_iret ⟨_, rfl, hM⟩ zB_1 dX5_isAsk_35
        · refine B_iload_n dX5_isAsk_25 rfl ?_
          refine B_iconst dX5_isAsk_26 k_ic_5 ?_
          refine B_icmp_ne dX5_isAsk_27 hM (tgt := 34) rfl (fun hM => ?_) (fun hM => ?_)
          · refine B_iconst dX5_isAsk_34 k_ic_0 ?_
            exact B_iret ⟨_, rfl, hM⟩ zB_0 dX5_isAsk_35
          · refine B_iconst dX5_isAsk_30 k_ic_1 ?_
            refine B_goto (tgt := 35) dX5_isAsk_31 rfl ?_
            exact B_iret ⟨_, rfl, hM⟩ zB_1 dX5_isAsk_35

def X5_request_c62 (F : Nat) (b : Nat) (K : Int32 → AH → Prop) (x1 : Int32) (x2 : Int32) (x3 : Int32) (h : AH) : Prop := P_X5_joinLine F b x1 x2 x3 h (fun (h1 : AH) => K (nI 0) h1)
set_option maxHeartbeats 4000000 in
theorem bw_X5_request_c62 {l : Launch} {d : Nat} {F : Nat} {b : Nat} {K : Int32 → AH → Prop} {x1 : Int32} {x2 : Int32} {x3 : Int32} {h : AH} (hd : 3 ≤ d) (hb : isTbl b) (hM : X5_request_c62 F b K x1 x2 x3 h) : BW RX5 cX5_request 4 (some .int) l (rmD d) tb0 3 [.ref b, .int x1, .int x2, .int x3] [] 62 h (Qi K) := by
  have hk1 : 1 ≤ d := by omega
  have hk_X5_grant : 2 ≤ d - 1 := by omega
  have hk_X5_hindrances : 1 ≤ d - 1 := by omega
  have hk_X5_isAsk : 1 ≤ d - 1 := by omega
  have hk_X5_isRaise : 0 ≤ d - 1 := by omega
  have hk_X5_isWaiting : 0 ≤ d - 1 := by omega
  have hk_X5_joinLine : 0 ≤ d - 1 := by omega
  have hk_X5_raiseWaits : 1 ≤ d - 1 := by omega
  unfold X5_request_c62 at hM
  refine B_aload_n dX5_request_62 rfl ?_
  refine B_iload_n dX5_request_63 rfl ?_
  refine B_iload_n dX5_request_64 rfl ?_
  refine B_iload_n dX5_request_65 rfl ?_
  refine B_cV3v (c_X5_joinLine (d := d - 1) hk_X5_joinLine hb hM) csV_X5_113 (tb_0 hb) vc_5 rfl hp0 (rm_f hk1) (rm_l hk1 (by decide)) (Nat.le_of_ble_eq_true rfl) dX5_request_66 (fun h1 hM => ?_)
  refine B_iconst dX5_request_69 k_ic_0 ?_
  exact B_iret ⟨_, rfl, hM⟩ trivial dX5_request_70
def P_X5_request (F : Nat) (b : Nat) (a1 : Int32) (a2 : Int32) (a3 : Int32) (h : AH) (K : Int32 → AH → Prop) : Prop := P_X5_isAsk F b a1 a2 a3 h (fun (r2 : Int32) (h1 : AH) => if ¬ r2 = (nI 0) then (P_X5_isWaiting F b a1 h1 (fun (r4 : Int32) (h3 : AH) => if r4 = (nI 0) then (P_X5_hindrances F b a1 a2 a3 h3 (fun (r6 : Int32) (h5 : AH) => if ¬ r6 = (nI 0) then (P_X5_isRaise F b a1 a2 h5 (fun (r8 : Int32) (h7 : AH) => if r8 = (nI 0) then (X5_request_c62 F b K a1 a2 a3 h7) else (P_X5_raiseWaits F b a2 h7 (fun (r10 : Int32) (h9 : AH) => if r10 = (nI 0) then (X5_request_c62 F b K a1 a2 a3 h9) else (K (-2 : Int32) h9))))) else (P_X5_grant F b a1 a2 a3 h5 (fun (h11 : AH) => K (nI 1) h11)))) else (K (-5 : Int32) h3))) else (K (-1 : Int32) h1))
set_option maxHeartbeats 4000000 in
theorem c_X5_request {l : Launch} {d : Nat} {F : Nat} {b : Nat} {a1 : Int32} {a2 : Int32} {a3 : Int32} {h : AH} {K : Int32 → AH → Prop} (hd : 3 ≤ d) (hb : isTbl b) (hM : P_X5_request F b a1 a2 a3 h K) : Ct l yX5_request cX5_request 4 (some .int) (rmD d) [.ref b, .int a1, .int a2, .int a3] h (Qi K) := by
  have hk1 : 1 ≤ d := by omega
  have hk_X5_grant : 2 ≤ d - 1 := by omega
  have hk_X5_hindrances : 1 ≤ d - 1 := by omega
  have hk_X5_isAsk : 1 ≤ d - 1 := by omega
  have hk_X5_isRaise : 0 ≤ d - 1 := by omega
  have hk_X5_isWaiting : 0 ≤ d - 1 := by omega
  have hk_X5_joinLine : 0 ≤ d - 1 := by omega
  have hk_X5_raiseWaits : 1 ≤ d - 1 := by omega
  refine Ct_ofBW (by decide) rfl (Nat.le_of_ble_eq_true rfl) ⟨rfl, rfl⟩ ?_
  show BW RX5 cX5_request 4 (some .int) l (rmD d) tb0 3 [.ref b, .int a1, .int a2, .int a3] [] 0 h (Qi K)
  unfold P_X5_request at hM
  refine B_aload_n dX5_request_0 rfl ?_
  refine B_iload_n dX5_request_1 rfl ?_
  refine B_iload_n dX5_request_2 rfl ?_
  refine B_iload_n dX5_request_3 rfl ?_
  refine B_cV3i (c_X5_isAsk (d := d - 1) hk_X5_isAsk hb hM) csV_X5_99 (tb_0 hb) vc_5 rfl hp0 (rm_f hk1) (rm_l hk1 (by decide)) (Nat.le_of_ble_eq_true rfl) dX5_request_4 (fun r2 h1 hM => ?_)
  refine B_if_ne dX5_request_7 hM (tgt := 12) rfl (fun hM => ?_) (fun hM => ?_)
  · refine B_aload_n dX5_request_12 rfl ?_
    refine B_iload_n dX5_request_13 rfl ?_
    refine B_cV1i (c_X5_isWaiting (d := d - 1) hk_X5_isWaiting hb hM) csV_X5_75 (tb_0 hb) vc_5 rfl hp0 (rm_f hk1) (rm_l hk1 (by decide)) (Nat.le_of_ble_eq_true rfl) dX5_request_14 (fun r4 h3 hM => ?_)
    refine B_if_eq dX5_request_17 hM (tgt := 23) rfl (fun hM => ?_) (fun hM => ?_)
    · refine B_aload_n dX5_request_23 rfl ?_
      refine B_iload_n dX5_request_24 rfl ?_
      refine B_iload_n dX5_request_25 rfl ?_
      refine B_iload_n dX5_request_26 rfl ?_
      refine B_cV3i (c_X5_hindrances (d := d - 1) hk_X5_hindrances hb hM) csV_X5_103 (tb_0 hb) vc_5 rfl hp0 (rm_f hk1) (rm_l hk1 (by decide)) (Nat.le_of_ble_eq_true rfl) dX5_request_27 (fun r6 h5 hM => ?_)
      refine B_if_ne dX5_request_30 hM (tgt := 42) rfl (fun hM => ?_) (fun hM => ?_)
      · refine B_aload_n dX5_request_42 rfl ?_
        refine B_iload_n dX5_request_43 rfl ?_
        refine B_iload_n dX5_request_44 rfl ?_
        refine B_cV2i (c_X5_isRaise (d := d - 1) hk_X5_isRaise hb hM) csV_X5_86 (tb_0 hb) vc_5 rfl hp0 (rm_f hk1) (rm_l hk1 (by decide)) (Nat.le_of_ble_eq_true rfl) dX5_request_45 (fun r8 h7 hM => ?_)
        refine B_if_eq dX5_request_48 hM (tgt := 62) rfl (fun hM => ?_) (fun hM => ?_)
        · exact B_wk (bw_X5_request_c62 hd hb  hM) (wk_1 (wk_1 (wk_1 (wk_1 wk_n))))
        · refine B_aload_n dX5_request_51 rfl ?_
          refine B_iload_n dX5_request_52 rfl ?_
          refine B_cV1i (c_X5_raiseWaits (d := d - 1) hk_X5_raiseWaits hb hM) csV_X5_110 (tb_0 hb) vc_5 rfl hp0 (rm_f hk1) (rm_l hk1 (by decide)) (Nat.le_of_ble_eq_true rfl) dX5_request_53 (fun r10 h9 hM => ?_)
          refine B_if_eq dX5_request_56 hM (tgt := 62) rfl (fun hM => ?_) (fun hM => ?_)
          · exact B_wk (bw_X5_request_c62 hd hb  hM) (wk_1 (wk_1 (wk_1 (wk_1 wk_n))))
          · refine B_bipush dX5_request_59 k_bi_m2 ?_
            exact B_iret ⟨_, rfl, hM⟩ trivial dX5_request_61
      · refine B_aload_n dX5_request_33 rfl ?_
        refine B_iload_n dX5_request_34 rfl ?_
        refine B_iload_n dX5_request_35 rfl ?_
        refine B_iload_n dX5_request_36 rfl ?_
        refine B_cV3v (c_X5_grant (d := d - 1) hk_X5_grant hb hM) csV_X5_106 (tb_0 hb) vc_5 rfl hp0 (rm_f hk1) (rm_l hk1 (by decide)) (Nat.le_of_ble_eq_true rfl) dX5_request_37 (fun h11 hM => ?_)
        refine B_iconst dX5_request_40 k_ic_1 ?_
        exact B_iret ⟨_, rfl, hM⟩ trivial dX5_request_41
    · refine B_bipush dX5_request_20 k_bi_m5 ?_
      exact B_iret ⟨_, rfl, hM⟩ trivial dX5_request_22
  · refine B_iconst dX5_request_10 k_ic_m1 ?_
    exact B_iret ⟨_, rfl, hM⟩ trivial dX5_request_11

def X4_playRound_c117 (F : Nat) (b : Nat) (K : AH → Prop) (h : AH) : Prop := (fun (h1 : AH) => K h1) (up h 37 2 ((h 37 2) + (nI 1)))
set_option maxHeartbeats 4000000 in
theorem bw_X4_playRound_c117 {l : Launch} {d : Nat} {F : Nat} {b : Nat} {K : AH → Prop} {h : AH} (hd : 5 ≤ d) (hb : isTbl b) (hM : X4_playRound_c117 F b K h) : BW RX4 cX4_playRound 4 none l (rmD d) tb0 3 [.ref 37, .null, .null, .null] [] 117 h (Qv K) := by
  have hk1 : 1 ≤ d := by omega
  have hk_X4_takeRow : 0 ≤ d - 1 := by omega
  have hk_X5_giveUpAll : 4 ≤ d - 1 := by omega
  have hk_X5_isWaiting : 0 ≤ d - 1 := by omega
  have hk_X5_leastOf : 2 ≤ d - 1 := by omega
  have hk_X5_request : 3 ≤ d - 1 := by omega
  have hk_X5_ringBits : 3 ≤ d - 1 := by omega
  have hk_X7_hasBit : 0 ≤ d - 1 := by omega
  unfold X4_playRound_c117 at hM
  refine B_aload_n dX4_playRound_117 rfl ?_
  refine B_dupR dX4_playRound_118 ?_
  refine B_getI (sc_37) vc_4 (k := 2) rfl (by decide) inG4 ⟨rfl, rfl, rfl⟩ ww_fl_X4_19 dX4_playRound_119 ?_
  refine B_iconst dX4_playRound_122 k_ic_1 ?_
  refine B_iadd dX4_playRound_123 ?_
  refine B_putI (fits_I _) (sc_37) vc_4 (k := 2) rfl (by decide) inG4 ⟨rfl, rfl, rfl⟩ tyX4 tyX4_ok nmX4 rfl rfl ww_fl_X4_19 dX4_playRound_124 ?_
  exact B_vret ⟨rfl, hM⟩ trivial dX4_playRound_127
def X4_playRound_c82 (F : Nat) (b : Nat) (rc2 : Int32 → AH → Prop) (K : AH → Prop) (x2 : Int32) (h : AH) : Prop := rc2 (x2 + (nI 1)) h
set_option maxHeartbeats 4000000 in
theorem bw_X4_playRound_c82 {l : Launch} {d : Nat} {F : Nat} {b : Nat} {rc2 : Int32 → AH → Prop} {K : AH → Prop} {x2 : Int32} {h : AH} (hd : 5 ≤ d) (hb : isTbl b) (hr2 : ∀ (x2 : Int32) (h : AH), rc2 x2 h → BW RX4 cX4_playRound 4 none l (rmD d) tb0 3 [.ref 37, .ref b, .int x2, .null] [] 2 h (Qv K)) (hM : X4_playRound_c82 F b rc2 K x2 h) : BW RX4 cX4_playRound 4 none l (rmD d) tb0 3 [.ref 37, .ref b, .int x2, .null] [] 82 h (Qv K) := by
  have hk1 : 1 ≤ d := by omega
  have hk_X4_takeRow : 0 ≤ d - 1 := by omega
  have hk_X5_giveUpAll : 4 ≤ d - 1 := by omega
  have hk_X5_isWaiting : 0 ≤ d - 1 := by omega
  have hk_X5_leastOf : 2 ≤ d - 1 := by omega
  have hk_X5_request : 3 ≤ d - 1 := by omega
  have hk_X5_ringBits : 3 ≤ d - 1 := by omega
  have hk_X7_hasBit : 0 ≤ d - 1 := by omega
  unfold X4_playRound_c82 at hM
  refine B_iinc dX4_playRound_82 rfl k_ic_1 (Nat.le_of_ble_eq_true rfl) ?_
  refine B_goto (tgt := 2) dX4_playRound_85 rfl ?_
  exact B_wk (hr2 _ _ hM) (wk_1 (wk_1 (wk_1 (wk_0 wk_n))))
def X4_playRound_c2 (F : Nat) (b : Nat) (K : AH → Prop) (n : Nat) : Int32 → AH → Prop := Nat.rec (motive := fun _ => Int32 → AH → Prop) (fun _ _ => False) (fun _ rc2 x2 h => if (nI 6) ≤ x2 then (P_X5_ringBits F b h (fun (r2 : Int32) (h1 : AH) => P_X5_leastOf F b r2 h1 (fun (r4 : Int32) (h3 : AH) => if r4 < (nI 0) then (X4_playRound_c117 F b K h3) else (P_X5_giveUpAll F b r4 h3 (fun (r6 : Int32) (h5 : AH) => (fun (h7 : AH) => X4_playRound_c117 F b K h7) (up h5 37 3 ((h5 37 3) + (nI 1)))))))) else (P_X7_hasBit F (h 37 1) x2 h (fun (r9 : Int32) (h8 : AH) => if r9 = (nI 0) then (X4_playRound_c82 F b rc2 K x2 h8) else (P_X5_isWaiting F b x2 h8 (fun (r11 : Int32) (h10 : AH) => if r11 = (nI 0) then (P_X4_takeRow F b x2 h10 (fun (r13 : Int32) (h12 : AH) => if r13 < (nI 0) then (P_X5_giveUpAll F b x2 h12 (fun (r15 : Int32) (h14 : AH) => (fun (h16 : AH) => X4_playRound_c82 F b rc2 K x2 h16) (up h14 37 1 ((h14 37 1) &&& (((nI 1) <<< (x2 &&& 31)) ^^^ (-1 : Int32)))))) else (vp_in r13 12 ∧ (vp_in r13 12 ∧ (P_X5_request F b x2 (h12 (b + 9) r13.toNatClampNeg) (h12 (b + 10) r13.toNatClampNeg) h12 (fun (r18 : Int32) (h17 : AH) => X4_playRound_c82 F b rc2 K x2 h17)))))) else (X4_playRound_c82 F b rc2 K x2 h10)))))) n
theorem X4_playRound_c2_s {F : Nat} {b : Nat} {K : AH → Prop} {n : Nat} {x2 : Int32} {h : AH} : X4_playRound_c2 F b K (n + 1) x2 h = (if (nI 6) ≤ x2 then (P_X5_ringBits F b h (fun (r2 : Int32) (h1 : AH) => P_X5_leastOf F b r2 h1 (fun (r4 : Int32) (h3 : AH) => if r4 < (nI 0) then (X4_playRound_c117 F b K h3) else (P_X5_giveUpAll F b r4 h3 (fun (r6 : Int32) (h5 : AH) => (fun (h7 : AH) => X4_playRound_c117 F b K h7) (up h5 37 3 ((h5 37 3) + (nI 1)))))))) else (P_X7_hasBit F (h 37 1) x2 h (fun (r9 : Int32) (h8 : AH) => if r9 = (nI 0) then (X4_playRound_c82 F b (X4_playRound_c2 F b K n) K x2 h8) else (P_X5_isWaiting F b x2 h8 (fun (r11 : Int32) (h10 : AH) => if r11 = (nI 0) then (P_X4_takeRow F b x2 h10 (fun (r13 : Int32) (h12 : AH) => if r13 < (nI 0) then (P_X5_giveUpAll F b x2 h12 (fun (r15 : Int32) (h14 : AH) => (fun (h16 : AH) => X4_playRound_c82 F b (X4_playRound_c2 F b K n) K x2 h16) (up h14 37 1 ((h14 37 1) &&& (((nI 1) <<< (x2 &&& 31)) ^^^ (-1 : Int32)))))) else (vp_in r13 12 ∧ (vp_in r13 12 ∧ (P_X5_request F b x2 (h12 (b + 9) r13.toNatClampNeg) (h12 (b + 10) r13.toNatClampNeg) h12 (fun (r18 : Int32) (h17 : AH) => X4_playRound_c82 F b (X4_playRound_c2 F b K n) K x2 h17)))))) else (X4_playRound_c82 F b (X4_playRound_c2 F b K n) K x2 h10)))))) := rfl
set_option maxHeartbeats 4000000 in
theorem bw_X4_playRound_c2 {l : Launch} {d : Nat} {F : Nat} {b : Nat} {K : AH → Prop} (hd : 5 ≤ d) (hb : isTbl b) : ∀ (n : Nat) (x2 : Int32) (h : AH), X4_playRound_c2 F b K n x2 h → BW RX4 cX4_playRound 4 none l (rmD d) tb0 3 [.ref 37, .ref b, .int x2, .null] [] 2 h (Qv K) := by
  have hk1 : 1 ≤ d := by omega
  have hk_X4_takeRow : 0 ≤ d - 1 := by omega
  have hk_X5_giveUpAll : 4 ≤ d - 1 := by omega
  have hk_X5_isWaiting : 0 ≤ d - 1 := by omega
  have hk_X5_leastOf : 2 ≤ d - 1 := by omega
  have hk_X5_request : 3 ≤ d - 1 := by omega
  have hk_X5_ringBits : 3 ≤ d - 1 := by omega
  have hk_X7_hasBit : 0 ≤ d - 1 := by omega
  intro n
  induction n with
  | zero =>
    intro x2 h hM
    exact hM.elim
  | succ n hr2 =>
    intro x2 h hM
    rw [X4_playRound_c2_s] at hM
    refine B_iload_n dX4_playRound_2 rfl ?_
    refine B_bipush dX4_playRound_3 k_bi_6 ?_
    refine B_icmp_ge dX4_playRound_5 hM (tgt := 88) rfl (fun hM => ?_) (fun hM => ?_)
    · refine B_aload_n dX4_playRound_88 rfl ?_
      refine B_aload_n dX4_playRound_89 rfl ?_
      refine B_cV0i (c_X5_ringBits (d := d - 1) hk_X5_ringBits hb hM) csV_X4_59 (tb_0 hb) vc_5 rfl hp0 (rm_f hk1) (rm_l hk1 (by decide)) (Nat.le_of_ble_eq_true rfl) dX4_playRound_90 (fun r2 h1 hM => ?_)
      refine B_cV1i (c_X5_leastOf (d := d - 1) hk_X5_leastOf hb hM) csV_X4_63 (tb_0 hb) vc_5 rfl hp0 (rm_f hk1) (rm_l hk1 (by decide)) (Nat.le_of_ble_eq_true rfl) dX4_playRound_93 (fun r4 h3 hM => ?_)
      refine B_istore_n dX4_playRound_96 (Nat.le_of_ble_eq_true rfl) ?_
      refine B_iload_n dX4_playRound_97 rfl ?_
      refine B_if_lt dX4_playRound_98 hM (tgt := 117) rfl (fun hM => ?_) (fun hM => ?_)
      · exact B_wk (bw_X4_playRound_c117 hd hb  hM) (wk_1 (wk_0 (wk_0 (wk_0 wk_n))))
      · refine B_aload_n dX4_playRound_101 rfl ?_
        refine B_iload_n dX4_playRound_102 rfl ?_
        refine B_cV1i (c_X5_giveUpAll (d := d - 1) hk_X5_giveUpAll hb hM) csV_X4_55 (tb_0 hb) vc_5 rfl hp0 (rm_f hk1) (rm_l hk1 (by decide)) (Nat.le_of_ble_eq_true rfl) dX4_playRound_103 (fun r6 h5 hM => ?_)
        refine B_popI dX4_playRound_106 ?_
        refine B_aload_n dX4_playRound_107 rfl ?_
        refine B_dupR dX4_playRound_108 ?_
        refine B_getI (sc_37) vc_4 (k := 3) rfl (by decide) inG4 ⟨rfl, rfl, rfl⟩ ww_fl_X4_22 dX4_playRound_109 ?_
        refine B_iconst dX4_playRound_112 k_ic_1 ?_
        refine B_iadd dX4_playRound_113 ?_
        refine B_putI (fits_I _) (sc_37) vc_4 (k := 3) rfl (by decide) inG4 ⟨rfl, rfl, rfl⟩ tyX4 tyX4_ok nmX4 rfl rfl ww_fl_X4_22 dX4_playRound_114 ?_
        exact B_wk (bw_X4_playRound_c117 hd hb  hM) (wk_1 (wk_0 (wk_0 (wk_0 wk_n))))
    · refine B_aload_n dX4_playRound_8 rfl ?_
      refine B_getI (sc_37) vc_4 (k := 1) rfl (by decide) inG4 ⟨rfl, rfl, rfl⟩ ww_fl_X4_15 dX4_playRound_9 ?_
      refine B_iload_n dX4_playRound_12 rfl ?_
      refine B_cN2i (c_X7_hasBit (d := d - 1) hk_X7_hasBit  hM) csN_X4_33 hp0 (rm_f hk1) (rm_l hk1 (by decide)) (Nat.le_of_ble_eq_true rfl) dX4_playRound_13 (fun r9 h8 hM => ?_)
      refine B_if_eq dX4_playRound_16 hM (tgt := 82) rfl (fun hM => ?_) (fun hM => ?_)
      · exact B_wk (bw_X4_playRound_c82 hd hb hr2 hM) (wk_1 (wk_1 (wk_1 (wk_0 wk_n))))
      · refine B_aload_n dX4_playRound_19 rfl ?_
        refine B_iload_n dX4_playRound_20 rfl ?_
        refine B_cV1i (c_X5_isWaiting (d := d - 1) hk_X5_isWaiting hb hM) csV_X4_37 (tb_0 hb) vc_5 rfl hp0 (rm_f hk1) (rm_l hk1 (by decide)) (Nat.le_of_ble_eq_true rfl) dX4_playRound_21 (fun r11 h10 hM => ?_)
        refine B_if_eq dX4_playRound_24 hM (tgt := 30) rfl (fun hM => ?_) (fun hM => ?_)
        · refine B_aload_n dX4_playRound_30 rfl ?_
          refine B_aload_n dX4_playRound_31 rfl ?_
          refine B_iload_n dX4_playRound_32 rfl ?_
          refine B_cV2i (c_X4_takeRow (d := d - 1) hk_X4_takeRow hb hM) csV_X4_41 (sc_37) vc_4 rfl hp0 (rm_f hk1) (rm_l hk1 (by decide)) (Nat.le_of_ble_eq_true rfl) dX4_playRound_33 (fun r13 h12 hM => ?_)
          refine B_istore_n dX4_playRound_36 (Nat.le_of_ble_eq_true rfl) ?_
          refine B_iload_n dX4_playRound_37 rfl ?_
          refine B_if_lt dX4_playRound_38 hM (tgt := 62) rfl (fun hM => ?_) (fun hM => ?_)
          · refine B_aload_n dX4_playRound_62 rfl ?_
            refine B_iload_n dX4_playRound_63 rfl ?_
            refine B_cV1i (c_X5_giveUpAll (d := d - 1) hk_X5_giveUpAll hb hM) csV_X4_55 (tb_0 hb) vc_5 rfl hp0 (rm_f hk1) (rm_l hk1 (by decide)) (Nat.le_of_ble_eq_true rfl) dX4_playRound_64 (fun r15 h14 hM => ?_)
            refine B_popI dX4_playRound_67 ?_
            refine B_aload_n dX4_playRound_68 rfl ?_
            refine B_dupR dX4_playRound_69 ?_
            refine B_getI (sc_37) vc_4 (k := 1) rfl (by decide) inG4 ⟨rfl, rfl, rfl⟩ ww_fl_X4_15 dX4_playRound_70 ?_
            refine B_iconst dX4_playRound_73 k_ic_1 ?_
            refine B_iload_n dX4_playRound_74 rfl ?_
            refine B_ishl dX4_playRound_75 ?_
            refine B_iconst dX4_playRound_76 k_ic_m1 ?_
            refine B_ixor dX4_playRound_77 ?_
            refine B_iand dX4_playRound_78 ?_
            refine B_putI (fits_I _) (sc_37) vc_4 (k := 1) rfl (by decide) inG4 ⟨rfl, rfl, rfl⟩ tyX4 tyX4_ok nmX4 rfl rfl ww_fl_X4_15 dX4_playRound_79 ?_
            exact B_wk (bw_X4_playRound_c82 hd hb hr2 hM) (wk_1 (wk_1 (wk_1 (wk_0 wk_n))))
          · refine B_aload_n dX4_playRound_41 rfl ?_
            refine B_iload_n dX4_playRound_42 rfl ?_
            refine B_aload_n dX4_playRound_43 rfl ?_
            refine B_getR (tb_0 hb) vc_5 (k := 11) (j := (b + 9)) rfl (by decide) inG5 ⟨rfl, rfl, rfl⟩ ww_fl_X4_45 dX4_playRound_44 ?_
            refine B_iload_n dX4_playRound_47 rfl ?_
            refine B_iald (tb_9 hb) hM dX4_playRound_48 (fun hM => ?_)
            refine B_aload_n dX4_playRound_49 rfl ?_
            refine B_getR (tb_0 hb) vc_5 (k := 12) (j := (b + 10)) rfl (by decide) inG5 ⟨rfl, rfl, rfl⟩ ww_fl_X4_48 dX4_playRound_50 ?_
            refine B_iload_n dX4_playRound_53 rfl ?_
            refine B_iald (tb_10 hb) hM dX4_playRound_54 (fun hM => ?_)
            refine B_cV3i (c_X5_request (d := d - 1) hk_X5_request hb hM) csV_X4_51 (tb_0 hb) vc_5 rfl hp0 (rm_f hk1) (rm_l hk1 (by decide)) (Nat.le_of_ble_eq_true rfl) dX4_playRound_55 (fun r18 h17 hM => ?_)
            refine B_popI dX4_playRound_58 ?_
            refine B_goto (tgt := 82) dX4_playRound_59 rfl ?_
            exact B_wk (bw_X4_playRound_c82 hd hb hr2 hM) (wk_1 (wk_1 (wk_1 (wk_0 wk_n))))
        · refine B_goto (tgt := 82) dX4_playRound_27 rfl ?_
          exact B_wk (bw_X4_playRound_c82 hd hb hr2 hM) (wk_1 (wk_1 (wk_1 (wk_0 wk_n))))
def P_X4_playRound (F : Nat) (b : Nat) (h : AH) (K : AH → Prop) : Prop := X4_playRound_c2 F b K F (nI 0) h
set_option maxHeartbeats 4000000 in
theorem c_X4_playRound {l : Launch} {d : Nat} {F : Nat} {b : Nat} {h : AH} {K : AH → Prop} (hd : 5 ≤ d) (hb : isTbl b) (hM : P_X4_playRound F b h K) : Ct l yX4_playRound cX4_playRound 4 none (rmD d) [.ref 37, .ref b] h (Qv K) := by
  have hk1 : 1 ≤ d := by omega
  have hk_X4_takeRow : 0 ≤ d - 1 := by omega
  have hk_X5_giveUpAll : 4 ≤ d - 1 := by omega
  have hk_X5_isWaiting : 0 ≤ d - 1 := by omega
  have hk_X5_leastOf : 2 ≤ d - 1 := by omega
  have hk_X5_request : 3 ≤ d - 1 := by omega
  have hk_X5_ringBits : 3 ≤ d - 1 := by omega
  have hk_X7_hasBit : 0 ≤ d - 1 := by omega
  refine Ct_ofBW (by decide) rfl (Nat.le_of_ble_eq_true rfl) ⟨rfl, rfl⟩ ?_
  show BW RX4 cX4_playRound 4 none l (rmD d) tb0 3 [.ref 37, .ref b, .null, .null] [] 0 h (Qv K)
  unfold P_X4_playRound at hM
  refine B_iconst dX4_playRound_0 k_ic_0 ?_
  refine B_istore_n dX4_playRound_1 (Nat.le_of_ble_eq_true rfl) ?_
  exact B_wk (bw_X4_playRound_c2 hd hb  _ _ _ hM) (wk_1 (wk_1 (wk_1 (wk_0 wk_n))))

def P_X5_copyFrom (F : Nat) (b : Nat) (b1 : Nat) (h : AH) (K : AH → Prop) : Prop := (fun (h1 : AH) => (fun (h2 : AH) => (fun (h3 : AH) => (fun (h4 : AH) => (fun (h5 : AH) => (fun (h6 : AH) => (fun (h7 : AH) => (fun (h8 : AH) => (fun (h9 : AH) => (fun (h10 : AH) => (fun (h11 : AH) => (fun (h12 : AH) => (fun (h13 : AH) => K h13) (cpA h12 (b1 + 10) (b + 10) 0 0 12)) (cpA h11 (b1 + 9) (b + 9) 0 0 12)) (cpA h10 (b1 + 8) (b + 8) 0 0 12)) (up h9 b 9 (h9 b1 9))) (cpA h8 (b1 + 7) (b + 7) 0 0 6)) (cpA h7 (b1 + 6) (b + 6) 0 0 6)) (cpA h6 (b1 + 5) (b + 5) 0 0 6)) (up h5 b 5 (h5 b1 5))) (cpA h4 (b1 + 4) (b + 4) 0 0 60)) (cpA h3 (b1 + 3) (b + 3) 0 0 360)) (cpA h2 (b1 + 2) (b + 2) 0 0 12)) (cpA h1 (b1 + 1) (b + 1) 0 0 12)) (up h b 0 (h b1 0))
set_option maxHeartbeats 4000000 in
theorem c_X5_copyFrom {l : Launch} {d : Nat} {F : Nat} {b : Nat} {b1 : Nat} {h : AH} {K : AH → Prop} (hd : 1 ≤ d) (hb : isTbl b) (hb1 : isTbl b1) (hM : P_X5_copyFrom F b b1 h K) : Ct l yX5_copyFrom cX5_copyFrom 2 none (rmD d) [.ref b, .ref b1] h (Qv K) := by
  have hk1 : 1 ≤ d := by omega
  refine Ct_ofBW (by decide) rfl (Nat.le_of_ble_eq_true rfl) ⟨rfl, rfl⟩ ?_
  show BW RX5 cX5_copyFrom 2 none l (rmD d) tb0 3 [.ref b, .ref b1] [] 0 h (Qv K)
  unfold P_X5_copyFrom at hM
  refine B_aload_n dX5_copyFrom_0 rfl ?_
  refine B_aload_n dX5_copyFrom_1 rfl ?_
  refine B_getI (tb_0 hb1) vc_5 (k := 0) rfl (by decide) inG5 ⟨rfl, rfl, rfl⟩ ww_fl_X5_9 dX5_copyFrom_2 ?_
  refine B_putI (fits_I _) (tb_0 hb) vc_5 (k := 0) rfl (by decide) inG5 ⟨rfl, rfl, rfl⟩ tyX5 tyX5_ok nmX5 rfl rfl ww_fl_X5_9 dX5_copyFrom_5 ?_
  refine B_aload_n dX5_copyFrom_8 rfl ?_
  refine B_getR (tb_0 hb1) vc_5 (k := 1) (j := (b1 + 1)) rfl (by decide) inG5 ⟨rfl, rfl, rfl⟩ ww_fl_X5_15 dX5_copyFrom_9 ?_
  refine B_iconst dX5_copyFrom_12 k_ic_0 ?_
  refine B_aload_n dX5_copyFrom_13 rfl ?_
  refine B_getR (tb_0 hb) vc_5 (k := 1) (j := (b + 1)) rfl (by decide) inG5 ⟨rfl, rfl, rfl⟩ ww_fl_X5_15 dX5_copyFrom_14 ?_
  refine B_iconst dX5_copyFrom_17 k_ic_0 ?_
  refine B_bipush dX5_copyFrom_18 k_bi_12 ?_
  refine B_copy ⟨ww_ml_X5_58, ww_cp_n, ww_cp_s, ww_cp_i⟩ (tb_1 hb1) (tb_1 hb) (by decide) (by decide) (by decide) (by decide) (by decide) hk1 (rm_n hk1 (Nat.le_of_ble_eq_true rfl)) dX5_copyFrom_20 ?_
  refine B_aload_n dX5_copyFrom_23 rfl ?_
  refine B_getR (tb_0 hb1) vc_5 (k := 2) (j := (b1 + 2)) rfl (by decide) inG5 ⟨rfl, rfl, rfl⟩ ww_fl_X5_19 dX5_copyFrom_24 ?_
  refine B_iconst dX5_copyFrom_27 k_ic_0 ?_
  refine B_aload_n dX5_copyFrom_28 rfl ?_
  refine B_getR (tb_0 hb) vc_5 (k := 2) (j := (b + 2)) rfl (by decide) inG5 ⟨rfl, rfl, rfl⟩ ww_fl_X5_19 dX5_copyFrom_29 ?_
  refine B_iconst dX5_copyFrom_32 k_ic_0 ?_
  refine B_bipush dX5_copyFrom_33 k_bi_12 ?_
  refine B_copy ⟨ww_ml_X5_58, ww_cp_n, ww_cp_s, ww_cp_i⟩ (tb_2 hb1) (tb_2 hb) (by decide) (by decide) (by decide) (by decide) (by decide) hk1 (rm_n hk1 (Nat.le_of_ble_eq_true rfl)) dX5_copyFrom_35 ?_
  refine B_aload_n dX5_copyFrom_38 rfl ?_
  refine B_getR (tb_0 hb1) vc_5 (k := 3) (j := (b1 + 3)) rfl (by decide) inG5 ⟨rfl, rfl, rfl⟩ ww_fl_X5_22 dX5_copyFrom_39 ?_
  refine B_iconst dX5_copyFrom_42 k_ic_0 ?_
  refine B_aload_n dX5_copyFrom_43 rfl ?_
  refine B_getR (tb_0 hb) vc_5 (k := 3) (j := (b + 3)) rfl (by decide) inG5 ⟨rfl, rfl, rfl⟩ ww_fl_X5_22 dX5_copyFrom_44 ?_
  refine B_iconst dX5_copyFrom_47 k_ic_0 ?_
  refine B_sipush dX5_copyFrom_48 k_si_360 ?_
  refine B_copy ⟨ww_ml_X5_58, ww_cp_n, ww_cp_s, ww_cp_i⟩ (tb_3 hb1) (tb_3 hb) (by decide) (by decide) (by decide) (by decide) (by decide) hk1 (rm_n hk1 (Nat.le_of_ble_eq_true rfl)) dX5_copyFrom_51 ?_
  refine B_aload_n dX5_copyFrom_54 rfl ?_
  refine B_getR (tb_0 hb1) vc_5 (k := 4) (j := (b1 + 4)) rfl (by decide) inG5 ⟨rfl, rfl, rfl⟩ ww_fl_X5_25 dX5_copyFrom_55 ?_
  refine B_iconst dX5_copyFrom_58 k_ic_0 ?_
  refine B_aload_n dX5_copyFrom_59 rfl ?_
  refine B_getR (tb_0 hb) vc_5 (k := 4) (j := (b + 4)) rfl (by decide) inG5 ⟨rfl, rfl, rfl⟩ ww_fl_X5_25 dX5_copyFrom_60 ?_
  refine B_iconst dX5_copyFrom_63 k_ic_0 ?_
  refine B_bipush dX5_copyFrom_64 k_bi_60 ?_
  refine B_copy ⟨ww_ml_X5_58, ww_cp_n, ww_cp_s, ww_cp_i⟩ (tb_4 hb1) (tb_4 hb) (by decide) (by decide) (by decide) (by decide) (by decide) hk1 (rm_n hk1 (Nat.le_of_ble_eq_true rfl)) dX5_copyFrom_66 ?_
  refine B_aload_n dX5_copyFrom_69 rfl ?_
  refine B_aload_n dX5_copyFrom_70 rfl ?_
  refine B_getI (tb_0 hb1) vc_5 (k := 5) rfl (by decide) inG5 ⟨rfl, rfl, rfl⟩ ww_fl_X5_28 dX5_copyFrom_71 ?_
  refine B_putI (fits_I _) (tb_0 hb) vc_5 (k := 5) rfl (by decide) inG5 ⟨rfl, rfl, rfl⟩ tyX5 tyX5_ok nmX5 rfl rfl ww_fl_X5_28 dX5_copyFrom_74 ?_
  refine B_aload_n dX5_copyFrom_77 rfl ?_
  refine B_getR (tb_0 hb1) vc_5 (k := 6) (j := (b1 + 5)) rfl (by decide) inG5 ⟨rfl, rfl, rfl⟩ ww_fl_X5_31 dX5_copyFrom_78 ?_
  refine B_iconst dX5_copyFrom_81 k_ic_0 ?_
  refine B_aload_n dX5_copyFrom_82 rfl ?_
  refine B_getR (tb_0 hb) vc_5 (k := 6) (j := (b + 5)) rfl (by decide) inG5 ⟨rfl, rfl, rfl⟩ ww_fl_X5_31 dX5_copyFrom_83 ?_
  refine B_iconst dX5_copyFrom_86 k_ic_0 ?_
  refine B_bipush dX5_copyFrom_87 k_bi_6 ?_
  refine B_copy ⟨ww_ml_X5_58, ww_cp_n, ww_cp_s, ww_cp_i⟩ (tb_5 hb1) (tb_5 hb) (by decide) (by decide) (by decide) (by decide) (by decide) hk1 (rm_n hk1 (Nat.le_of_ble_eq_true rfl)) dX5_copyFrom_89 ?_
  refine B_aload_n dX5_copyFrom_92 rfl ?_
  refine B_getR (tb_0 hb1) vc_5 (k := 7) (j := (b1 + 6)) rfl (by decide) inG5 ⟨rfl, rfl, rfl⟩ ww_fl_X5_34 dX5_copyFrom_93 ?_
  refine B_iconst dX5_copyFrom_96 k_ic_0 ?_
  refine B_aload_n dX5_copyFrom_97 rfl ?_
  refine B_getR (tb_0 hb) vc_5 (k := 7) (j := (b + 6)) rfl (by decide) inG5 ⟨rfl, rfl, rfl⟩ ww_fl_X5_34 dX5_copyFrom_98 ?_
  refine B_iconst dX5_copyFrom_101 k_ic_0 ?_
  refine B_bipush dX5_copyFrom_102 k_bi_6 ?_
  refine B_copy ⟨ww_ml_X5_58, ww_cp_n, ww_cp_s, ww_cp_i⟩ (tb_6 hb1) (tb_6 hb) (by decide) (by decide) (by decide) (by decide) (by decide) hk1 (rm_n hk1 (Nat.le_of_ble_eq_true rfl)) dX5_copyFrom_104 ?_
  refine B_aload_n dX5_copyFrom_107 rfl ?_
  refine B_getR (tb_0 hb1) vc_5 (k := 8) (j := (b1 + 7)) rfl (by decide) inG5 ⟨rfl, rfl, rfl⟩ ww_fl_X5_37 dX5_copyFrom_108 ?_
  refine B_iconst dX5_copyFrom_111 k_ic_0 ?_
  refine B_aload_n dX5_copyFrom_112 rfl ?_
  refine B_getR (tb_0 hb) vc_5 (k := 8) (j := (b + 7)) rfl (by decide) inG5 ⟨rfl, rfl, rfl⟩ ww_fl_X5_37 dX5_copyFrom_113 ?_
  refine B_iconst dX5_copyFrom_116 k_ic_0 ?_
  refine B_bipush dX5_copyFrom_117 k_bi_6 ?_
  refine B_copy ⟨ww_ml_X5_58, ww_cp_n, ww_cp_s, ww_cp_i⟩ (tb_7 hb1) (tb_7 hb) (by decide) (by decide) (by decide) (by decide) (by decide) hk1 (rm_n hk1 (Nat.le_of_ble_eq_true rfl)) dX5_copyFrom_119 ?_
  refine B_aload_n dX5_copyFrom_122 rfl ?_
  refine B_aload_n dX5_copyFrom_123 rfl ?_
  refine B_getI (tb_0 hb1) vc_5 (k := 9) rfl (by decide) inG5 ⟨rfl, rfl, rfl⟩ ww_fl_X5_40 dX5_copyFrom_124 ?_
  refine B_putI (fits_I _) (tb_0 hb) vc_5 (k := 9) rfl (by decide) inG5 ⟨rfl, rfl, rfl⟩ tyX5 tyX5_ok nmX5 rfl rfl ww_fl_X5_40 dX5_copyFrom_127 ?_
  refine B_aload_n dX5_copyFrom_130 rfl ?_
  refine B_getR (tb_0 hb1) vc_5 (k := 10) (j := (b1 + 8)) rfl (by decide) inG5 ⟨rfl, rfl, rfl⟩ ww_fl_X5_43 dX5_copyFrom_131 ?_
  refine B_iconst dX5_copyFrom_134 k_ic_0 ?_
  refine B_aload_n dX5_copyFrom_135 rfl ?_
  refine B_getR (tb_0 hb) vc_5 (k := 10) (j := (b + 8)) rfl (by decide) inG5 ⟨rfl, rfl, rfl⟩ ww_fl_X5_43 dX5_copyFrom_136 ?_
  refine B_iconst dX5_copyFrom_139 k_ic_0 ?_
  refine B_bipush dX5_copyFrom_140 k_bi_12 ?_
  refine B_copy ⟨ww_ml_X5_58, ww_cp_n, ww_cp_s, ww_cp_i⟩ (tb_8 hb1) (tb_8 hb) (by decide) (by decide) (by decide) (by decide) (by decide) hk1 (rm_n hk1 (Nat.le_of_ble_eq_true rfl)) dX5_copyFrom_142 ?_
  refine B_aload_n dX5_copyFrom_145 rfl ?_
  refine B_getR (tb_0 hb1) vc_5 (k := 11) (j := (b1 + 9)) rfl (by decide) inG5 ⟨rfl, rfl, rfl⟩ ww_fl_X5_46 dX5_copyFrom_146 ?_
  refine B_iconst dX5_copyFrom_149 k_ic_0 ?_
  refine B_aload_n dX5_copyFrom_150 rfl ?_
  refine B_getR (tb_0 hb) vc_5 (k := 11) (j := (b + 9)) rfl (by decide) inG5 ⟨rfl, rfl, rfl⟩ ww_fl_X5_46 dX5_copyFrom_151 ?_
  refine B_iconst dX5_copyFrom_154 k_ic_0 ?_
  refine B_bipush dX5_copyFrom_155 k_bi_12 ?_
  refine B_copy ⟨ww_ml_X5_58, ww_cp_n, ww_cp_s, ww_cp_i⟩ (tb_9 hb1) (tb_9 hb) (by decide) (by decide) (by decide) (by decide) (by decide) hk1 (rm_n hk1 (Nat.le_of_ble_eq_true rfl)) dX5_copyFrom_157 ?_
  refine B_aload_n dX5_copyFrom_160 rfl ?_
  refine B_getR (tb_0 hb1) vc_5 (k := 12) (j := (b1 + 10)) rfl (by decide) inG5 ⟨rfl, rfl, rfl⟩ ww_fl_X5_49 dX5_copyFrom_161 ?_
  refine B_iconst dX5_copyFrom_164 k_ic_0 ?_
  refine B_aload_n dX5_copyFrom_165 rfl ?_
  refine B_getR (tb_0 hb) vc_5 (k := 12) (j := (b + 10)) rfl (by decide) inG5 ⟨rfl, rfl, rfl⟩ ww_fl_X5_49 dX5_copyFrom_166 ?_
  refine B_iconst dX5_copyFrom_169 k_ic_0 ?_
  refine B_bipush dX5_copyFrom_170 k_bi_12 ?_
  refine B_copy ⟨ww_ml_X5_58, ww_cp_n, ww_cp_s, ww_cp_i⟩ (tb_10 hb1) (tb_10 hb) (by decide) (by decide) (by decide) (by decide) (by decide) hk1 (rm_n hk1 (Nat.le_of_ble_eq_true rfl)) dX5_copyFrom_172 ?_
  exact B_vret ⟨rfl, hM⟩ trivial dX5_copyFrom_175

def P_X5_isBare (F : Nat) (b : Nat) (a1 : Int32) (h : AH) (K : Int32 → AH → Prop) : Prop := vp_in a1 12 ∧ (if ¬ (h (b + 2) a1.toNatClampNeg) = (nI 1) then (K (nI 0) h) else (K (nI 1) h))
set_option maxHeartbeats 4000000 in
theorem c_X5_isBare {l : Launch} {d : Nat} {F : Nat} {b : Nat} {a1 : Int32} {h : AH} {K : Int32 → AH → Prop} (hd : 0 ≤ d) (hb : isTbl b) (hM : P_X5_isBare F b a1 h K) : Ct l yX5_isBare cX5_isBare 2 (some .boolean) (rmD d) [.ref b, .int a1] h (Qi K) := by
  refine Ct_ofBW (by decide) rfl (Nat.le_of_ble_eq_true rfl) ⟨rfl, rfl⟩ ?_
  show BW RX5 cX5_isBare 2 (some .boolean) l (rmD d) tb0 3 [.ref b, .int a1] [] 0 h (Qi K)
  unfold P_X5_isBare at hM
  refine B_aload_n dX5_isBare_0 rfl ?_
  refine B_getR (tb_0 hb) vc_5 (k := 2) (j := (b + 2)) rfl (by decide) inG5 ⟨rfl, rfl, rfl⟩ ww_fl_X5_19 dX5_isBare_1 ?_
  refine B_iload_n dX5_isBare_4 rfl ?_
  refine B_iald (tb_2 hb) hM dX5_isBare_5 (fun hM => ?_)
  refine B_iconst dX5_isBare_6 k_ic_1 ?_
  refine B_icmp_ne dX5_isBare_7 hM (tgt := 14) rfl (fun hM => ?_) (fun hM => ?_)
  · refine B_iconst dX5_isBare_14 k_ic_0 ?_
    exact B_iret ⟨_, rfl, hM⟩ zB_0 dX5_isBare_15
  · refine B_iconst dX5_isBare_10 k_ic_1 ?_
    refine B_goto (tgt := 15) dX5_isBare_11 rfl ?_
    exact B_iret ⟨_, rfl, hM⟩ zB_1 dX5_isBare_15

def X5_addThing_c26 (F : Nat) (b : Nat) (K : Int32 → AH → Prop) (x1 : Int32) (x2 : Int32) (h : AH) : Prop := if (h b 0) < (nI 12) then (vp_in (h b 0) 12 ∧ ((fun (h1 : AH) => vp_in (h1 b 0) 12 ∧ ((fun (h2 : AH) => (fun (h3 : AH) => K ((h3 b 0) - (nI 1)) h3) (up h2 b 0 ((h2 b 0) + (nI 1)))) (up h1 (b + 2) (h1 b 0).toNatClampNeg x2))) (up h (b + 1) (h b 0).toNatClampNeg x1))) else (K (-3 : Int32) h)
set_option maxHeartbeats 4000000 in
theorem bw_X5_addThing_c26 {l : Launch} {d : Nat} {F : Nat} {b : Nat} {K : Int32 → AH → Prop} {x1 : Int32} {x2 : Int32} {h : AH} (hd : 1 ≤ d) (hb : isTbl b) (hM : X5_addThing_c26 F b K x1 x2 h) : BW RX5 cX5_addThing 3 (some .int) l (rmD d) tb0 3 [.ref b, .int x1, .int x2] [] 26 h (Qi K) := by
  have hk1 : 1 ≤ d := by omega
  have hk_X5_isThing : 0 ≤ d - 1 := by omega
  unfold X5_addThing_c26 at hM
  refine B_aload_n dX5_addThing_26 rfl ?_
  refine B_getI (tb_0 hb) vc_5 (k := 0) rfl (by decide) inG5 ⟨rfl, rfl, rfl⟩ ww_fl_X5_9 dX5_addThing_27 ?_
  refine B_bipush dX5_addThing_30 k_bi_12 ?_
  refine B_icmp_lt dX5_addThing_32 hM (tgt := 38) rfl (fun hM => ?_) (fun hM => ?_)
  · refine B_aload_n dX5_addThing_38 rfl ?_
    refine B_getR (tb_0 hb) vc_5 (k := 1) (j := (b + 1)) rfl (by decide) inG5 ⟨rfl, rfl, rfl⟩ ww_fl_X5_15 dX5_addThing_39 ?_
    refine B_aload_n dX5_addThing_42 rfl ?_
    refine B_getI (tb_0 hb) vc_5 (k := 0) rfl (by decide) inG5 ⟨rfl, rfl, rfl⟩ ww_fl_X5_9 dX5_addThing_43 ?_
    refine B_iload_n dX5_addThing_46 rfl ?_
    refine B_iast (tb_1 hb) hM dX5_addThing_47 (fun hM => ?_)
    refine B_aload_n dX5_addThing_48 rfl ?_
    refine B_getR (tb_0 hb) vc_5 (k := 2) (j := (b + 2)) rfl (by decide) inG5 ⟨rfl, rfl, rfl⟩ ww_fl_X5_19 dX5_addThing_49 ?_
    refine B_aload_n dX5_addThing_52 rfl ?_
    refine B_getI (tb_0 hb) vc_5 (k := 0) rfl (by decide) inG5 ⟨rfl, rfl, rfl⟩ ww_fl_X5_9 dX5_addThing_53 ?_
    refine B_iload_n dX5_addThing_56 rfl ?_
    refine B_iast (tb_2 hb) hM dX5_addThing_57 (fun hM => ?_)
    refine B_aload_n dX5_addThing_58 rfl ?_
    refine B_dupR dX5_addThing_59 ?_
    refine B_getI (tb_0 hb) vc_5 (k := 0) rfl (by decide) inG5 ⟨rfl, rfl, rfl⟩ ww_fl_X5_9 dX5_addThing_60 ?_
    refine B_iconst dX5_addThing_63 k_ic_1 ?_
    refine B_iadd dX5_addThing_64 ?_
    refine B_putI (fits_I _) (tb_0 hb) vc_5 (k := 0) rfl (by decide) inG5 ⟨rfl, rfl, rfl⟩ tyX5 tyX5_ok nmX5 rfl rfl ww_fl_X5_9 dX5_addThing_65 ?_
    refine B_aload_n dX5_addThing_68 rfl ?_
    refine B_getI (tb_0 hb) vc_5 (k := 0) rfl (by decide) inG5 ⟨rfl, rfl, rfl⟩ ww_fl_X5_9 dX5_addThing_69 ?_
    refine B_iconst dX5_addThing_72 k_ic_1 ?_
    refine B_isub dX5_addThing_73 ?_
    exact B_iret ⟨_, rfl, hM⟩ trivial dX5_addThing_74
  · refine B_bipush dX5_addThing_35 k_bi_m3 ?_
    exact B_iret ⟨_, rfl, hM⟩ trivial dX5_addThing_37
def X5_addThing_c15 (F : Nat) (b : Nat) (K : Int32 → AH → Prop) (x1 : Int32) (x2 : Int32) (h : AH) : Prop := if x2 = (nI 0) then (X5_addThing_c26 F b K x1 x2 h) else (if x2 = (nI 1) then (X5_addThing_c26 F b K x1 x2 h) else (K (-1 : Int32) h))
set_option maxHeartbeats 4000000 in
theorem bw_X5_addThing_c15 {l : Launch} {d : Nat} {F : Nat} {b : Nat} {K : Int32 → AH → Prop} {x1 : Int32} {x2 : Int32} {h : AH} (hd : 1 ≤ d) (hb : isTbl b) (hM : X5_addThing_c15 F b K x1 x2 h) : BW RX5 cX5_addThing 3 (some .int) l (rmD d) tb0 3 [.ref b, .int x1, .int x2] [] 15 h (Qi K) := by
  have hk1 : 1 ≤ d := by omega
  have hk_X5_isThing : 0 ≤ d - 1 := by omega
  unfold X5_addThing_c15 at hM
  refine B_iload_n dX5_addThing_15 rfl ?_
  refine B_if_eq dX5_addThing_16 hM (tgt := 26) rfl (fun hM => ?_) (fun hM => ?_)
  · exact B_wk (bw_X5_addThing_c26 hd hb  hM) (wk_1 (wk_1 (wk_1 wk_n)))
  · refine B_iload_n dX5_addThing_19 rfl ?_
    refine B_iconst dX5_addThing_20 k_ic_1 ?_
    refine B_icmp_eq dX5_addThing_21 hM (tgt := 26) rfl (fun hM => ?_) (fun hM => ?_)
    · exact B_wk (bw_X5_addThing_c26 hd hb  hM) (wk_1 (wk_1 (wk_1 wk_n)))
    · refine B_iconst dX5_addThing_24 k_ic_m1 ?_
      exact B_iret ⟨_, rfl, hM⟩ trivial dX5_addThing_25
def P_X5_addThing (F : Nat) (b : Nat) (a1 : Int32) (a2 : Int32) (h : AH) (K : Int32 → AH → Prop) : Prop := if a1 = (-1 : Int32) then (X5_addThing_c15 F b K a1 a2 h) else (P_X5_isThing F b a1 h (fun (r2 : Int32) (h1 : AH) => if ¬ r2 = (nI 0) then (X5_addThing_c15 F b K a1 a2 h1) else (K (-1 : Int32) h1)))
set_option maxHeartbeats 4000000 in
theorem c_X5_addThing {l : Launch} {d : Nat} {F : Nat} {b : Nat} {a1 : Int32} {a2 : Int32} {h : AH} {K : Int32 → AH → Prop} (hd : 1 ≤ d) (hb : isTbl b) (hM : P_X5_addThing F b a1 a2 h K) : Ct l yX5_addThing cX5_addThing 3 (some .int) (rmD d) [.ref b, .int a1, .int a2] h (Qi K) := by
  have hk1 : 1 ≤ d := by omega
  have hk_X5_isThing : 0 ≤ d - 1 := by omega
  refine Ct_ofBW (by decide) rfl (Nat.le_of_ble_eq_true rfl) ⟨rfl, rfl⟩ ?_
  show BW RX5 cX5_addThing 3 (some .int) l (rmD d) tb0 3 [.ref b, .int a1, .int a2] [] 0 h (Qi K)
  unfold P_X5_addThing at hM
  refine B_iload_n dX5_addThing_0 rfl ?_
  refine B_iconst dX5_addThing_1 k_ic_m1 ?_
  refine B_icmp_eq dX5_addThing_2 hM (tgt := 15) rfl (fun hM => ?_) (fun hM => ?_)
  · exact B_wk (bw_X5_addThing_c15 hd hb  hM) (wk_1 (wk_1 (wk_1 wk_n)))
  · refine B_aload_n dX5_addThing_5 rfl ?_
    refine B_iload_n dX5_addThing_6 rfl ?_
    refine B_cV1i (c_X5_isThing (d := d - 1) hk_X5_isThing hb hM) csV_X5_68 (tb_0 hb) vc_5 rfl hp0 (rm_f hk1) (rm_l hk1 (by decide)) (Nat.le_of_ble_eq_true rfl) dX5_addThing_7 (fun r2 h1 hM => ?_)
    refine B_if_ne dX5_addThing_10 hM (tgt := 15) rfl (fun hM => ?_) (fun hM => ?_)
    · exact B_wk (bw_X5_addThing_c15 hd hb  hM) (wk_1 (wk_1 (wk_1 wk_n)))
    · refine B_iconst dX5_addThing_13 k_ic_m1 ?_
      exact B_iret ⟨_, rfl, hM⟩ trivial dX5_addThing_14

def X5_wholesAbove_c9 (F : Nat) (b : Nat) (K : Int32 → AH → Prop) (n : Nat) : Int32 → Int32 → AH → Prop := Nat.rec (motive := fun _ => Int32 → Int32 → AH → Prop) (fun _ _ _ => False) (fun _ rc9 x2 x3 h => if x3 < (nI 0) then (K x2 h) else (if (nI 12) ≤ x2 then (K x2 h) else (vp_in x3 12 ∧ (rc9 (x2 + (nI 1)) (h (b + 1) x3.toNatClampNeg) h)))) n
theorem X5_wholesAbove_c9_s {F : Nat} {b : Nat} {K : Int32 → AH → Prop} {n : Nat} {x2 : Int32} {x3 : Int32} {h : AH} : X5_wholesAbove_c9 F b K (n + 1) x2 x3 h = (if x3 < (nI 0) then (K x2 h) else (if (nI 12) ≤ x2 then (K x2 h) else (vp_in x3 12 ∧ ((X5_wholesAbove_c9 F b K n) (x2 + (nI 1)) (h (b + 1) x3.toNatClampNeg) h)))) := rfl
set_option maxHeartbeats 4000000 in
theorem bw_X5_wholesAbove_c9 {l : Launch} {d : Nat} {F : Nat} {b : Nat} {K : Int32 → AH → Prop} (hd : 0 ≤ d) (hb : isTbl b) : ∀ (n : Nat) (x2 : Int32) (x3 : Int32) (h : AH), X5_wholesAbove_c9 F b K n x2 x3 h → BW RX5 cX5_wholesAbove 4 (some .int) l (rmD d) tb0 3 [.ref b, .null, .int x2, .int x3] [] 9 h (Qi K) := by
  intro n
  induction n with
  | zero =>
    intro x2 x3 h hM
    exact hM.elim
  | succ n hr9 =>
    intro x2 x3 h hM
    rw [X5_wholesAbove_c9_s] at hM
    refine B_iload_n dX5_wholesAbove_9 rfl ?_
    refine B_if_lt dX5_wholesAbove_10 hM (tgt := 32) rfl (fun hM => ?_) (fun hM => ?_)
    · refine B_iload_n dX5_wholesAbove_32 rfl ?_
      exact B_iret ⟨_, rfl, hM⟩ trivial dX5_wholesAbove_33
    · refine B_iload_n dX5_wholesAbove_13 rfl ?_
      refine B_bipush dX5_wholesAbove_14 k_bi_12 ?_
      refine B_icmp_ge dX5_wholesAbove_16 hM (tgt := 32) rfl (fun hM => ?_) (fun hM => ?_)
      · refine B_iload_n dX5_wholesAbove_32 rfl ?_
        exact B_iret ⟨_, rfl, hM⟩ trivial dX5_wholesAbove_33
      · refine B_iinc dX5_wholesAbove_19 rfl k_ic_1 (Nat.le_of_ble_eq_true rfl) ?_
        refine B_aload_n dX5_wholesAbove_22 rfl ?_
        refine B_getR (tb_0 hb) vc_5 (k := 1) (j := (b + 1)) rfl (by decide) inG5 ⟨rfl, rfl, rfl⟩ ww_fl_X5_15 dX5_wholesAbove_23 ?_
        refine B_iload_n dX5_wholesAbove_26 rfl ?_
        refine B_iald (tb_1 hb) hM dX5_wholesAbove_27 (fun hM => ?_)
        refine B_istore_n dX5_wholesAbove_28 (Nat.le_of_ble_eq_true rfl) ?_
        refine B_goto (tgt := 9) dX5_wholesAbove_29 rfl ?_
        exact B_wk (hr9 _ _ _ hM) (wk_1 (wk_0 (wk_1 (wk_1 wk_n))))
def P_X5_wholesAbove (F : Nat) (b : Nat) (a1 : Int32) (h : AH) (K : Int32 → AH → Prop) : Prop := vp_in a1 12 ∧ (X5_wholesAbove_c9 F b K F (nI 0) (h (b + 1) a1.toNatClampNeg) h)
set_option maxHeartbeats 4000000 in
theorem c_X5_wholesAbove {l : Launch} {d : Nat} {F : Nat} {b : Nat} {a1 : Int32} {h : AH} {K : Int32 → AH → Prop} (hd : 0 ≤ d) (hb : isTbl b) (hM : P_X5_wholesAbove F b a1 h K) : Ct l yX5_wholesAbove cX5_wholesAbove 4 (some .int) (rmD d) [.ref b, .int a1] h (Qi K) := by
  refine Ct_ofBW (by decide) rfl (Nat.le_of_ble_eq_true rfl) ⟨rfl, rfl⟩ ?_
  show BW RX5 cX5_wholesAbove 4 (some .int) l (rmD d) tb0 3 [.ref b, .int a1, .null, .null] [] 0 h (Qi K)
  unfold P_X5_wholesAbove at hM
  refine B_iconst dX5_wholesAbove_0 k_ic_0 ?_
  refine B_istore_n dX5_wholesAbove_1 (Nat.le_of_ble_eq_true rfl) ?_
  refine B_aload_n dX5_wholesAbove_2 rfl ?_
  refine B_getR (tb_0 hb) vc_5 (k := 1) (j := (b + 1)) rfl (by decide) inG5 ⟨rfl, rfl, rfl⟩ ww_fl_X5_15 dX5_wholesAbove_3 ?_
  refine B_iload_n dX5_wholesAbove_6 rfl ?_
  refine B_iald (tb_1 hb) hM dX5_wholesAbove_7 (fun hM => ?_)
  refine B_istore_n dX5_wholesAbove_8 (Nat.le_of_ble_eq_true rfl) ?_
  exact B_wk (bw_X5_wholesAbove_c9 hd hb  _ _ _ _ hM) (wk_1 (wk_0 (wk_1 (wk_1 wk_n))))

def X5_partBits_c30 (F : Nat) (b : Nat) (rc6 : Int32 → Int32 → Int32 → AH → Prop) (K : Int32 → AH → Prop) (x1 : Int32) (x2 : Int32) (x3 : Int32) (h : AH) : Prop := rc6 x1 x2 (x3 + (nI 1)) h
set_option maxHeartbeats 4000000 in
theorem bw_X5_partBits_c30 {l : Launch} {d : Nat} {F : Nat} {b : Nat} {rc6 : Int32 → Int32 → Int32 → AH → Prop} {K : Int32 → AH → Prop} {x1 : Int32} {x2 : Int32} {x3 : Int32} {h : AH} (hd : 0 ≤ d) (hb : isTbl b) (hr6 : ∀ (x1 : Int32) (x2 : Int32) (x3 : Int32) (h : AH), rc6 x1 x2 x3 h → BW RX5 cX5_partBits 4 (some .int) l (rmD d) tb0 3 [.ref b, .int x1, .int x2, .int x3] [] 6 h (Qi K)) (hM : X5_partBits_c30 F b rc6 K x1 x2 x3 h) : BW RX5 cX5_partBits 4 (some .int) l (rmD d) tb0 3 [.ref b, .int x1, .int x2, .int x3] [] 30 h (Qi K) := by
  unfold X5_partBits_c30 at hM
  refine B_iinc dX5_partBits_30 rfl k_ic_1 (Nat.le_of_ble_eq_true rfl) ?_
  refine B_goto (tgt := 6) dX5_partBits_33 rfl ?_
  exact B_wk (hr6 _ _ _ _ hM) (wk_1 (wk_1 (wk_1 (wk_1 wk_n))))
def X5_partBits_c6 (F : Nat) (b : Nat) (K : Int32 → AH → Prop) (n : Nat) : Int32 → Int32 → Int32 → AH → Prop := Nat.rec (motive := fun _ => Int32 → Int32 → Int32 → AH → Prop) (fun _ _ _ _ => False) (fun _ rc6 x1 x2 x3 h => if (h b 0) ≤ x3 then (K x2 h) else (vp_in x3 12 ∧ (if ¬ (h (b + 1) x3.toNatClampNeg) = x1 then (X5_partBits_c30 F b rc6 K x1 x2 x3 h) else (X5_partBits_c30 F b rc6 K x1 (x2 ||| ((nI 1) <<< (x3 &&& 31))) x3 h)))) n
theorem X5_partBits_c6_s {F : Nat} {b : Nat} {K : Int32 → AH → Prop} {n : Nat} {x1 : Int32} {x2 : Int32} {x3 : Int32} {h : AH} : X5_partBits_c6 F b K (n + 1) x1 x2 x3 h = (if (h b 0) ≤ x3 then (K x2 h) else (vp_in x3 12 ∧ (if ¬ (h (b + 1) x3.toNatClampNeg) = x1 then (X5_partBits_c30 F b (X5_partBits_c6 F b K n) K x1 x2 x3 h) else (X5_partBits_c30 F b (X5_partBits_c6 F b K n) K x1 (x2 ||| ((nI 1) <<< (x3 &&& 31))) x3 h)))) := rfl
set_option maxHeartbeats 4000000 in
theorem bw_X5_partBits_c6 {l : Launch} {d : Nat} {F : Nat} {b : Nat} {K : Int32 → AH → Prop} (hd : 0 ≤ d) (hb : isTbl b) : ∀ (n : Nat) (x1 : Int32) (x2 : Int32) (x3 : Int32) (h : AH), X5_partBits_c6 F b K n x1 x2 x3 h → BW RX5 cX5_partBits 4 (some .int) l (rmD d) tb0 3 [.ref b, .int x1, .int x2, .int x3] [] 6 h (Qi K) := by
  intro n
  induction n with
  | zero =>
    intro x1 x2 x3 h hM
    exact hM.elim
  | succ n hr6 =>
    intro x1 x2 x3 h hM
    rw [X5_partBits_c6_s] at hM
    refine B_iload_n dX5_partBits_6 rfl ?_
    refine B_aload_n dX5_partBits_7 rfl ?_
    refine B_getI (tb_0 hb) vc_5 (k := 0) rfl (by decide) inG5 ⟨rfl, rfl, rfl⟩ ww_fl_X5_9 dX5_partBits_8 ?_
    refine B_icmp_ge dX5_partBits_11 hM (tgt := 36) rfl (fun hM => ?_) (fun hM => ?_)
    · refine B_iload_n dX5_partBits_36 rfl ?_
      exact B_iret ⟨_, rfl, hM⟩ trivial dX5_partBits_37
    · refine B_aload_n dX5_partBits_14 rfl ?_
      refine B_getR (tb_0 hb) vc_5 (k := 1) (j := (b + 1)) rfl (by decide) inG5 ⟨rfl, rfl, rfl⟩ ww_fl_X5_15 dX5_partBits_15 ?_
      refine B_iload_n dX5_partBits_18 rfl ?_
      refine B_iald (tb_1 hb) hM dX5_partBits_19 (fun hM => ?_)
      refine B_iload_n dX5_partBits_20 rfl ?_
      refine B_icmp_ne dX5_partBits_21 hM (tgt := 30) rfl (fun hM => ?_) (fun hM => ?_)
      · exact B_wk (bw_X5_partBits_c30 hd hb hr6 hM) (wk_1 (wk_1 (wk_1 (wk_1 wk_n))))
      · refine B_iload_n dX5_partBits_24 rfl ?_
        refine B_iconst dX5_partBits_25 k_ic_1 ?_
        refine B_iload_n dX5_partBits_26 rfl ?_
        refine B_ishl dX5_partBits_27 ?_
        refine B_ior dX5_partBits_28 ?_
        refine B_istore_n dX5_partBits_29 (Nat.le_of_ble_eq_true rfl) ?_
        exact B_wk (bw_X5_partBits_c30 hd hb hr6 hM) (wk_1 (wk_1 (wk_1 (wk_1 wk_n))))
def P_X5_partBits (F : Nat) (b : Nat) (a1 : Int32) (h : AH) (K : Int32 → AH → Prop) : Prop := X5_partBits_c6 F b K F a1 (nI 0) (a1 + (nI 1)) h
set_option maxHeartbeats 4000000 in
theorem c_X5_partBits {l : Launch} {d : Nat} {F : Nat} {b : Nat} {a1 : Int32} {h : AH} {K : Int32 → AH → Prop} (hd : 0 ≤ d) (hb : isTbl b) (hM : P_X5_partBits F b a1 h K) : Ct l yX5_partBits cX5_partBits 4 (some .int) (rmD d) [.ref b, .int a1] h (Qi K) := by
  refine Ct_ofBW (by decide) rfl (Nat.le_of_ble_eq_true rfl) ⟨rfl, rfl⟩ ?_
  show BW RX5 cX5_partBits 4 (some .int) l (rmD d) tb0 3 [.ref b, .int a1, .null, .null] [] 0 h (Qi K)
  unfold P_X5_partBits at hM
  refine B_iconst dX5_partBits_0 k_ic_0 ?_
  refine B_istore_n dX5_partBits_1 (Nat.le_of_ble_eq_true rfl) ?_
  refine B_iload_n dX5_partBits_2 rfl ?_
  refine B_iconst dX5_partBits_3 k_ic_1 ?_
  refine B_iadd dX5_partBits_4 ?_
  refine B_istore_n dX5_partBits_5 (Nat.le_of_ble_eq_true rfl) ?_
  exact B_wk (bw_X5_partBits_c6 hd hb  _ _ _ _ _ hM) (wk_1 (wk_1 (wk_1 (wk_1 wk_n))))

def X5_countsAt_c12 (F : Nat) (b : Nat) (K : Int32 → AH → Prop) (n : Nat) : Int32 → Int32 → Int32 → AH → Prop := Nat.rec (motive := fun _ => Int32 → Int32 → Int32 → AH → Prop) (fun _ _ _ _ => False) (fun _ rc12 x2 x3 x4 h => if (nI 30) ≤ x4 then (K x2 h) else (vp_in (x3 + x4) 360 ∧ (rc12 (x2 + (h (b + 3) (x3 + x4).toNatClampNeg)) x3 (x4 + (nI 1)) h))) n
theorem X5_countsAt_c12_s {F : Nat} {b : Nat} {K : Int32 → AH → Prop} {n : Nat} {x2 : Int32} {x3 : Int32} {x4 : Int32} {h : AH} : X5_countsAt_c12 F b K (n + 1) x2 x3 x4 h = (if (nI 30) ≤ x4 then (K x2 h) else (vp_in (x3 + x4) 360 ∧ ((X5_countsAt_c12 F b K n) (x2 + (h (b + 3) (x3 + x4).toNatClampNeg)) x3 (x4 + (nI 1)) h))) := rfl
set_option maxHeartbeats 4000000 in
theorem bw_X5_countsAt_c12 {l : Launch} {d : Nat} {F : Nat} {b : Nat} {K : Int32 → AH → Prop} (hd : 0 ≤ d) (hb : isTbl b) : ∀ (n : Nat) (x2 : Int32) (x3 : Int32) (x4 : Int32) (h : AH), X5_countsAt_c12 F b K n x2 x3 x4 h → BW RX5 cX5_countsAt 5 (some .int) l (rmD d) tb0 3 [.ref b, .null, .int x2, .int x3, .int x4] [] 12 h (Qi K) := by
  intro n
  induction n with
  | zero =>
    intro x2 x3 x4 h hM
    exact hM.elim
  | succ n hr12 =>
    intro x2 x3 x4 h hM
    rw [X5_countsAt_c12_s] at hM
    refine B_iload dX5_countsAt_12 rfl ?_
    refine B_bipush dX5_countsAt_14 k_bi_30 ?_
    refine B_icmp_ge dX5_countsAt_16 hM (tgt := 37) rfl (fun hM => ?_) (fun hM => ?_)
    · refine B_iload_n dX5_countsAt_37 rfl ?_
      exact B_iret ⟨_, rfl, hM⟩ trivial dX5_countsAt_38
    · refine B_iload_n dX5_countsAt_19 rfl ?_
      refine B_aload_n dX5_countsAt_20 rfl ?_
      refine B_getR (tb_0 hb) vc_5 (k := 3) (j := (b + 3)) rfl (by decide) inG5 ⟨rfl, rfl, rfl⟩ ww_fl_X5_22 dX5_countsAt_21 ?_
      refine B_iload_n dX5_countsAt_24 rfl ?_
      refine B_iload dX5_countsAt_25 rfl ?_
      refine B_iadd dX5_countsAt_27 ?_
      refine B_iald (tb_3 hb) hM dX5_countsAt_28 (fun hM => ?_)
      refine B_iadd dX5_countsAt_29 ?_
      refine B_istore_n dX5_countsAt_30 (Nat.le_of_ble_eq_true rfl) ?_
      refine B_iinc dX5_countsAt_31 rfl k_ic_1 (Nat.le_of_ble_eq_true rfl) ?_
      refine B_goto (tgt := 12) dX5_countsAt_34 rfl ?_
      exact B_wk (hr12 _ _ _ _ hM) (wk_1 (wk_0 (wk_1 (wk_1 (wk_1 wk_n)))))
def P_X5_countsAt (F : Nat) (b : Nat) (a1 : Int32) (h : AH) (K : Int32 → AH → Prop) : Prop := X5_countsAt_c12 F b K F (nI 0) ((a1 * (nI 6)) * (nI 5)) (nI 0) h
set_option maxHeartbeats 4000000 in
theorem c_X5_countsAt {l : Launch} {d : Nat} {F : Nat} {b : Nat} {a1 : Int32} {h : AH} {K : Int32 → AH → Prop} (hd : 0 ≤ d) (hb : isTbl b) (hM : P_X5_countsAt F b a1 h K) : Ct l yX5_countsAt cX5_countsAt 5 (some .int) (rmD d) [.ref b, .int a1] h (Qi K) := by
  refine Ct_ofBW (by decide) rfl (Nat.le_of_ble_eq_true rfl) ⟨rfl, rfl⟩ ?_
  show BW RX5 cX5_countsAt 5 (some .int) l (rmD d) tb0 3 [.ref b, .int a1, .null, .null, .null] [] 0 h (Qi K)
  unfold P_X5_countsAt at hM
  refine B_iconst dX5_countsAt_0 k_ic_0 ?_
  refine B_istore_n dX5_countsAt_1 (Nat.le_of_ble_eq_true rfl) ?_
  refine B_iload_n dX5_countsAt_2 rfl ?_
  refine B_bipush dX5_countsAt_3 k_bi_6 ?_
  refine B_imul dX5_countsAt_5 ?_
  refine B_iconst dX5_countsAt_6 k_ic_5 ?_
  refine B_imul dX5_countsAt_7 ?_
  refine B_istore_n dX5_countsAt_8 (Nat.le_of_ble_eq_true rfl) ?_
  refine B_iconst dX5_countsAt_9 k_ic_0 ?_
  refine B_istore dX5_countsAt_10 (Nat.le_of_ble_eq_true rfl) ?_
  exact B_wk (bw_X5_countsAt_c12 hd hb  _ _ _ _ _ hM) (wk_1 (wk_0 (wk_1 (wk_1 (wk_1 wk_n)))))

def X5_allCounts_c4 (F : Nat) (b : Nat) (K : Int32 → AH → Prop) (n : Nat) : Int32 → Int32 → AH → Prop := Nat.rec (motive := fun _ => Int32 → Int32 → AH → Prop) (fun _ _ _ => False) (fun _ rc4 x1 x2 h => if (h b 0) ≤ x2 then (K x1 h) else (P_X5_countsAt F b x2 h (fun (r2 : Int32) (h1 : AH) => rc4 (x1 + r2) (x2 + (nI 1)) h1))) n
theorem X5_allCounts_c4_s {F : Nat} {b : Nat} {K : Int32 → AH → Prop} {n : Nat} {x1 : Int32} {x2 : Int32} {h : AH} : X5_allCounts_c4 F b K (n + 1) x1 x2 h = (if (h b 0) ≤ x2 then (K x1 h) else (P_X5_countsAt F b x2 h (fun (r2 : Int32) (h1 : AH) => (X5_allCounts_c4 F b K n) (x1 + r2) (x2 + (nI 1)) h1))) := rfl
set_option maxHeartbeats 4000000 in
theorem bw_X5_allCounts_c4 {l : Launch} {d : Nat} {F : Nat} {b : Nat} {K : Int32 → AH → Prop} (hd : 1 ≤ d) (hb : isTbl b) : ∀ (n : Nat) (x1 : Int32) (x2 : Int32) (h : AH), X5_allCounts_c4 F b K n x1 x2 h → BW RX5 cX5_allCounts 3 (some .int) l (rmD d) tb0 3 [.ref b, .int x1, .int x2] [] 4 h (Qi K) := by
  have hk1 : 1 ≤ d := by omega
  have hk_X5_countsAt : 0 ≤ d - 1 := by omega
  intro n
  induction n with
  | zero =>
    intro x1 x2 h hM
    exact hM.elim
  | succ n hr4 =>
    intro x1 x2 h hM
    rw [X5_allCounts_c4_s] at hM
    refine B_iload_n dX5_allCounts_4 rfl ?_
    refine B_aload_n dX5_allCounts_5 rfl ?_
    refine B_getI (tb_0 hb) vc_5 (k := 0) rfl (by decide) inG5 ⟨rfl, rfl, rfl⟩ ww_fl_X5_9 dX5_allCounts_6 ?_
    refine B_icmp_ge dX5_allCounts_9 hM (tgt := 26) rfl (fun hM => ?_) (fun hM => ?_)
    · refine B_iload_n dX5_allCounts_26 rfl ?_
      exact B_iret ⟨_, rfl, hM⟩ trivial dX5_allCounts_27
    · refine B_iload_n dX5_allCounts_12 rfl ?_
      refine B_aload_n dX5_allCounts_13 rfl ?_
      refine B_iload_n dX5_allCounts_14 rfl ?_
      refine B_cV1i (c_X5_countsAt (d := d - 1) hk_X5_countsAt hb hM) csV_X5_71 (tb_0 hb) vc_5 rfl hp0 (rm_f hk1) (rm_l hk1 (by decide)) (Nat.le_of_ble_eq_true rfl) dX5_allCounts_15 (fun r2 h1 hM => ?_)
      refine B_iadd dX5_allCounts_18 ?_
      refine B_istore_n dX5_allCounts_19 (Nat.le_of_ble_eq_true rfl) ?_
      refine B_iinc dX5_allCounts_20 rfl k_ic_1 (Nat.le_of_ble_eq_true rfl) ?_
      refine B_goto (tgt := 4) dX5_allCounts_23 rfl ?_
      exact B_wk (hr4 _ _ _ hM) (wk_1 (wk_1 (wk_1 wk_n)))
def P_X5_allCounts (F : Nat) (b : Nat) (h : AH) (K : Int32 → AH → Prop) : Prop := X5_allCounts_c4 F b K F (nI 0) (nI 0) h
set_option maxHeartbeats 4000000 in
theorem c_X5_allCounts {l : Launch} {d : Nat} {F : Nat} {b : Nat} {h : AH} {K : Int32 → AH → Prop} (hd : 1 ≤ d) (hb : isTbl b) (hM : P_X5_allCounts F b h K) : Ct l yX5_allCounts cX5_allCounts 3 (some .int) (rmD d) [.ref b] h (Qi K) := by
  have hk1 : 1 ≤ d := by omega
  have hk_X5_countsAt : 0 ≤ d - 1 := by omega
  refine Ct_ofBW (by decide) rfl (Nat.le_of_ble_eq_true rfl) ⟨rfl, rfl⟩ ?_
  show BW RX5 cX5_allCounts 3 (some .int) l (rmD d) tb0 3 [.ref b, .null, .null] [] 0 h (Qi K)
  unfold P_X5_allCounts at hM
  refine B_iconst dX5_allCounts_0 k_ic_0 ?_
  refine B_istore_n dX5_allCounts_1 (Nat.le_of_ble_eq_true rfl) ?_
  refine B_iconst dX5_allCounts_2 k_ic_0 ?_
  refine B_istore_n dX5_allCounts_3 (Nat.le_of_ble_eq_true rfl) ?_
  exact B_wk (bw_X5_allCounts_c4 hd hb  _ _ _ _ hM) (wk_1 (wk_1 (wk_1 wk_n)))

def X5_asksFor_c31 (F : Nat) (b : Nat) (rc4 : Int32 → Int32 → Int32 → AH → Prop) (K : Int32 → AH → Prop) (x1 : Int32) (x2 : Int32) (x3 : Int32) (h : AH) : Prop := rc4 x1 x2 (x3 + (nI 1)) h
set_option maxHeartbeats 4000000 in
theorem bw_X5_asksFor_c31 {l : Launch} {d : Nat} {F : Nat} {b : Nat} {rc4 : Int32 → Int32 → Int32 → AH → Prop} {K : Int32 → AH → Prop} {x1 : Int32} {x2 : Int32} {x3 : Int32} {h : AH} (hd : 1 ≤ d) (hb : isTbl b) (hr4 : ∀ (x1 : Int32) (x2 : Int32) (x3 : Int32) (h : AH), rc4 x1 x2 x3 h → BW RX5 cX5_asksFor 4 (some .int) l (rmD d) tb0 3 [.ref b, .int x1, .int x2, .int x3] [] 4 h (Qi K)) (hM : X5_asksFor_c31 F b rc4 K x1 x2 x3 h) : BW RX5 cX5_asksFor 4 (some .int) l (rmD d) tb0 3 [.ref b, .int x1, .int x2, .int x3] [] 31 h (Qi K) := by
  have hk1 : 1 ≤ d := by omega
  have hk_X5_isWaiting : 0 ≤ d - 1 := by omega
  unfold X5_asksFor_c31 at hM
  refine B_iinc dX5_asksFor_31 rfl k_ic_1 (Nat.le_of_ble_eq_true rfl) ?_
  refine B_goto (tgt := 4) dX5_asksFor_34 rfl ?_
  exact B_wk (hr4 _ _ _ _ hM) (wk_1 (wk_1 (wk_1 (wk_1 wk_n))))
def X5_asksFor_c4 (F : Nat) (b : Nat) (K : Int32 → AH → Prop) (n : Nat) : Int32 → Int32 → Int32 → AH → Prop := Nat.rec (motive := fun _ => Int32 → Int32 → Int32 → AH → Prop) (fun _ _ _ _ => False) (fun _ rc4 x1 x2 x3 h => if (nI 6) ≤ x3 then (K x2 h) else (P_X5_isWaiting F b x3 h (fun (r2 : Int32) (h1 : AH) => if r2 = (nI 0) then (X5_asksFor_c31 F b rc4 K x1 x2 x3 h1) else (vp_in x3 6 ∧ (if ¬ (h1 (b + 6) x3.toNatClampNeg) = x1 then (X5_asksFor_c31 F b rc4 K x1 x2 x3 h1) else (X5_asksFor_c31 F b rc4 K x1 (x2 + (nI 1)) x3 h1)))))) n
theorem X5_asksFor_c4_s {F : Nat} {b : Nat} {K : Int32 → AH → Prop} {n : Nat} {x1 : Int32} {x2 : Int32} {x3 : Int32} {h : AH} : X5_asksFor_c4 F b K (n + 1) x1 x2 x3 h = (if (nI 6) ≤ x3 then (K x2 h) else (P_X5_isWaiting F b x3 h (fun (r2 : Int32) (h1 : AH) => if r2 = (nI 0) then (X5_asksFor_c31 F b (X5_asksFor_c4 F b K n) K x1 x2 x3 h1) else (vp_in x3 6 ∧ (if ¬ (h1 (b + 6) x3.toNatClampNeg) = x1 then (X5_asksFor_c31 F b (X5_asksFor_c4 F b K n) K x1 x2 x3 h1) else (X5_asksFor_c31 F b (X5_asksFor_c4 F b K n) K x1 (x2 + (nI 1)) x3 h1)))))) := rfl
set_option maxHeartbeats 4000000 in
theorem bw_X5_asksFor_c4 {l : Launch} {d : Nat} {F : Nat} {b : Nat} {K : Int32 → AH → Prop} (hd : 1 ≤ d) (hb : isTbl b) : ∀ (n : Nat) (x1 : Int32) (x2 : Int32) (x3 : Int32) (h : AH), X5_asksFor_c4 F b K n x1 x2 x3 h → BW RX5 cX5_asksFor 4 (some .int) l (rmD d) tb0 3 [.ref b, .int x1, .int x2, .int x3] [] 4 h (Qi K) := by
  have hk1 : 1 ≤ d := by omega
  have hk_X5_isWaiting : 0 ≤ d - 1 := by omega
  intro n
  induction n with
  | zero =>
    intro x1 x2 x3 h hM
    exact hM.elim
  | succ n hr4 =>
    intro x1 x2 x3 h hM
    rw [X5_asksFor_c4_s] at hM
    refine B_iload_n dX5_asksFor_4 rfl ?_
    refine B_bipush dX5_asksFor_5 k_bi_6 ?_
    refine B_icmp_ge dX5_asksFor_7 hM (tgt := 37) rfl (fun hM => ?_) (fun hM => ?_)
    · refine B_iload_n dX5_asksFor_37 rfl ?_
      exact B_iret ⟨_, rfl, hM⟩ trivial dX5_asksFor_38
    · refine B_aload_n dX5_asksFor_10 rfl ?_
      refine B_iload_n dX5_asksFor_11 rfl ?_
      refine B_cV1i (c_X5_isWaiting (d := d - 1) hk_X5_isWaiting hb hM) csV_X5_75 (tb_0 hb) vc_5 rfl hp0 (rm_f hk1) (rm_l hk1 (by decide)) (Nat.le_of_ble_eq_true rfl) dX5_asksFor_12 (fun r2 h1 hM => ?_)
      refine B_if_eq dX5_asksFor_15 hM (tgt := 31) rfl (fun hM => ?_) (fun hM => ?_)
      · exact B_wk (bw_X5_asksFor_c31 hd hb hr4 hM) (wk_1 (wk_1 (wk_1 (wk_1 wk_n))))
      · refine B_aload_n dX5_asksFor_18 rfl ?_
        refine B_getR (tb_0 hb) vc_5 (k := 7) (j := (b + 6)) rfl (by decide) inG5 ⟨rfl, rfl, rfl⟩ ww_fl_X5_34 dX5_asksFor_19 ?_
        refine B_iload_n dX5_asksFor_22 rfl ?_
        refine B_iald (tb_6 hb) hM dX5_asksFor_23 (fun hM => ?_)
        refine B_iload_n dX5_asksFor_24 rfl ?_
        refine B_icmp_ne dX5_asksFor_25 hM (tgt := 31) rfl (fun hM => ?_) (fun hM => ?_)
        · exact B_wk (bw_X5_asksFor_c31 hd hb hr4 hM) (wk_1 (wk_1 (wk_1 (wk_1 wk_n))))
        · refine B_iinc dX5_asksFor_28 rfl k_ic_1 (Nat.le_of_ble_eq_true rfl) ?_
          exact B_wk (bw_X5_asksFor_c31 hd hb hr4 hM) (wk_1 (wk_1 (wk_1 (wk_1 wk_n))))
def P_X5_asksFor (F : Nat) (b : Nat) (a1 : Int32) (h : AH) (K : Int32 → AH → Prop) : Prop := X5_asksFor_c4 F b K F a1 (nI 0) (nI 0) h
set_option maxHeartbeats 4000000 in
theorem c_X5_asksFor {l : Launch} {d : Nat} {F : Nat} {b : Nat} {a1 : Int32} {h : AH} {K : Int32 → AH → Prop} (hd : 1 ≤ d) (hb : isTbl b) (hM : P_X5_asksFor F b a1 h K) : Ct l yX5_asksFor cX5_asksFor 4 (some .int) (rmD d) [.ref b, .int a1] h (Qi K) := by
  have hk1 : 1 ≤ d := by omega
  have hk_X5_isWaiting : 0 ≤ d - 1 := by omega
  refine Ct_ofBW (by decide) rfl (Nat.le_of_ble_eq_true rfl) ⟨rfl, rfl⟩ ?_
  show BW RX5 cX5_asksFor 4 (some .int) l (rmD d) tb0 3 [.ref b, .int a1, .null, .null] [] 0 h (Qi K)
  unfold P_X5_asksFor at hM
  refine B_iconst dX5_asksFor_0 k_ic_0 ?_
  refine B_istore_n dX5_asksFor_1 (Nat.le_of_ble_eq_true rfl) ?_
  refine B_iconst dX5_asksFor_2 k_ic_0 ?_
  refine B_istore_n dX5_asksFor_3 (Nat.le_of_ble_eq_true rfl) ?_
  exact B_wk (bw_X5_asksFor_c4 hd hb  _ _ _ _ _ hM) (wk_1 (wk_1 (wk_1 (wk_1 wk_n))))

def X5_holdersInAny_c4 (F : Nat) (b : Nat) (K : Int32 → AH → Prop) (n : Nat) : Int32 → Int32 → Int32 → AH → Prop := Nat.rec (motive := fun _ => Int32 → Int32 → Int32 → AH → Prop) (fun _ _ _ _ => False) (fun _ rc4 x1 x2 x3 h => if (nI 5) < x3 then (K x2 h) else (P_X5_row F x1 x3 h (fun (r2 : Int32) (h1 : AH) => vp_in r2 60 ∧ (rc4 x1 (x2 ||| (h1 (b + 4) r2.toNatClampNeg)) (x3 + (nI 1)) h1)))) n
theorem X5_holdersInAny_c4_s {F : Nat} {b : Nat} {K : Int32 → AH → Prop} {n : Nat} {x1 : Int32} {x2 : Int32} {x3 : Int32} {h : AH} : X5_holdersInAny_c4 F b K (n + 1) x1 x2 x3 h = (if (nI 5) < x3 then (K x2 h) else (P_X5_row F x1 x3 h (fun (r2 : Int32) (h1 : AH) => vp_in r2 60 ∧ ((X5_holdersInAny_c4 F b K n) x1 (x2 ||| (h1 (b + 4) r2.toNatClampNeg)) (x3 + (nI 1)) h1)))) := rfl
set_option maxHeartbeats 4000000 in
theorem bw_X5_holdersInAny_c4 {l : Launch} {d : Nat} {F : Nat} {b : Nat} {K : Int32 → AH → Prop} (hd : 1 ≤ d) (hb : isTbl b) : ∀ (n : Nat) (x1 : Int32) (x2 : Int32) (x3 : Int32) (h : AH), X5_holdersInAny_c4 F b K n x1 x2 x3 h → BW RX5 cX5_holdersInAny 4 (some .int) l (rmD d) tb0 3 [.ref b, .int x1, .int x2, .int x3] [] 4 h (Qi K) := by
  have hk1 : 1 ≤ d := by omega
  have hk_X5_row : 0 ≤ d - 1 := by omega
  intro n
  induction n with
  | zero =>
    intro x1 x2 x3 h hM
    exact hM.elim
  | succ n hr4 =>
    intro x1 x2 x3 h hM
    rw [X5_holdersInAny_c4_s] at hM
    refine B_iload_n dX5_holdersInAny_4 rfl ?_
    refine B_iconst dX5_holdersInAny_5 k_ic_5 ?_
    refine B_icmp_gt dX5_holdersInAny_6 hM (tgt := 28) rfl (fun hM => ?_) (fun hM => ?_)
    · refine B_iload_n dX5_holdersInAny_28 rfl ?_
      exact B_iret ⟨_, rfl, hM⟩ trivial dX5_holdersInAny_29
    · refine B_iload_n dX5_holdersInAny_9 rfl ?_
      refine B_aload_n dX5_holdersInAny_10 rfl ?_
      refine B_getR (tb_0 hb) vc_5 (k := 4) (j := (b + 4)) rfl (by decide) inG5 ⟨rfl, rfl, rfl⟩ ww_fl_X5_25 dX5_holdersInAny_11 ?_
      refine B_iload_n dX5_holdersInAny_14 rfl ?_
      refine B_iload_n dX5_holdersInAny_15 rfl ?_
      refine B_cS2i (c_X5_row (d := d - 1) hk_X5_row  hM) csS_X5_78 hp0 (rm_f hk1) (rm_l hk1 (by decide)) (Nat.le_of_ble_eq_true rfl) dX5_holdersInAny_16 (fun r2 h1 hM => ?_)
      refine B_iald (tb_4 hb) hM dX5_holdersInAny_19 (fun hM => ?_)
      refine B_ior dX5_holdersInAny_20 ?_
      refine B_istore_n dX5_holdersInAny_21 (Nat.le_of_ble_eq_true rfl) ?_
      refine B_iinc dX5_holdersInAny_22 rfl k_ic_1 (Nat.le_of_ble_eq_true rfl) ?_
      refine B_goto (tgt := 4) dX5_holdersInAny_25 rfl ?_
      exact B_wk (hr4 _ _ _ _ hM) (wk_1 (wk_1 (wk_1 (wk_1 wk_n))))
def P_X5_holdersInAny (F : Nat) (b : Nat) (a1 : Int32) (h : AH) (K : Int32 → AH → Prop) : Prop := X5_holdersInAny_c4 F b K F a1 (nI 0) (nI 1) h
set_option maxHeartbeats 4000000 in
theorem c_X5_holdersInAny {l : Launch} {d : Nat} {F : Nat} {b : Nat} {a1 : Int32} {h : AH} {K : Int32 → AH → Prop} (hd : 1 ≤ d) (hb : isTbl b) (hM : P_X5_holdersInAny F b a1 h K) : Ct l yX5_holdersInAny cX5_holdersInAny 4 (some .int) (rmD d) [.ref b, .int a1] h (Qi K) := by
  have hk1 : 1 ≤ d := by omega
  have hk_X5_row : 0 ≤ d - 1 := by omega
  refine Ct_ofBW (by decide) rfl (Nat.le_of_ble_eq_true rfl) ⟨rfl, rfl⟩ ?_
  show BW RX5 cX5_holdersInAny 4 (some .int) l (rmD d) tb0 3 [.ref b, .int a1, .null, .null] [] 0 h (Qi K)
  unfold P_X5_holdersInAny at hM
  refine B_iconst dX5_holdersInAny_0 k_ic_0 ?_
  refine B_istore_n dX5_holdersInAny_1 (Nat.le_of_ble_eq_true rfl) ?_
  refine B_iconst dX5_holdersInAny_2 k_ic_1 ?_
  refine B_istore_n dX5_holdersInAny_3 (Nat.le_of_ble_eq_true rfl) ?_
  exact B_wk (bw_X5_holdersInAny_c4 hd hb  _ _ _ _ _ hM) (wk_1 (wk_1 (wk_1 (wk_1 wk_n))))

def P_X5_giveUp (F : Nat) (b : Nat) (a1 : Int32) (a2 : Int32) (a3 : Int32) (h : AH) (K : Int32 → AH → Prop) : Prop := P_X5_isAsk F b a1 a2 a3 h (fun (r2 : Int32) (h1 : AH) => if ¬ r2 = (nI 0) then (P_X5_cell F a1 a2 a3 h1 (fun (r4 : Int32) (h3 : AH) => vp_in r4 360 ∧ (if ¬ (h3 (b + 3) r4.toNatClampNeg) = (nI 0) then (P_X5_shiftCounts F b a1 a2 a3 (-1 : Int32) h3 (fun (h5 : AH) => P_X5_serve F b h5 (fun (r7 : Int32) (h6 : AH) => K r7 h6))) else (K (-5 : Int32) h3)))) else (K (-1 : Int32) h1))
set_option maxHeartbeats 4000000 in
theorem c_X5_giveUp {l : Launch} {d : Nat} {F : Nat} {b : Nat} {a1 : Int32} {a2 : Int32} {a3 : Int32} {h : AH} {K : Int32 → AH → Prop} (hd : 4 ≤ d) (hb : isTbl b) (hM : P_X5_giveUp F b a1 a2 a3 h K) : Ct l yX5_giveUp cX5_giveUp 4 (some .int) (rmD d) [.ref b, .int a1, .int a2, .int a3] h (Qi K) := by
  have hk1 : 1 ≤ d := by omega
  have hk_X5_cell : 0 ≤ d - 1 := by omega
  have hk_X5_isAsk : 1 ≤ d - 1 := by omega
  have hk_X5_serve : 3 ≤ d - 1 := by omega
  have hk_X5_shiftCounts : 1 ≤ d - 1 := by omega
  refine Ct_ofBW (by decide) rfl (Nat.le_of_ble_eq_true rfl) ⟨rfl, rfl⟩ ?_
  show BW RX5 cX5_giveUp 4 (some .int) l (rmD d) tb0 3 [.ref b, .int a1, .int a2, .int a3] [] 0 h (Qi K)
  unfold P_X5_giveUp at hM
  refine B_aload_n dX5_giveUp_0 rfl ?_
  refine B_iload_n dX5_giveUp_1 rfl ?_
  refine B_iload_n dX5_giveUp_2 rfl ?_
  refine B_iload_n dX5_giveUp_3 rfl ?_
  refine B_cV3i (c_X5_isAsk (d := d - 1) hk_X5_isAsk hb hM) csV_X5_99 (tb_0 hb) vc_5 rfl hp0 (rm_f hk1) (rm_l hk1 (by decide)) (Nat.le_of_ble_eq_true rfl) dX5_giveUp_4 (fun r2 h1 hM => ?_)
  refine B_if_ne dX5_giveUp_7 hM (tgt := 12) rfl (fun hM => ?_) (fun hM => ?_)
  · refine B_aload_n dX5_giveUp_12 rfl ?_
    refine B_getR (tb_0 hb) vc_5 (k := 3) (j := (b + 3)) rfl (by decide) inG5 ⟨rfl, rfl, rfl⟩ ww_fl_X5_22 dX5_giveUp_13 ?_
    refine B_iload_n dX5_giveUp_16 rfl ?_
    refine B_iload_n dX5_giveUp_17 rfl ?_
    refine B_iload_n dX5_giveUp_18 rfl ?_
    refine B_cS3i (c_X5_cell (d := d - 1) hk_X5_cell  hM) csS_X5_116 hp0 (rm_f hk1) (rm_l hk1 (by decide)) (Nat.le_of_ble_eq_true rfl) dX5_giveUp_19 (fun r4 h3 hM => ?_)
    refine B_iald (tb_3 hb) hM dX5_giveUp_22 (fun hM => ?_)
    refine B_if_ne dX5_giveUp_23 hM (tgt := 29) rfl (fun hM => ?_) (fun hM => ?_)
    · refine B_aload_n dX5_giveUp_29 rfl ?_
      refine B_iload_n dX5_giveUp_30 rfl ?_
      refine B_iload_n dX5_giveUp_31 rfl ?_
      refine B_iload_n dX5_giveUp_32 rfl ?_
      refine B_iconst dX5_giveUp_33 k_ic_m1 ?_
      refine B_cV4v (c_X5_shiftCounts (d := d - 1) hk_X5_shiftCounts hb hM) csV_X5_119 (tb_0 hb) vc_5 rfl hp0 (rm_f hk1) (rm_l hk1 (by decide)) (Nat.le_of_ble_eq_true rfl) dX5_giveUp_34 (fun h5 hM => ?_)
      refine B_aload_n dX5_giveUp_37 rfl ?_
      refine B_cV0i (c_X5_serve (d := d - 1) hk_X5_serve hb hM) csV_X5_123 (tb_0 hb) vc_5 rfl hp0 (rm_f hk1) (rm_l hk1 (by decide)) (Nat.le_of_ble_eq_true rfl) dX5_giveUp_38 (fun r7 h6 hM => ?_)
      exact B_iret ⟨_, rfl, hM⟩ trivial dX5_giveUp_41
    · refine B_bipush dX5_giveUp_26 k_bi_m5 ?_
      exact B_iret ⟨_, rfl, hM⟩ trivial dX5_giveUp_28
  · refine B_iconst dX5_giveUp_10 k_ic_m1 ?_
    exact B_iret ⟨_, rfl, hM⟩ trivial dX5_giveUp_11
