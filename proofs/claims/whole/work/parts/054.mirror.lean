def P_X8_isAsked (F : Nat) (a1 : Int32) (h : AH) (K : Int32 → AH → Prop) : Prop := if a1 = (nI 2) then (K (nI 1) h) else (if a1 = (nI 4) then (K (nI 1) h) else (if ¬ a1 = (nI 5) then (K (nI 0) h) else (K (nI 1) h)))
set_option maxHeartbeats 4000000 in
theorem c_X8_isAsked {l : Launch} {d : Nat} {F : Nat} {a1 : Int32} {h : AH} {K : Int32 → AH → Prop} (hd : 0 ≤ d) (hM : P_X8_isAsked F a1 h K) : Ct l yX8_isAsked cX8_isAsked 1 (some .boolean) (rmD d) [.int a1] h (Qi K) := by
  refine Ct_ofBW (by decide) rfl (Nat.le_of_ble_eq_true rfl) ⟨rfl, rfl⟩ ?_
  show BW RX8 cX8_isAsked 1 (some .boolean) l (rmD d) tb0 3 [.int a1] [] 0 h (Qi K)
  unfold P_X8_isAsked at hM
  refine B_iload_n dX8_isAsked_0 rfl ?_
  refine B_iconst dX8_isAsked_1 k_ic_2 ?_
  refine B_icmp_eq dX8_isAsked_2 hM (tgt := 15) rfl (fun hM => ?_) (fun hM => ?_)
  · refine B_iconst dX8_isAsked_15 k_ic_1 ?_
    refine B_goto (tgt := 20) dX8_isAsked_16 rfl ?_
    exact B_iret ⟨_, rfl, hM⟩ zB_1 dX8_isAsked_20
  · refine B_iload_n dX8_isAsked_5 rfl ?_
    refine B_iconst dX8_isAsked_6 k_ic_4 ?_
    refine B_icmp_eq dX8_isAsked_7 hM (tgt := 15) rfl (fun hM => ?_) (fun hM => ?_)
    · refine B_iconst dX8_isAsked_15 k_ic_1 ?_
      refine B_goto (tgt := 20) dX8_isAsked_16 rfl ?_
      exact B_iret ⟨_, rfl, hM⟩ zB_1 dX8_isAsked_20
    · refine B_iload_n dX8_isAsked_10 rfl ?_
      refine B_iconst dX8_isAsked_11 k_ic_5 ?_
      refine B_icmp_ne dX8_isAsked_12 hM (tgt := 19) rfl (fun hM => ?_) (fun hM => ?_)
      · refine B_iconst dX8_isAsked_19 k_ic_0 ?_
        exact B_iret ⟨_, rfl, hM⟩ zB_0 dX8_isAsked_20
      · refine B_iconst dX8_isAsked_15 k_ic_1 ?_
        refine B_goto (tgt := 20) dX8_isAsked_16 rfl ?_
        exact B_iret ⟨_, rfl, hM⟩ zB_1 dX8_isAsked_20

def P_X8_isAsk (F : Nat) (a1 : Int32) (a2 : Int32) (a3 : Int32) (h : AH) (K : Int32 → AH → Prop) : Prop := P_X8_isOwner F a1 h (fun (r2 : Int32) (h1 : AH) => if r2 = (nI 0) then (K (nI 0) h1) else (P_X8_isThing F a2 h1 (fun (r4 : Int32) (h3 : AH) => if r4 = (nI 0) then (K (nI 0) h3) else (P_X8_isAsked F a3 h3 (fun (r6 : Int32) (h5 : AH) => if r6 = (nI 0) then (K (nI 0) h5) else (K (nI 1) h5))))))
set_option maxHeartbeats 4000000 in
theorem c_X8_isAsk {l : Launch} {d : Nat} {F : Nat} {a1 : Int32} {a2 : Int32} {a3 : Int32} {h : AH} {K : Int32 → AH → Prop} (hd : 2 ≤ d) (hM : P_X8_isAsk F a1 a2 a3 h K) : Ct l yX8_isAsk cX8_isAsk 4 (some .boolean) (rmD d) [.ref 56, .int a1, .int a2, .int a3] h (Qi K) := by
  have hk1 : 1 ≤ d := by omega
  have hk_X8_isAsked : 0 ≤ d - 1 := by omega
  have hk_X8_isOwner : 1 ≤ d - 1 := by omega
  have hk_X8_isThing : 1 ≤ d - 1 := by omega
  refine Ct_ofBW (by decide) rfl (Nat.le_of_ble_eq_true rfl) ⟨rfl, rfl⟩ ?_
  show BW RX8 cX8_isAsk 4 (some .boolean) l (rmD d) tb0 3 [.ref 56, .int a1, .int a2, .int a3] [] 0 h (Qi K)
  unfold P_X8_isAsk at hM
  refine B_iload_n dX8_isAsk_0 rfl ?_
  refine B_cS1i (c_X8_isOwner (d := d - 1) hk_X8_isOwner  hM) csS_X8_66 hp0 (rm_f hk1) (rm_l hk1 (by decide)) (Nat.le_of_ble_eq_true rfl) dX8_isAsk_1 (fun r2 h1 hM => ?_)
  refine B_if_eq dX8_isAsk_4 hM (tgt := 26) rfl (fun hM => ?_) (fun hM => ?_)
  · refine B_iconst dX8_isAsk_26 k_ic_0 ?_
    exact B_iret ⟨_, rfl, hM⟩ zB_0 dX8_isAsk_27
  · refine B_aload_n dX8_isAsk_7 rfl ?_
    refine B_iload_n dX8_isAsk_8 rfl ?_
    refine B_cV1i (c_X8_isThing (d := d - 1) hk_X8_isThing  hM) csV_X8_70 (sc_56) vc_8 rfl hp0 (rm_f hk1) (rm_l hk1 (by decide)) (Nat.le_of_ble_eq_true rfl) dX8_isAsk_9 (fun r4 h3 hM => ?_)
    refine B_if_eq dX8_isAsk_12 hM (tgt := 26) rfl (fun hM => ?_) (fun hM => ?_)
    · refine B_iconst dX8_isAsk_26 k_ic_0 ?_
      exact B_iret ⟨_, rfl, hM⟩ zB_0 dX8_isAsk_27
    · refine B_iload_n dX8_isAsk_15 rfl ?_
      refine B_cS1i (c_X8_isAsked (d := d - 1) hk_X8_isAsked  hM) csS_X8_73 hp0 (rm_f hk1) (rm_l hk1 (by decide)) (Nat.le_of_ble_eq_true rfl) dX8_isAsk_16 (fun r6 h5 hM => ?_)
      refine B_if_eq dX8_isAsk_19 hM (tgt := 26) rfl (fun hM => ?_) (fun hM => ?_)
      · refine B_iconst dX8_isAsk_26 k_ic_0 ?_
        exact B_iret ⟨_, rfl, hM⟩ zB_0 dX8_isAsk_27
      · refine B_iconst dX8_isAsk_22 k_ic_1 ?_
        refine B_goto (tgt := 27) dX8_isAsk_23 rfl ?_
        exact B_iret ⟨_, rfl, hM⟩ zB_1 dX8_isAsk_27

def P_X8_at (F : Nat) (a1 : Int32) (a2 : Int32) (a3 : Int32) (h : AH) (K : Int32 → AH → Prop) : Prop := K ((((nI 81) + (((a1 * (nI 12)) + a2) * (nI 5))) + a3) - (nI 1)) h
set_option maxHeartbeats 4000000 in
theorem c_X8_at {l : Launch} {d : Nat} {F : Nat} {a1 : Int32} {a2 : Int32} {a3 : Int32} {h : AH} {K : Int32 → AH → Prop} (hd : 0 ≤ d) (hM : P_X8_at F a1 a2 a3 h K) : Ct l yX8_at cX8_at 3 (some .int) (rmD d) [.int a1, .int a2, .int a3] h (Qi K) := by
  refine Ct_ofBW (by decide) rfl (Nat.le_of_ble_eq_true rfl) ⟨rfl, rfl⟩ ?_
  show BW RX8 cX8_at 3 (some .int) l (rmD d) tb0 3 [.int a1, .int a2, .int a3] [] 0 h (Qi K)
  unfold P_X8_at at hM
  refine B_bipush dX8_at_0 k_bi_81 ?_
  refine B_iload_n dX8_at_2 rfl ?_
  refine B_bipush dX8_at_3 k_bi_12 ?_
  refine B_imul dX8_at_5 ?_
  refine B_iload_n dX8_at_6 rfl ?_
  refine B_iadd dX8_at_7 ?_
  refine B_iconst dX8_at_8 k_ic_5 ?_
  refine B_imul dX8_at_9 ?_
  refine B_iadd dX8_at_10 ?_
  refine B_iload_n dX8_at_11 rfl ?_
  refine B_iadd dX8_at_12 ?_
  refine B_iconst dX8_at_13 k_ic_1 ?_
  refine B_isub dX8_at_14 ?_
  exact B_iret ⟨_, rfl, hM⟩ trivial dX8_at_15

def P_X8_together (F : Nat) (a1 : Int32) (h : AH) (K : Int32 → AH → Prop) : Prop := if ¬ a1 = (nI 1) then (if ¬ a1 = (nI 2) then (if ¬ a1 = (nI 3) then (if ¬ a1 = (nI 4) then (K (nI 0) h) else (K (nI 6) h)) else (K (nI 10) h)) else (K (nI 22) h)) else (K (nI 30) h)
set_option maxHeartbeats 4000000 in
theorem c_X8_together {l : Launch} {d : Nat} {F : Nat} {a1 : Int32} {h : AH} {K : Int32 → AH → Prop} (hd : 0 ≤ d) (hM : P_X8_together F a1 h K) : Ct l yX8_together cX8_together 1 (some .int) (rmD d) [.int a1] h (Qi K) := by
  refine Ct_ofBW (by decide) rfl (Nat.le_of_ble_eq_true rfl) ⟨rfl, rfl⟩ ?_
  show BW RX8 cX8_together 1 (some .int) l (rmD d) tb0 3 [.int a1] [] 0 h (Qi K)
  unfold P_X8_together at hM
  refine B_iload_n dX8_together_0 rfl ?_
  refine B_iconst dX8_together_1 k_ic_1 ?_
  refine B_icmp_ne dX8_together_2 hM (tgt := 10) rfl (fun hM => ?_) (fun hM => ?_)
  · refine B_iload_n dX8_together_10 rfl ?_
    refine B_iconst dX8_together_11 k_ic_2 ?_
    refine B_icmp_ne dX8_together_12 hM (tgt := 20) rfl (fun hM => ?_) (fun hM => ?_)
    · refine B_iload_n dX8_together_20 rfl ?_
      refine B_iconst dX8_together_21 k_ic_3 ?_
      refine B_icmp_ne dX8_together_22 hM (tgt := 30) rfl (fun hM => ?_) (fun hM => ?_)
      · refine B_iload_n dX8_together_30 rfl ?_
        refine B_iconst dX8_together_31 k_ic_4 ?_
        refine B_icmp_ne dX8_together_32 hM (tgt := 40) rfl (fun hM => ?_) (fun hM => ?_)
        · refine B_iconst dX8_together_40 k_ic_0 ?_
          exact B_iret ⟨_, rfl, hM⟩ trivial dX8_together_41
        · refine B_bipush dX8_together_35 k_bi_6 ?_
          refine B_goto (tgt := 41) dX8_together_37 rfl ?_
          exact B_iret ⟨_, rfl, hM⟩ trivial dX8_together_41
      · refine B_bipush dX8_together_25 k_bi_10 ?_
        refine B_goto (tgt := 41) dX8_together_27 rfl ?_
        exact B_iret ⟨_, rfl, hM⟩ trivial dX8_together_41
    · refine B_bipush dX8_together_15 k_bi_22 ?_
      refine B_goto (tgt := 41) dX8_together_17 rfl ?_
      exact B_iret ⟨_, rfl, hM⟩ trivial dX8_together_41
  · refine B_bipush dX8_together_5 k_bi_30 ?_
    refine B_goto (tgt := 41) dX8_together_7 rfl ?_
    exact B_iret ⟨_, rfl, hM⟩ trivial dX8_together_41

def P_X8_goTogether (F : Nat) (a1 : Int32) (a2 : Int32) (h : AH) (K : Int32 → AH → Prop) : Prop := P_X8_together F a1 h (fun (r2 : Int32) (h1 : AH) => P_X8_has F r2 a2 h1 (fun (r4 : Int32) (h3 : AH) => zB r4 ∧ K r4 h3))
set_option maxHeartbeats 4000000 in
theorem c_X8_goTogether {l : Launch} {d : Nat} {F : Nat} {a1 : Int32} {a2 : Int32} {h : AH} {K : Int32 → AH → Prop} (hd : 1 ≤ d) (hM : P_X8_goTogether F a1 a2 h K) : Ct l yX8_goTogether cX8_goTogether 2 (some .boolean) (rmD d) [.int a1, .int a2] h (Qi K) := by
  have hk1 : 1 ≤ d := by omega
  have hk_X8_has : 0 ≤ d - 1 := by omega
  have hk_X8_together : 0 ≤ d - 1 := by omega
  refine Ct_ofBW (by decide) rfl (Nat.le_of_ble_eq_true rfl) ⟨rfl, rfl⟩ ?_
  show BW RX8 cX8_goTogether 2 (some .boolean) l (rmD d) tb0 3 [.int a1, .int a2] [] 0 h (Qi K)
  unfold P_X8_goTogether at hM
  refine B_iload_n dX8_goTogether_0 rfl ?_
  refine B_cS1i (c_X8_together (d := d - 1) hk_X8_together  hM) csS_X8_76 hp0 (rm_f hk1) (rm_l hk1 (by decide)) (Nat.le_of_ble_eq_true rfl) dX8_goTogether_1 (fun r2 h1 hM => ?_)
  refine B_iload_n dX8_goTogether_4 rfl ?_
  refine B_cS2i (c_X8_has (d := d - 1) hk_X8_has  hM) csS_X8_80 hp0 (rm_f hk1) (rm_l hk1 (by decide)) (Nat.le_of_ble_eq_true rfl) dX8_goTogether_5 (fun r4 h3 hM => ?_)
  exact B_iret ⟨_, rfl, hM.2⟩ hM.1 dX8_goTogether_8

def X8_thing_c91 (F : Nat) (rc81 : Int32 → Int32 → AH → Prop) (K : Int32 → AH → Prop) (n : Nat) : Int32 → Int32 → Int32 → AH → Prop := Nat.rec (motive := fun _ => Int32 → Int32 → Int32 → AH → Prop) (fun _ _ _ _ => False) (fun _ rc91 x3 x4 x5 h => if (nI 5) < x5 then (rc81 x3 (x4 + (nI 1)) h) else (P_X8_at F x4 x3 x5 h (fun (r2 : Int32) (h1 : AH) => vp_in r2 441 ∧ ((fun (h3 : AH) => rc91 x3 x4 (x5 + (nI 1)) h3) (up h1 57 r2.toNatClampNeg (nI 0)))))) n
theorem X8_thing_c91_s {F : Nat} {rc81 : Int32 → Int32 → AH → Prop} {K : Int32 → AH → Prop} {n : Nat} {x3 : Int32} {x4 : Int32} {x5 : Int32} {h : AH} : X8_thing_c91 F rc81 K (n + 1) x3 x4 x5 h = (if (nI 5) < x5 then (rc81 x3 (x4 + (nI 1)) h) else (P_X8_at F x4 x3 x5 h (fun (r2 : Int32) (h1 : AH) => vp_in r2 441 ∧ ((fun (h3 : AH) => (X8_thing_c91 F rc81 K n) x3 x4 (x5 + (nI 1)) h3) (up h1 57 r2.toNatClampNeg (nI 0)))))) := rfl
set_option maxHeartbeats 4000000 in
theorem bw_X8_thing_c91 {l : Launch} {d : Nat} {F : Nat} {rc81 : Int32 → Int32 → AH → Prop} {K : Int32 → AH → Prop} (hd : 2 ≤ d) (hr81 : ∀ (x3 : Int32) (x4 : Int32) (h : AH), rc81 x3 x4 h → BW RX8 cX8_thing 6 (some .int) l (rmD d) tb0 3 [.ref 56, .null, .null, .int x3, .int x4, .null] [] 81 h (Qi K)) : ∀ (n : Nat) (x3 : Int32) (x4 : Int32) (x5 : Int32) (h : AH), X8_thing_c91 F rc81 K n x3 x4 x5 h → BW RX8 cX8_thing 6 (some .int) l (rmD d) tb0 3 [.ref 56, .null, .null, .int x3, .int x4, .int x5] [] 91 h (Qi K) := by
  have hk1 : 1 ≤ d := by omega
  have hk_X8_at : 0 ≤ d - 1 := by omega
  have hk_X8_in : 0 ≤ d - 1 := by omega
  have hk_X8_isThing : 1 ≤ d - 1 := by omega
  intro n
  induction n with
  | zero =>
    intro x3 x4 x5 h hM
    exact hM.elim
  | succ n hr91 =>
    intro x3 x4 x5 h hM
    rw [X8_thing_c91_s] at hM
    refine B_iload dX8_thing_91 rfl ?_
    refine B_iconst dX8_thing_93 k_ic_5 ?_
    refine B_icmp_gt dX8_thing_94 hM (tgt := 117) rfl (fun hM => ?_) (fun hM => ?_)
    · refine B_iinc dX8_thing_117 rfl k_ic_1 (Nat.le_of_ble_eq_true rfl) ?_
      refine B_goto (tgt := 81) dX8_thing_120 rfl ?_
      exact B_wk (hr81 _ _ _ hM) (wk_1 (wk_0 (wk_0 (wk_1 (wk_1 (wk_0 wk_n))))))
    · refine B_aload_n dX8_thing_97 rfl ?_
      refine B_getR (sc_56) vc_8 (k := 1) (j := 57) rfl (by decide) inG8 ⟨rfl, rfl, rfl⟩ ww_fl_X8_15 dX8_thing_98 ?_
      refine B_iload dX8_thing_101 rfl ?_
      refine B_iload_n dX8_thing_103 rfl ?_
      refine B_iload dX8_thing_104 rfl ?_
      refine B_cS3i (c_X8_at (d := d - 1) hk_X8_at  hM) csS_X8_84 hp0 (rm_f hk1) (rm_l hk1 (by decide)) (Nat.le_of_ble_eq_true rfl) dX8_thing_106 (fun r2 h1 hM => ?_)
      refine B_iconst dX8_thing_109 k_ic_0 ?_
      refine B_iast (sc_57) hM dX8_thing_110 (fun hM => ?_)
      refine B_iinc dX8_thing_111 rfl k_ic_1 (Nat.le_of_ble_eq_true rfl) ?_
      refine B_goto (tgt := 91) dX8_thing_114 rfl ?_
      exact B_wk (hr91 _ _ _ _ hM) (wk_1 (wk_0 (wk_0 (wk_1 (wk_1 (wk_1 wk_n))))))
def X8_thing_c81 (F : Nat) (K : Int32 → AH → Prop) (n : Nat) : Int32 → Int32 → AH → Prop := Nat.rec (motive := fun _ => Int32 → Int32 → AH → Prop) (fun _ _ _ => False) (fun _ rc81 x3 x4 h => if (nI 6) ≤ x4 then (vp_in (nI 0) 441 ∧ (vp_in (nI 0) 441 ∧ ((fun (h1 : AH) => K x3 h1) (up h 57 (nI 0).toNatClampNeg ((h 57 (nI 0).toNatClampNeg) + (nI 1)))))) else (X8_thing_c91 F rc81 K F x3 x4 (nI 1) h)) n
theorem X8_thing_c81_s {F : Nat} {K : Int32 → AH → Prop} {n : Nat} {x3 : Int32} {x4 : Int32} {h : AH} : X8_thing_c81 F K (n + 1) x3 x4 h = (if (nI 6) ≤ x4 then (vp_in (nI 0) 441 ∧ (vp_in (nI 0) 441 ∧ ((fun (h1 : AH) => K x3 h1) (up h 57 (nI 0).toNatClampNeg ((h 57 (nI 0).toNatClampNeg) + (nI 1)))))) else (X8_thing_c91 F (X8_thing_c81 F K n) K F x3 x4 (nI 1) h)) := rfl
set_option maxHeartbeats 4000000 in
theorem bw_X8_thing_c81 {l : Launch} {d : Nat} {F : Nat} {K : Int32 → AH → Prop} (hd : 2 ≤ d) : ∀ (n : Nat) (x3 : Int32) (x4 : Int32) (h : AH), X8_thing_c81 F K n x3 x4 h → BW RX8 cX8_thing 6 (some .int) l (rmD d) tb0 3 [.ref 56, .null, .null, .int x3, .int x4, .null] [] 81 h (Qi K) := by
  have hk1 : 1 ≤ d := by omega
  have hk_X8_at : 0 ≤ d - 1 := by omega
  have hk_X8_in : 0 ≤ d - 1 := by omega
  have hk_X8_isThing : 1 ≤ d - 1 := by omega
  intro n
  induction n with
  | zero =>
    intro x3 x4 h hM
    exact hM.elim
  | succ n hr81 =>
    intro x3 x4 h hM
    rw [X8_thing_c81_s] at hM
    refine B_iload dX8_thing_81 rfl ?_
    refine B_bipush dX8_thing_83 k_bi_6 ?_
    refine B_icmp_ge dX8_thing_85 hM (tgt := 123) rfl (fun hM => ?_) (fun hM => ?_)
    · refine B_aload_n dX8_thing_123 rfl ?_
      refine B_getR (sc_56) vc_8 (k := 1) (j := 57) rfl (by decide) inG8 ⟨rfl, rfl, rfl⟩ ww_fl_X8_15 dX8_thing_124 ?_
      refine B_iconst dX8_thing_127 k_ic_0 ?_
      refine B_dup2 dX8_thing_128 ?_
      refine B_iald (sc_57) hM dX8_thing_129 (fun hM => ?_)
      refine B_iconst dX8_thing_130 k_ic_1 ?_
      refine B_iadd dX8_thing_131 ?_
      refine B_iast (sc_57) hM dX8_thing_132 (fun hM => ?_)
      refine B_iload_n dX8_thing_133 rfl ?_
      exact B_iret ⟨_, rfl, hM⟩ trivial dX8_thing_134
    · refine B_iconst dX8_thing_88 k_ic_1 ?_
      refine B_istore dX8_thing_89 (Nat.le_of_ble_eq_true rfl) ?_
      exact B_wk (bw_X8_thing_c91 hd hr81 _ _ _ _ _ hM) (wk_1 (wk_0 (wk_0 (wk_1 (wk_1 (wk_1 wk_n))))))
def X8_thing_c13 (F : Nat) (K : Int32 → AH → Prop) (x1 : Int32) (x2 : Int32) (h : AH) : Prop := P_X8_in F x2 (nI 0) (nI 1) h (fun (r2 : Int32) (h1 : AH) => if ¬ r2 = (nI 0) then (vp_in (nI 0) 441 ∧ (if ¬ (h1 57 (nI 0).toNatClampNeg) = (nI 12) then (vp_in (nI 0) 441 ∧ (vp_in ((nI 1) + (h1 57 (nI 0).toNatClampNeg)) 441 ∧ ((fun (h3 : AH) => vp_in ((nI 13) + (h1 57 (nI 0).toNatClampNeg)) 441 ∧ ((fun (h4 : AH) => vp_in (h1 57 (nI 0).toNatClampNeg) 12 ∧ ((fun (h5 : AH) => vp_in (h1 57 (nI 0).toNatClampNeg) 12 ∧ ((fun (h6 : AH) => X8_thing_c81 F K F (h1 57 (nI 0).toNatClampNeg) (nI 0) h6) (up h5 61 (h1 57 (nI 0).toNatClampNeg).toNatClampNeg (nI 0)))) (up h4 60 (h1 57 (nI 0).toNatClampNeg).toNatClampNeg (nI 0)))) (up h3 57 ((nI 13) + (h1 57 (nI 0).toNatClampNeg)).toNatClampNeg x2))) (up h1 57 ((nI 1) + (h1 57 (nI 0).toNatClampNeg)).toNatClampNeg x1)))) else (K (-3 : Int32) h1))) else (K (-1 : Int32) h1))
set_option maxHeartbeats 4000000 in
theorem bw_X8_thing_c13 {l : Launch} {d : Nat} {F : Nat} {K : Int32 → AH → Prop} {x1 : Int32} {x2 : Int32} {h : AH} (hd : 2 ≤ d) (hM : X8_thing_c13 F K x1 x2 h) : BW RX8 cX8_thing 6 (some .int) l (rmD d) tb0 3 [.ref 56, .int x1, .int x2, .null, .null, .null] [] 13 h (Qi K) := by
  have hk1 : 1 ≤ d := by omega
  have hk_X8_at : 0 ≤ d - 1 := by omega
  have hk_X8_in : 0 ≤ d - 1 := by omega
  have hk_X8_isThing : 1 ≤ d - 1 := by omega
  unfold X8_thing_c13 at hM
  refine B_iload_n dX8_thing_13 rfl ?_
  refine B_iconst dX8_thing_14 k_ic_0 ?_
  refine B_iconst dX8_thing_15 k_ic_1 ?_
  refine B_cS3i (c_X8_in (d := d - 1) hk_X8_in  hM) csS_X8_62 hp0 (rm_f hk1) (rm_l hk1 (by decide)) (Nat.le_of_ble_eq_true rfl) dX8_thing_16 (fun r2 h1 hM => ?_)
  refine B_if_ne dX8_thing_19 hM (tgt := 24) rfl (fun hM => ?_) (fun hM => ?_)
  · refine B_aload_n dX8_thing_24 rfl ?_
    refine B_getR (sc_56) vc_8 (k := 1) (j := 57) rfl (by decide) inG8 ⟨rfl, rfl, rfl⟩ ww_fl_X8_15 dX8_thing_25 ?_
    refine B_iconst dX8_thing_28 k_ic_0 ?_
    refine B_iald (sc_57) hM dX8_thing_29 (fun hM => ?_)
    refine B_bipush dX8_thing_30 k_bi_12 ?_
    refine B_icmp_ne dX8_thing_32 hM (tgt := 38) rfl (fun hM => ?_) (fun hM => ?_)
    · refine B_aload_n dX8_thing_38 rfl ?_
      refine B_getR (sc_56) vc_8 (k := 1) (j := 57) rfl (by decide) inG8 ⟨rfl, rfl, rfl⟩ ww_fl_X8_15 dX8_thing_39 ?_
      refine B_iconst dX8_thing_42 k_ic_0 ?_
      refine B_iald (sc_57) hM dX8_thing_43 (fun hM => ?_)
      refine B_istore_n dX8_thing_44 (Nat.le_of_ble_eq_true rfl) ?_
      refine B_aload_n dX8_thing_45 rfl ?_
      refine B_getR (sc_56) vc_8 (k := 1) (j := 57) rfl (by decide) inG8 ⟨rfl, rfl, rfl⟩ ww_fl_X8_15 dX8_thing_46 ?_
      refine B_iconst dX8_thing_49 k_ic_1 ?_
      refine B_iload_n dX8_thing_50 rfl ?_
      refine B_iadd dX8_thing_51 ?_
      refine B_iload_n dX8_thing_52 rfl ?_
      refine B_iast (sc_57) hM dX8_thing_53 (fun hM => ?_)
      refine B_aload_n dX8_thing_54 rfl ?_
      refine B_getR (sc_56) vc_8 (k := 1) (j := 57) rfl (by decide) inG8 ⟨rfl, rfl, rfl⟩ ww_fl_X8_15 dX8_thing_55 ?_
      refine B_bipush dX8_thing_58 k_bi_13 ?_
      refine B_iload_n dX8_thing_60 rfl ?_
      refine B_iadd dX8_thing_61 ?_
      refine B_iload_n dX8_thing_62 rfl ?_
      refine B_iast (sc_57) hM dX8_thing_63 (fun hM => ?_)
      refine B_aload_n dX8_thing_64 rfl ?_
      refine B_getR (sc_56) vc_8 (k := 6) (j := 60) rfl (by decide) inG8 ⟨rfl, rfl, rfl⟩ ww_fl_X8_25 dX8_thing_65 ?_
      refine B_iload_n dX8_thing_68 rfl ?_
      refine B_iconst dX8_thing_69 k_ic_0 ?_
      refine B_iast (sc_60) hM dX8_thing_70 (fun hM => ?_)
      refine B_aload_n dX8_thing_71 rfl ?_
      refine B_getR (sc_56) vc_8 (k := 7) (j := 61) rfl (by decide) inG8 ⟨rfl, rfl, rfl⟩ ww_fl_X8_28 dX8_thing_72 ?_
      refine B_iload_n dX8_thing_75 rfl ?_
      refine B_iconst dX8_thing_76 k_ic_0 ?_
      refine B_iast (sc_61) hM dX8_thing_77 (fun hM => ?_)
      refine B_iconst dX8_thing_78 k_ic_0 ?_
      refine B_istore dX8_thing_79 (Nat.le_of_ble_eq_true rfl) ?_
      exact B_wk (bw_X8_thing_c81 hd  _ _ _ _ hM) (wk_1 (wk_0 (wk_0 (wk_1 (wk_1 (wk_0 wk_n))))))
    · refine B_bipush dX8_thing_35 k_bi_m3 ?_
      exact B_iret ⟨_, rfl, hM⟩ trivial dX8_thing_37
  · refine B_iconst dX8_thing_22 k_ic_m1 ?_
    exact B_iret ⟨_, rfl, hM⟩ trivial dX8_thing_23
def P_X8_thing (F : Nat) (a1 : Int32) (a2 : Int32) (h : AH) (K : Int32 → AH → Prop) : Prop := if a1 = (-1 : Int32) then (X8_thing_c13 F K a1 a2 h) else (P_X8_isThing F a1 h (fun (r2 : Int32) (h1 : AH) => if r2 = (nI 0) then (K (-1 : Int32) h1) else (X8_thing_c13 F K a1 a2 h1)))
set_option maxHeartbeats 4000000 in
theorem c_X8_thing {l : Launch} {d : Nat} {F : Nat} {a1 : Int32} {a2 : Int32} {h : AH} {K : Int32 → AH → Prop} (hd : 2 ≤ d) (hM : P_X8_thing F a1 a2 h K) : Ct l yX8_thing cX8_thing 6 (some .int) (rmD d) [.ref 56, .int a1, .int a2] h (Qi K) := by
  have hk1 : 1 ≤ d := by omega
  have hk_X8_at : 0 ≤ d - 1 := by omega
  have hk_X8_in : 0 ≤ d - 1 := by omega
  have hk_X8_isThing : 1 ≤ d - 1 := by omega
  refine Ct_ofBW (by decide) rfl (Nat.le_of_ble_eq_true rfl) ⟨rfl, rfl⟩ ?_
  show BW RX8 cX8_thing 6 (some .int) l (rmD d) tb0 3 [.ref 56, .int a1, .int a2, .null, .null, .null] [] 0 h (Qi K)
  unfold P_X8_thing at hM
  refine B_iload_n dX8_thing_0 rfl ?_
  refine B_iconst dX8_thing_1 k_ic_m1 ?_
  refine B_icmp_eq dX8_thing_2 hM (tgt := 13) rfl (fun hM => ?_) (fun hM => ?_)
  · exact B_wk (bw_X8_thing_c13 hd  hM) (wk_1 (wk_1 (wk_1 (wk_0 (wk_0 (wk_0 wk_n))))))
  · refine B_aload_n dX8_thing_5 rfl ?_
    refine B_iload_n dX8_thing_6 rfl ?_
    refine B_cV1i (c_X8_isThing (d := d - 1) hk_X8_isThing  hM) csV_X8_70 (sc_56) vc_8 rfl hp0 (rm_f hk1) (rm_l hk1 (by decide)) (Nat.le_of_ble_eq_true rfl) dX8_thing_7 (fun r2 h1 hM => ?_)
    refine B_if_eq dX8_thing_10 hM (tgt := 22) rfl (fun hM => ?_) (fun hM => ?_)
    · refine B_iconst dX8_thing_22 k_ic_m1 ?_
      exact B_iret ⟨_, rfl, hM⟩ trivial dX8_thing_23
    · exact B_wk (bw_X8_thing_c13 hd  hM) (wk_1 (wk_1 (wk_1 (wk_0 (wk_0 (wk_0 wk_n))))))

def X8_wholes_c11 (F : Nat) (K : Int32 → AH → Prop) (n : Nat) : Int32 → Int32 → AH → Prop := Nat.rec (motive := fun _ => Int32 → Int32 → AH → Prop) (fun _ _ _ => False) (fun _ rc11 x2 x3 h => if x3 = (-1 : Int32) then (K x2 h) else (vp_in ((nI 1) + x3) 441 ∧ (rc11 (x2 + (nI 1)) (h 57 ((nI 1) + x3).toNatClampNeg) h))) n
theorem X8_wholes_c11_s {F : Nat} {K : Int32 → AH → Prop} {n : Nat} {x2 : Int32} {x3 : Int32} {h : AH} : X8_wholes_c11 F K (n + 1) x2 x3 h = (if x3 = (-1 : Int32) then (K x2 h) else (vp_in ((nI 1) + x3) 441 ∧ ((X8_wholes_c11 F K n) (x2 + (nI 1)) (h 57 ((nI 1) + x3).toNatClampNeg) h))) := rfl
set_option maxHeartbeats 4000000 in
theorem bw_X8_wholes_c11 {l : Launch} {d : Nat} {F : Nat} {K : Int32 → AH → Prop} (hd : 0 ≤ d) : ∀ (n : Nat) (x2 : Int32) (x3 : Int32) (h : AH), X8_wholes_c11 F K n x2 x3 h → BW RX8 cX8_wholes 4 (some .int) l (rmD d) tb0 3 [.ref 56, .null, .int x2, .int x3] [] 11 h (Qi K) := by
  intro n
  induction n with
  | zero =>
    intro x2 x3 h hM
    exact hM.elim
  | succ n hr11 =>
    intro x2 x3 h hM
    rw [X8_wholes_c11_s] at hM
    refine B_iload_n dX8_wholes_11 rfl ?_
    refine B_iconst dX8_wholes_12 k_ic_m1 ?_
    refine B_icmp_eq dX8_wholes_13 hM (tgt := 31) rfl (fun hM => ?_) (fun hM => ?_)
    · refine B_iload_n dX8_wholes_31 rfl ?_
      exact B_iret ⟨_, rfl, hM⟩ trivial dX8_wholes_32
    · refine B_iinc dX8_wholes_16 rfl k_ic_1 (Nat.le_of_ble_eq_true rfl) ?_
      refine B_aload_n dX8_wholes_19 rfl ?_
      refine B_getR (sc_56) vc_8 (k := 1) (j := 57) rfl (by decide) inG8 ⟨rfl, rfl, rfl⟩ ww_fl_X8_15 dX8_wholes_20 ?_
      refine B_iconst dX8_wholes_23 k_ic_1 ?_
      refine B_iload_n dX8_wholes_24 rfl ?_
      refine B_iadd dX8_wholes_25 ?_
      refine B_iald (sc_57) hM dX8_wholes_26 (fun hM => ?_)
      refine B_istore_n dX8_wholes_27 (Nat.le_of_ble_eq_true rfl) ?_
      refine B_goto (tgt := 11) dX8_wholes_28 rfl ?_
      exact B_wk (hr11 _ _ _ hM) (wk_1 (wk_0 (wk_1 (wk_1 wk_n))))
def P_X8_wholes (F : Nat) (a1 : Int32) (h : AH) (K : Int32 → AH → Prop) : Prop := vp_in ((nI 1) + a1) 441 ∧ (X8_wholes_c11 F K F (nI 0) (h 57 ((nI 1) + a1).toNatClampNeg) h)
set_option maxHeartbeats 4000000 in
theorem c_X8_wholes {l : Launch} {d : Nat} {F : Nat} {a1 : Int32} {h : AH} {K : Int32 → AH → Prop} (hd : 0 ≤ d) (hM : P_X8_wholes F a1 h K) : Ct l yX8_wholes cX8_wholes 4 (some .int) (rmD d) [.ref 56, .int a1] h (Qi K) := by
  refine Ct_ofBW (by decide) rfl (Nat.le_of_ble_eq_true rfl) ⟨rfl, rfl⟩ ?_
  show BW RX8 cX8_wholes 4 (some .int) l (rmD d) tb0 3 [.ref 56, .int a1, .null, .null] [] 0 h (Qi K)
  unfold P_X8_wholes at hM
  refine B_iconst dX8_wholes_0 k_ic_0 ?_
  refine B_istore_n dX8_wholes_1 (Nat.le_of_ble_eq_true rfl) ?_
  refine B_aload_n dX8_wholes_2 rfl ?_
  refine B_getR (sc_56) vc_8 (k := 1) (j := 57) rfl (by decide) inG8 ⟨rfl, rfl, rfl⟩ ww_fl_X8_15 dX8_wholes_3 ?_
  refine B_iconst dX8_wholes_6 k_ic_1 ?_
  refine B_iload_n dX8_wholes_7 rfl ?_
  refine B_iadd dX8_wholes_8 ?_
  refine B_iald (sc_57) hM dX8_wholes_9 (fun hM => ?_)
  refine B_istore_n dX8_wholes_10 (Nat.le_of_ble_eq_true rfl) ?_
  exact B_wk (bw_X8_wholes_c11 hd  _ _ _ _ hM) (wk_1 (wk_0 (wk_1 (wk_1 wk_n))))

def X8_partsOf_c34 (F : Nat) (rc4 : Int32 → Int32 → Int32 → AH → Prop) (K : Int32 → AH → Prop) (x1 : Int32) (x3 : Int32) (s0 : Int32) (s1 : Int32) (h : AH) : Prop := rc4 x1 (s0 ||| s1) (x3 + (nI 1)) h
set_option maxHeartbeats 4000000 in
theorem bw_X8_partsOf_c34 {l : Launch} {d : Nat} {F : Nat} {rc4 : Int32 → Int32 → Int32 → AH → Prop} {K : Int32 → AH → Prop} {x1 : Int32} {x3 : Int32} {s0 : Int32} {s1 : Int32} {h : AH} (hd : 0 ≤ d) (hr4 : ∀ (x1 : Int32) (x2 : Int32) (x3 : Int32) (h : AH), rc4 x1 x2 x3 h → BW RX8 cX8_partsOf 4 (some .int) l (rmD d) tb0 3 [.ref 56, .int x1, .int x2, .int x3] [] 4 h (Qi K)) (hM : X8_partsOf_c34 F rc4 K x1 x3 s0 s1 h) : BW RX8 cX8_partsOf 4 (some .int) l (rmD d) tb0 3 [.ref 56, .int x1, .null, .int x3] [.int s1, .int s0] 34 h (Qi K) := by
  unfold X8_partsOf_c34 at hM
  refine B_ior dX8_partsOf_34 ?_
  refine B_istore_n dX8_partsOf_35 (Nat.le_of_ble_eq_true rfl) ?_
  refine B_iinc dX8_partsOf_36 rfl k_ic_1 (Nat.le_of_ble_eq_true rfl) ?_
  refine B_goto (tgt := 4) dX8_partsOf_39 rfl ?_
  exact B_wk (hr4 _ _ _ _ hM) (wk_1 (wk_1 (wk_1 (wk_1 wk_n))))
def X8_partsOf_c4 (F : Nat) (K : Int32 → AH → Prop) (n : Nat) : Int32 → Int32 → Int32 → AH → Prop := Nat.rec (motive := fun _ => Int32 → Int32 → Int32 → AH → Prop) (fun _ _ _ _ => False) (fun _ rc4 x1 x2 x3 h => vp_in (nI 0) 441 ∧ (if (h 57 (nI 0).toNatClampNeg) ≤ x3 then (K x2 h) else (vp_in ((nI 1) + x3) 441 ∧ (if ¬ (h 57 ((nI 1) + x3).toNatClampNeg) = x1 then (X8_partsOf_c34 F rc4 K x1 x3 x2 (nI 0) h) else (X8_partsOf_c34 F rc4 K x1 x3 x2 ((nI 1) <<< (x3 &&& 31)) h))))) n
theorem X8_partsOf_c4_s {F : Nat} {K : Int32 → AH → Prop} {n : Nat} {x1 : Int32} {x2 : Int32} {x3 : Int32} {h : AH} : X8_partsOf_c4 F K (n + 1) x1 x2 x3 h = (vp_in (nI 0) 441 ∧ (if (h 57 (nI 0).toNatClampNeg) ≤ x3 then (K x2 h) else (vp_in ((nI 1) + x3) 441 ∧ (if ¬ (h 57 ((nI 1) + x3).toNatClampNeg) = x1 then (X8_partsOf_c34 F (X8_partsOf_c4 F K n) K x1 x3 x2 (nI 0) h) else (X8_partsOf_c34 F (X8_partsOf_c4 F K n) K x1 x3 x2 ((nI 1) <<< (x3 &&& 31)) h))))) := rfl
set_option maxHeartbeats 4000000 in
theorem bw_X8_partsOf_c4 {l : Launch} {d : Nat} {F : Nat} {K : Int32 → AH → Prop} (hd : 0 ≤ d) : ∀ (n : Nat) (x1 : Int32) (x2 : Int32) (x3 : Int32) (h : AH), X8_partsOf_c4 F K n x1 x2 x3 h → BW RX8 cX8_partsOf 4 (some .int) l (rmD d) tb0 3 [.ref 56, .int x1, .int x2, .int x3] [] 4 h (Qi K) := by
  intro n
  induction n with
  | zero =>
    intro x1 x2 x3 h hM
    exact hM.elim
  | succ n hr4 =>
    intro x1 x2 x3 h hM
    rw [X8_partsOf_c4_s] at hM
    refine B_iload_n dX8_partsOf_4 rfl ?_
    refine B_aload_n dX8_partsOf_5 rfl ?_
    refine B_getR (sc_56) vc_8 (k := 1) (j := 57) rfl (by decide) inG8 ⟨rfl, rfl, rfl⟩ ww_fl_X8_15 dX8_partsOf_6 ?_
    refine B_iconst dX8_partsOf_9 k_ic_0 ?_
    refine B_iald (sc_57) hM dX8_partsOf_10 (fun hM => ?_)
    refine B_icmp_ge dX8_partsOf_11 hM (tgt := 42) rfl (fun hM => ?_) (fun hM => ?_)
    · refine B_iload_n dX8_partsOf_42 rfl ?_
      exact B_iret ⟨_, rfl, hM⟩ trivial dX8_partsOf_43
    · refine B_iload_n dX8_partsOf_14 rfl ?_
      refine B_aload_n dX8_partsOf_15 rfl ?_
      refine B_getR (sc_56) vc_8 (k := 1) (j := 57) rfl (by decide) inG8 ⟨rfl, rfl, rfl⟩ ww_fl_X8_15 dX8_partsOf_16 ?_
      refine B_iconst dX8_partsOf_19 k_ic_1 ?_
      refine B_iload_n dX8_partsOf_20 rfl ?_
      refine B_iadd dX8_partsOf_21 ?_
      refine B_iald (sc_57) hM dX8_partsOf_22 (fun hM => ?_)
      refine B_iload_n dX8_partsOf_23 rfl ?_
      refine B_icmp_ne dX8_partsOf_24 hM (tgt := 33) rfl (fun hM => ?_) (fun hM => ?_)
      · refine B_iconst dX8_partsOf_33 k_ic_0 ?_
        exact B_wk (bw_X8_partsOf_c34 hd hr4 hM) (wk_1 (wk_1 (wk_0 (wk_1 wk_n))))
      · refine B_iconst dX8_partsOf_27 k_ic_1 ?_
        refine B_iload_n dX8_partsOf_28 rfl ?_
        refine B_ishl dX8_partsOf_29 ?_
        refine B_goto (tgt := 34) dX8_partsOf_30 rfl ?_
        exact B_wk (bw_X8_partsOf_c34 hd hr4 hM) (wk_1 (wk_1 (wk_0 (wk_1 wk_n))))
def P_X8_partsOf (F : Nat) (a1 : Int32) (h : AH) (K : Int32 → AH → Prop) : Prop := X8_partsOf_c4 F K F a1 (nI 0) (nI 0) h
set_option maxHeartbeats 4000000 in
theorem c_X8_partsOf {l : Launch} {d : Nat} {F : Nat} {a1 : Int32} {h : AH} {K : Int32 → AH → Prop} (hd : 0 ≤ d) (hM : P_X8_partsOf F a1 h K) : Ct l yX8_partsOf cX8_partsOf 4 (some .int) (rmD d) [.ref 56, .int a1] h (Qi K) := by
  refine Ct_ofBW (by decide) rfl (Nat.le_of_ble_eq_true rfl) ⟨rfl, rfl⟩ ?_
  show BW RX8 cX8_partsOf 4 (some .int) l (rmD d) tb0 3 [.ref 56, .int a1, .null, .null] [] 0 h (Qi K)
  unfold P_X8_partsOf at hM
  refine B_iconst dX8_partsOf_0 k_ic_0 ?_
  refine B_istore_n dX8_partsOf_1 (Nat.le_of_ble_eq_true rfl) ?_
  refine B_iconst dX8_partsOf_2 k_ic_0 ?_
  refine B_istore_n dX8_partsOf_3 (Nat.le_of_ble_eq_true rfl) ?_
  exact B_wk (bw_X8_partsOf_c4 hd  _ _ _ _ _ hM) (wk_1 (wk_1 (wk_1 (wk_1 wk_n))))

def X8_countsAt_c13 (F : Nat) (rc4 : Int32 → Int32 → Int32 → AH → Prop) (K : Int32 → AH → Prop) (n : Nat) : Int32 → Int32 → Int32 → Int32 → AH → Prop := Nat.rec (motive := fun _ => Int32 → Int32 → Int32 → Int32 → AH → Prop) (fun _ _ _ _ _ => False) (fun _ rc13 x1 x2 x3 x4 h => if (nI 5) < x4 then (rc4 x1 x2 (x3 + (nI 1)) h) else (P_X8_at F x3 x1 x4 h (fun (r2 : Int32) (h1 : AH) => vp_in r2 441 ∧ (rc13 x1 (x2 + (h1 57 r2.toNatClampNeg)) x3 (x4 + (nI 1)) h1)))) n
theorem X8_countsAt_c13_s {F : Nat} {rc4 : Int32 → Int32 → Int32 → AH → Prop} {K : Int32 → AH → Prop} {n : Nat} {x1 : Int32} {x2 : Int32} {x3 : Int32} {x4 : Int32} {h : AH} : X8_countsAt_c13 F rc4 K (n + 1) x1 x2 x3 x4 h = (if (nI 5) < x4 then (rc4 x1 x2 (x3 + (nI 1)) h) else (P_X8_at F x3 x1 x4 h (fun (r2 : Int32) (h1 : AH) => vp_in r2 441 ∧ ((X8_countsAt_c13 F rc4 K n) x1 (x2 + (h1 57 r2.toNatClampNeg)) x3 (x4 + (nI 1)) h1)))) := rfl
set_option maxHeartbeats 4000000 in
theorem bw_X8_countsAt_c13 {l : Launch} {d : Nat} {F : Nat} {rc4 : Int32 → Int32 → Int32 → AH → Prop} {K : Int32 → AH → Prop} (hd : 1 ≤ d) (hr4 : ∀ (x1 : Int32) (x2 : Int32) (x3 : Int32) (h : AH), rc4 x1 x2 x3 h → BW RX8 cX8_countsAt 5 (some .int) l (rmD d) tb0 3 [.ref 56, .int x1, .int x2, .int x3, .null] [] 4 h (Qi K)) : ∀ (n : Nat) (x1 : Int32) (x2 : Int32) (x3 : Int32) (x4 : Int32) (h : AH), X8_countsAt_c13 F rc4 K n x1 x2 x3 x4 h → BW RX8 cX8_countsAt 5 (some .int) l (rmD d) tb0 3 [.ref 56, .int x1, .int x2, .int x3, .int x4] [] 13 h (Qi K) := by
  have hk1 : 1 ≤ d := by omega
  have hk_X8_at : 0 ≤ d - 1 := by omega
  intro n
  induction n with
  | zero =>
    intro x1 x2 x3 x4 h hM
    exact hM.elim
  | succ n hr13 =>
    intro x1 x2 x3 x4 h hM
    rw [X8_countsAt_c13_s] at hM
    refine B_iload dX8_countsAt_13 rfl ?_
    refine B_iconst dX8_countsAt_15 k_ic_5 ?_
    refine B_icmp_gt dX8_countsAt_16 hM (tgt := 40) rfl (fun hM => ?_) (fun hM => ?_)
    · refine B_iinc dX8_countsAt_40 rfl k_ic_1 (Nat.le_of_ble_eq_true rfl) ?_
      refine B_goto (tgt := 4) dX8_countsAt_43 rfl ?_
      exact B_wk (hr4 _ _ _ _ hM) (wk_1 (wk_1 (wk_1 (wk_1 (wk_0 wk_n)))))
    · refine B_iload_n dX8_countsAt_19 rfl ?_
      refine B_aload_n dX8_countsAt_20 rfl ?_
      refine B_getR (sc_56) vc_8 (k := 1) (j := 57) rfl (by decide) inG8 ⟨rfl, rfl, rfl⟩ ww_fl_X8_15 dX8_countsAt_21 ?_
      refine B_iload_n dX8_countsAt_24 rfl ?_
      refine B_iload_n dX8_countsAt_25 rfl ?_
      refine B_iload dX8_countsAt_26 rfl ?_
      refine B_cS3i (c_X8_at (d := d - 1) hk_X8_at  hM) csS_X8_84 hp0 (rm_f hk1) (rm_l hk1 (by decide)) (Nat.le_of_ble_eq_true rfl) dX8_countsAt_28 (fun r2 h1 hM => ?_)
      refine B_iald (sc_57) hM dX8_countsAt_31 (fun hM => ?_)
      refine B_iadd dX8_countsAt_32 ?_
      refine B_istore_n dX8_countsAt_33 (Nat.le_of_ble_eq_true rfl) ?_
      refine B_iinc dX8_countsAt_34 rfl k_ic_1 (Nat.le_of_ble_eq_true rfl) ?_
      refine B_goto (tgt := 13) dX8_countsAt_37 rfl ?_
      exact B_wk (hr13 _ _ _ _ _ hM) (wk_1 (wk_1 (wk_1 (wk_1 (wk_1 wk_n)))))
def X8_countsAt_c4 (F : Nat) (K : Int32 → AH → Prop) (n : Nat) : Int32 → Int32 → Int32 → AH → Prop := Nat.rec (motive := fun _ => Int32 → Int32 → Int32 → AH → Prop) (fun _ _ _ _ => False) (fun _ rc4 x1 x2 x3 h => if (nI 6) ≤ x3 then (K x2 h) else (X8_countsAt_c13 F rc4 K F x1 x2 x3 (nI 1) h)) n
theorem X8_countsAt_c4_s {F : Nat} {K : Int32 → AH → Prop} {n : Nat} {x1 : Int32} {x2 : Int32} {x3 : Int32} {h : AH} : X8_countsAt_c4 F K (n + 1) x1 x2 x3 h = (if (nI 6) ≤ x3 then (K x2 h) else (X8_countsAt_c13 F (X8_countsAt_c4 F K n) K F x1 x2 x3 (nI 1) h)) := rfl
set_option maxHeartbeats 4000000 in
theorem bw_X8_countsAt_c4 {l : Launch} {d : Nat} {F : Nat} {K : Int32 → AH → Prop} (hd : 1 ≤ d) : ∀ (n : Nat) (x1 : Int32) (x2 : Int32) (x3 : Int32) (h : AH), X8_countsAt_c4 F K n x1 x2 x3 h → BW RX8 cX8_countsAt 5 (some .int) l (rmD d) tb0 3 [.ref 56, .int x1, .int x2, .int x3, .null] [] 4 h (Qi K) := by
  have hk1 : 1 ≤ d := by omega
  have hk_X8_at : 0 ≤ d - 1 := by omega
  intro n
  induction n with
  | zero =>
    intro x1 x2 x3 h hM
    exact hM.elim
  | succ n hr4 =>
    intro x1 x2 x3 h hM
    rw [X8_countsAt_c4_s] at hM
    refine B_iload_n dX8_countsAt_4 rfl ?_
    refine B_bipush dX8_countsAt_5 k_bi_6 ?_
    refine B_icmp_ge dX8_countsAt_7 hM (tgt := 46) rfl (fun hM => ?_) (fun hM => ?_)
    · refine B_iload_n dX8_countsAt_46 rfl ?_
      exact B_iret ⟨_, rfl, hM⟩ trivial dX8_countsAt_47
    · refine B_iconst dX8_countsAt_10 k_ic_1 ?_
      refine B_istore dX8_countsAt_11 (Nat.le_of_ble_eq_true rfl) ?_
      exact B_wk (bw_X8_countsAt_c13 hd hr4 _ _ _ _ _ _ hM) (wk_1 (wk_1 (wk_1 (wk_1 (wk_1 wk_n)))))
def P_X8_countsAt (F : Nat) (a1 : Int32) (h : AH) (K : Int32 → AH → Prop) : Prop := X8_countsAt_c4 F K F a1 (nI 0) (nI 0) h
set_option maxHeartbeats 4000000 in
theorem c_X8_countsAt {l : Launch} {d : Nat} {F : Nat} {a1 : Int32} {h : AH} {K : Int32 → AH → Prop} (hd : 1 ≤ d) (hM : P_X8_countsAt F a1 h K) : Ct l yX8_countsAt cX8_countsAt 5 (some .int) (rmD d) [.ref 56, .int a1] h (Qi K) := by
  have hk1 : 1 ≤ d := by omega
  have hk_X8_at : 0 ≤ d - 1 := by omega
  refine Ct_ofBW (by decide) rfl (Nat.le_of_ble_eq_true rfl) ⟨rfl, rfl⟩ ?_
  show BW RX8 cX8_countsAt 5 (some .int) l (rmD d) tb0 3 [.ref 56, .int a1, .null, .null, .null] [] 0 h (Qi K)
  unfold P_X8_countsAt at hM
  refine B_iconst dX8_countsAt_0 k_ic_0 ?_
  refine B_istore_n dX8_countsAt_1 (Nat.le_of_ble_eq_true rfl) ?_
  refine B_iconst dX8_countsAt_2 k_ic_0 ?_
  refine B_istore_n dX8_countsAt_3 (Nat.le_of_ble_eq_true rfl) ?_
  exact B_wk (bw_X8_countsAt_c4 hd  _ _ _ _ _ hM) (wk_1 (wk_1 (wk_1 (wk_1 (wk_0 wk_n)))))

def X8_askers_c38 (F : Nat) (rc4 : Int32 → Int32 → Int32 → AH → Prop) (K : Int32 → AH → Prop) (x1 : Int32) (x3 : Int32) (s0 : Int32) (s1 : Int32) (h : AH) : Prop := rc4 x1 (s0 + s1) (x3 + (nI 1)) h
set_option maxHeartbeats 4000000 in
theorem bw_X8_askers_c38 {l : Launch} {d : Nat} {F : Nat} {rc4 : Int32 → Int32 → Int32 → AH → Prop} {K : Int32 → AH → Prop} {x1 : Int32} {x3 : Int32} {s0 : Int32} {s1 : Int32} {h : AH} (hd : 0 ≤ d) (hr4 : ∀ (x1 : Int32) (x2 : Int32) (x3 : Int32) (h : AH), rc4 x1 x2 x3 h → BW RX8 cX8_askers 4 (some .int) l (rmD d) tb0 3 [.ref 56, .int x1, .int x2, .int x3] [] 4 h (Qi K)) (hM : X8_askers_c38 F rc4 K x1 x3 s0 s1 h) : BW RX8 cX8_askers 4 (some .int) l (rmD d) tb0 3 [.ref 56, .int x1, .null, .int x3] [.int s1, .int s0] 38 h (Qi K) := by
  unfold X8_askers_c38 at hM
  refine B_iadd dX8_askers_38 ?_
  refine B_istore_n dX8_askers_39 (Nat.le_of_ble_eq_true rfl) ?_
  refine B_iinc dX8_askers_40 rfl k_ic_1 (Nat.le_of_ble_eq_true rfl) ?_
  refine B_goto (tgt := 4) dX8_askers_43 rfl ?_
  exact B_wk (hr4 _ _ _ _ hM) (wk_1 (wk_1 (wk_1 (wk_1 wk_n))))
def X8_askers_c4 (F : Nat) (K : Int32 → AH → Prop) (n : Nat) : Int32 → Int32 → Int32 → AH → Prop := Nat.rec (motive := fun _ => Int32 → Int32 → Int32 → AH → Prop) (fun _ _ _ _ => False) (fun _ rc4 x1 x2 x3 h => vp_in (nI 25) 441 ∧ (if (h 57 (nI 25).toNatClampNeg) ≤ x3 then (K x2 h) else (vp_in (((nI 26) + ((nI 3) * x3)) + (nI 1)) 441 ∧ (if ¬ (h 57 (((nI 26) + ((nI 3) * x3)) + (nI 1)).toNatClampNeg) = x1 then (X8_askers_c38 F rc4 K x1 x3 x2 (nI 0) h) else (X8_askers_c38 F rc4 K x1 x3 x2 (nI 1) h))))) n
theorem X8_askers_c4_s {F : Nat} {K : Int32 → AH → Prop} {n : Nat} {x1 : Int32} {x2 : Int32} {x3 : Int32} {h : AH} : X8_askers_c4 F K (n + 1) x1 x2 x3 h = (vp_in (nI 25) 441 ∧ (if (h 57 (nI 25).toNatClampNeg) ≤ x3 then (K x2 h) else (vp_in (((nI 26) + ((nI 3) * x3)) + (nI 1)) 441 ∧ (if ¬ (h 57 (((nI 26) + ((nI 3) * x3)) + (nI 1)).toNatClampNeg) = x1 then (X8_askers_c38 F (X8_askers_c4 F K n) K x1 x3 x2 (nI 0) h) else (X8_askers_c38 F (X8_askers_c4 F K n) K x1 x3 x2 (nI 1) h))))) := rfl
set_option maxHeartbeats 4000000 in
theorem bw_X8_askers_c4 {l : Launch} {d : Nat} {F : Nat} {K : Int32 → AH → Prop} (hd : 0 ≤ d) : ∀ (n : Nat) (x1 : Int32) (x2 : Int32) (x3 : Int32) (h : AH), X8_askers_c4 F K n x1 x2 x3 h → BW RX8 cX8_askers 4 (some .int) l (rmD d) tb0 3 [.ref 56, .int x1, .int x2, .int x3] [] 4 h (Qi K) := by
  intro n
  induction n with
  | zero =>
    intro x1 x2 x3 h hM
    exact hM.elim
  | succ n hr4 =>
    intro x1 x2 x3 h hM
    rw [X8_askers_c4_s] at hM
    refine B_iload_n dX8_askers_4 rfl ?_
    refine B_aload_n dX8_askers_5 rfl ?_
    refine B_getR (sc_56) vc_8 (k := 1) (j := 57) rfl (by decide) inG8 ⟨rfl, rfl, rfl⟩ ww_fl_X8_15 dX8_askers_6 ?_
    refine B_bipush dX8_askers_9 k_bi_25 ?_
    refine B_iald (sc_57) hM dX8_askers_11 (fun hM => ?_)
    refine B_icmp_ge dX8_askers_12 hM (tgt := 46) rfl (fun hM => ?_) (fun hM => ?_)
    · refine B_iload_n dX8_askers_46 rfl ?_
      exact B_iret ⟨_, rfl, hM⟩ trivial dX8_askers_47
    · refine B_iload_n dX8_askers_15 rfl ?_
      refine B_aload_n dX8_askers_16 rfl ?_
      refine B_getR (sc_56) vc_8 (k := 1) (j := 57) rfl (by decide) inG8 ⟨rfl, rfl, rfl⟩ ww_fl_X8_15 dX8_askers_17 ?_
      refine B_bipush dX8_askers_20 k_bi_26 ?_
      refine B_iconst dX8_askers_22 k_ic_3 ?_
      refine B_iload_n dX8_askers_23 rfl ?_
      refine B_imul dX8_askers_24 ?_
      refine B_iadd dX8_askers_25 ?_
      refine B_iconst dX8_askers_26 k_ic_1 ?_
      refine B_iadd dX8_askers_27 ?_
      refine B_iald (sc_57) hM dX8_askers_28 (fun hM => ?_)
      refine B_iload_n dX8_askers_29 rfl ?_
      refine B_icmp_ne dX8_askers_30 hM (tgt := 37) rfl (fun hM => ?_) (fun hM => ?_)
      · refine B_iconst dX8_askers_37 k_ic_0 ?_
        exact B_wk (bw_X8_askers_c38 hd hr4 hM) (wk_1 (wk_1 (wk_0 (wk_1 wk_n))))
      · refine B_iconst dX8_askers_33 k_ic_1 ?_
        refine B_goto (tgt := 38) dX8_askers_34 rfl ?_
        exact B_wk (bw_X8_askers_c38 hd hr4 hM) (wk_1 (wk_1 (wk_0 (wk_1 wk_n))))
def P_X8_askers (F : Nat) (a1 : Int32) (h : AH) (K : Int32 → AH → Prop) : Prop := X8_askers_c4 F K F a1 (nI 0) (nI 0) h
set_option maxHeartbeats 4000000 in
theorem c_X8_askers {l : Launch} {d : Nat} {F : Nat} {a1 : Int32} {h : AH} {K : Int32 → AH → Prop} (hd : 0 ≤ d) (hM : P_X8_askers F a1 h K) : Ct l yX8_askers cX8_askers 4 (some .int) (rmD d) [.ref 56, .int a1] h (Qi K) := by
  refine Ct_ofBW (by decide) rfl (Nat.le_of_ble_eq_true rfl) ⟨rfl, rfl⟩ ?_
  show BW RX8 cX8_askers 4 (some .int) l (rmD d) tb0 3 [.ref 56, .int a1, .null, .null] [] 0 h (Qi K)
  unfold P_X8_askers at hM
  refine B_iconst dX8_askers_0 k_ic_0 ?_
  refine B_istore_n dX8_askers_1 (Nat.le_of_ble_eq_true rfl) ?_
  refine B_iconst dX8_askers_2 k_ic_0 ?_
  refine B_istore_n dX8_askers_3 (Nat.le_of_ble_eq_true rfl) ?_
  exact B_wk (bw_X8_askers_c4 hd  _ _ _ _ _ hM) (wk_1 (wk_1 (wk_1 (wk_1 wk_n))))

def P_X8_thingOf (F : Nat) (a1 : Int32) (a2 : Int32) (h : AH) (K : Int32 → AH → Prop) : Prop := P_X8_isThing F a1 h (fun (r2 : Int32) (h1 : AH) => if ¬ r2 = (nI 0) then (if a2 = (nI 0) then (vp_in ((nI 1) + a1) 441 ∧ (K (h1 57 ((nI 1) + a1).toNatClampNeg) h1)) else (if a2 = (nI 1) then (vp_in ((nI 13) + a1) 441 ∧ (K (h1 57 ((nI 13) + a1).toNatClampNeg) h1)) else (if a2 = (nI 2) then (P_X8_wholes F a1 h1 (fun (r4 : Int32) (h3 : AH) => K r4 h3)) else (if a2 = (nI 3) then (P_X8_partsOf F a1 h1 (fun (r6 : Int32) (h5 : AH) => K r6 h5)) else (if a2 = (nI 4) then (P_X8_countsAt F a1 h1 (fun (r8 : Int32) (h7 : AH) => K r8 h7)) else (if a2 = (nI 5) then (P_X8_askers F a1 h1 (fun (r10 : Int32) (h9 : AH) => K r10 h9)) else (K (-1 : Int32) h1))))))) else (K (-1 : Int32) h1))
set_option maxHeartbeats 4000000 in
theorem c_X8_thingOf {l : Launch} {d : Nat} {F : Nat} {a1 : Int32} {a2 : Int32} {h : AH} {K : Int32 → AH → Prop} (hd : 2 ≤ d) (hM : P_X8_thingOf F a1 a2 h K) : Ct l yX8_thingOf cX8_thingOf 3 (some .int) (rmD d) [.ref 56, .int a1, .int a2] h (Qi K) := by
  have hk1 : 1 ≤ d := by omega
  have hk_X8_askers : 0 ≤ d - 1 := by omega
  have hk_X8_countsAt : 1 ≤ d - 1 := by omega
  have hk_X8_isThing : 1 ≤ d - 1 := by omega
  have hk_X8_partsOf : 0 ≤ d - 1 := by omega
  have hk_X8_wholes : 0 ≤ d - 1 := by omega
  refine Ct_ofBW (by decide) rfl (Nat.le_of_ble_eq_true rfl) ⟨rfl, rfl⟩ ?_
  show BW RX8 cX8_thingOf 3 (some .int) l (rmD d) tb0 3 [.ref 56, .int a1, .int a2] [] 0 h (Qi K)
  unfold P_X8_thingOf at hM
  refine B_aload_n dX8_thingOf_0 rfl ?_
  refine B_iload_n dX8_thingOf_1 rfl ?_
  refine B_cV1i (c_X8_isThing (d := d - 1) hk_X8_isThing  hM) csV_X8_70 (sc_56) vc_8 rfl hp0 (rm_f hk1) (rm_l hk1 (by decide)) (Nat.le_of_ble_eq_true rfl) dX8_thingOf_2 (fun r2 h1 hM => ?_)
  refine B_if_ne dX8_thingOf_5 hM (tgt := 10) rfl (fun hM => ?_) (fun hM => ?_)
  · refine B_iload_n dX8_thingOf_10 rfl ?_
    refine ite_p hM (fun hc0 hM => ?_) (fun hc0 hM => ?_)
    · refine B_tin hc0 (by decide) (by decide) rfl dX8_thingOf_11 (tgt := 48) rfl ?_
      refine B_aload_n dX8_thingOf_48 rfl ?_
      refine B_getR (sc_56) vc_8 (k := 1) (j := 57) rfl (by decide) inG8 ⟨rfl, rfl, rfl⟩ ww_fl_X8_15 dX8_thingOf_49 ?_
      refine B_iconst dX8_thingOf_52 k_ic_1 ?_
      refine B_iload_n dX8_thingOf_53 rfl ?_
      refine B_iadd dX8_thingOf_54 ?_
      refine B_iald (sc_57) hM dX8_thingOf_55 (fun hM => ?_)
      exact B_iret ⟨_, rfl, hM⟩ trivial dX8_thingOf_56
    refine ite_p hM (fun hc1 hM => ?_) (fun hc1 hM => ?_)
    · refine B_tin hc1 (by decide) (by decide) rfl dX8_thingOf_11 (tgt := 57) rfl ?_
      refine B_aload_n dX8_thingOf_57 rfl ?_
      refine B_getR (sc_56) vc_8 (k := 1) (j := 57) rfl (by decide) inG8 ⟨rfl, rfl, rfl⟩ ww_fl_X8_15 dX8_thingOf_58 ?_
      refine B_bipush dX8_thingOf_61 k_bi_13 ?_
      refine B_iload_n dX8_thingOf_63 rfl ?_
      refine B_iadd dX8_thingOf_64 ?_
      refine B_iald (sc_57) hM dX8_thingOf_65 (fun hM => ?_)
      exact B_iret ⟨_, rfl, hM⟩ trivial dX8_thingOf_66
    refine ite_p hM (fun hc2 hM => ?_) (fun hc2 hM => ?_)
    · refine B_tin hc2 (by decide) (by decide) rfl dX8_thingOf_11 (tgt := 67) rfl ?_
      refine B_aload_n dX8_thingOf_67 rfl ?_
      refine B_iload_n dX8_thingOf_68 rfl ?_
      refine B_cV1i (c_X8_wholes (d := d - 1) hk_X8_wholes  hM) csV_X8_88 (sc_56) vc_8 rfl hp0 (rm_f hk1) (rm_l hk1 (by decide)) (Nat.le_of_ble_eq_true rfl) dX8_thingOf_69 (fun r4 h3 hM => ?_)
      exact B_iret ⟨_, rfl, hM⟩ trivial dX8_thingOf_72
    refine ite_p hM (fun hc3 hM => ?_) (fun hc3 hM => ?_)
    · refine B_tin hc3 (by decide) (by decide) rfl dX8_thingOf_11 (tgt := 73) rfl ?_
      refine B_aload_n dX8_thingOf_73 rfl ?_
      refine B_iload_n dX8_thingOf_74 rfl ?_
      refine B_cV1i (c_X8_partsOf (d := d - 1) hk_X8_partsOf  hM) csV_X8_91 (sc_56) vc_8 rfl hp0 (rm_f hk1) (rm_l hk1 (by decide)) (Nat.le_of_ble_eq_true rfl) dX8_thingOf_75 (fun r6 h5 hM => ?_)
      exact B_iret ⟨_, rfl, hM⟩ trivial dX8_thingOf_78
    refine ite_p hM (fun hc4 hM => ?_) (fun hc4 hM => ?_)
    · refine B_tin hc4 (by decide) (by decide) rfl dX8_thingOf_11 (tgt := 79) rfl ?_
      refine B_aload_n dX8_thingOf_79 rfl ?_
      refine B_iload_n dX8_thingOf_80 rfl ?_
      refine B_cV1i (c_X8_countsAt (d := d - 1) hk_X8_countsAt  hM) csV_X8_94 (sc_56) vc_8 rfl hp0 (rm_f hk1) (rm_l hk1 (by decide)) (Nat.le_of_ble_eq_true rfl) dX8_thingOf_81 (fun r8 h7 hM => ?_)
      exact B_iret ⟨_, rfl, hM⟩ trivial dX8_thingOf_84
    refine ite_p hM (fun hc5 hM => ?_) (fun hc5 hM => ?_)
    · refine B_tin hc5 (by decide) (by decide) rfl dX8_thingOf_11 (tgt := 85) rfl ?_
      refine B_aload_n dX8_thingOf_85 rfl ?_
      refine B_iload_n dX8_thingOf_86 rfl ?_
      refine B_cV1i (c_X8_askers (d := d - 1) hk_X8_askers  hM) csV_X8_97 (sc_56) vc_8 rfl hp0 (rm_f hk1) (rm_l hk1 (by decide)) (Nat.le_of_ble_eq_true rfl) dX8_thingOf_87 (fun r10 h9 hM => ?_)
      exact B_iret ⟨_, rfl, hM⟩ trivial dX8_thingOf_90
    refine B_tout (tsw_out2 (n := 6) (by decide) (lt_s (lt_s (lt_s (lt_s (lt_s (lt_s lt_0 hc0) hc1) hc2) hc3) hc4) hc5) (by decide)) dX8_thingOf_11 (tgt := 91) rfl ?_
    refine B_iconst dX8_thingOf_91 k_ic_m1 ?_
    exact B_iret ⟨_, rfl, hM⟩ trivial dX8_thingOf_92
  · refine B_iconst dX8_thingOf_8 k_ic_m1 ?_
    exact B_iret ⟨_, rfl, hM⟩ trivial dX8_thingOf_9

def P_X8_above (F : Nat) (a1 : Int32) (h : AH) (K : Int32 → AH → Prop) : Prop := if ¬ a1 = (nI 2) then (K (nI 3) h) else (K (nI 1) h)
set_option maxHeartbeats 4000000 in
theorem c_X8_above {l : Launch} {d : Nat} {F : Nat} {a1 : Int32} {h : AH} {K : Int32 → AH → Prop} (hd : 0 ≤ d) (hM : P_X8_above F a1 h K) : Ct l yX8_above cX8_above 1 (some .int) (rmD d) [.int a1] h (Qi K) := by
  refine Ct_ofBW (by decide) rfl (Nat.le_of_ble_eq_true rfl) ⟨rfl, rfl⟩ ?_
  show BW RX8 cX8_above 1 (some .int) l (rmD d) tb0 3 [.int a1] [] 0 h (Qi K)
  unfold P_X8_above at hM
  refine B_iload_n dX8_above_0 rfl ?_
  refine B_iconst dX8_above_1 k_ic_2 ?_
  refine B_icmp_ne dX8_above_2 hM (tgt := 9) rfl (fun hM => ?_) (fun hM => ?_)
  · refine B_iconst dX8_above_9 k_ic_3 ?_
    exact B_iret ⟨_, rfl, hM⟩ trivial dX8_above_10
  · refine B_iconst dX8_above_5 k_ic_1 ?_
    refine B_goto (tgt := 10) dX8_above_6 rfl ?_
    exact B_iret ⟨_, rfl, hM⟩ trivial dX8_above_10

def X8_isBarredAt_c35 (F : Nat) (rc3 : Int32 → Int32 → Int32 → Int32 → AH → Prop) (K : Int32 → AH → Prop) (x1 : Int32) (x2 : Int32) (x3 : Int32) (x4 : Int32) (h : AH) : Prop := rc3 x1 x2 x3 (x4 + (nI 1)) h
set_option maxHeartbeats 4000000 in
theorem bw_X8_isBarredAt_c35 {l : Launch} {d : Nat} {F : Nat} {rc3 : Int32 → Int32 → Int32 → Int32 → AH → Prop} {K : Int32 → AH → Prop} {x1 : Int32} {x2 : Int32} {x3 : Int32} {x4 : Int32} {h : AH} (hd : 2 ≤ d) (hr3 : ∀ (x1 : Int32) (x2 : Int32) (x3 : Int32) (x4 : Int32) (h : AH), rc3 x1 x2 x3 x4 h → BW RX8 cX8_isBarredAt 5 (some .boolean) l (rmD d) tb0 3 [.ref 56, .int x1, .int x2, .int x3, .int x4] [] 3 h (Qi K)) (hM : X8_isBarredAt_c35 F rc3 K x1 x2 x3 x4 h) : BW RX8 cX8_isBarredAt 5 (some .boolean) l (rmD d) tb0 3 [.ref 56, .int x1, .int x2, .int x3, .int x4] [] 35 h (Qi K) := by
  have hk1 : 1 ≤ d := by omega
  have hk_X8_at : 0 ≤ d - 1 := by omega
  have hk_X8_goTogether : 1 ≤ d - 1 := by omega
  unfold X8_isBarredAt_c35 at hM
  refine B_iinc dX8_isBarredAt_35 rfl k_ic_1 (Nat.le_of_ble_eq_true rfl) ?_
  refine B_goto (tgt := 3) dX8_isBarredAt_38 rfl ?_
  exact B_wk (hr3 _ _ _ _ _ hM) (wk_1 (wk_1 (wk_1 (wk_1 (wk_1 wk_n)))))
def X8_isBarredAt_c3 (F : Nat) (K : Int32 → AH → Prop) (n : Nat) : Int32 → Int32 → Int32 → Int32 → AH → Prop := Nat.rec (motive := fun _ => Int32 → Int32 → Int32 → Int32 → AH → Prop) (fun _ _ _ _ _ => False) (fun _ rc3 x1 x2 x3 x4 h => if (nI 5) < x4 then (K (nI 0) h) else (P_X8_at F x1 x2 x4 h (fun (r2 : Int32) (h1 : AH) => vp_in r2 441 ∧ (if (h1 57 r2.toNatClampNeg) ≤ (nI 0) then (X8_isBarredAt_c35 F rc3 K x1 x2 x3 x4 h1) else (P_X8_goTogether F x3 x4 h1 (fun (r4 : Int32) (h3 : AH) => if ¬ r4 = (nI 0) then (X8_isBarredAt_c35 F rc3 K x1 x2 x3 x4 h3) else (K (nI 1) h3))))))) n
theorem X8_isBarredAt_c3_s {F : Nat} {K : Int32 → AH → Prop} {n : Nat} {x1 : Int32} {x2 : Int32} {x3 : Int32} {x4 : Int32} {h : AH} : X8_isBarredAt_c3 F K (n + 1) x1 x2 x3 x4 h = (if (nI 5) < x4 then (K (nI 0) h) else (P_X8_at F x1 x2 x4 h (fun (r2 : Int32) (h1 : AH) => vp_in r2 441 ∧ (if (h1 57 r2.toNatClampNeg) ≤ (nI 0) then (X8_isBarredAt_c35 F (X8_isBarredAt_c3 F K n) K x1 x2 x3 x4 h1) else (P_X8_goTogether F x3 x4 h1 (fun (r4 : Int32) (h3 : AH) => if ¬ r4 = (nI 0) then (X8_isBarredAt_c35 F (X8_isBarredAt_c3 F K n) K x1 x2 x3 x4 h3) else (K (nI 1) h3))))))) := rfl
set_option maxHeartbeats 4000000 in
theorem bw_X8_isBarredAt_c3 {l : Launch} {d : Nat} {F : Nat} {K : Int32 → AH → Prop} (hd : 2 ≤ d) : ∀ (n : Nat) (x1 : Int32) (x2 : Int32) (x3 : Int32) (x4 : Int32) (h : AH), X8_isBarredAt_c3 F K n x1 x2 x3 x4 h → BW RX8 cX8_isBarredAt 5 (some .boolean) l (rmD d) tb0 3 [.ref 56, .int x1, .int x2, .int x3, .int x4] [] 3 h (Qi K) := by
  have hk1 : 1 ≤ d := by omega
  have hk_X8_at : 0 ≤ d - 1 := by omega
  have hk_X8_goTogether : 1 ≤ d - 1 := by omega
  intro n
  induction n with
  | zero =>
    intro x1 x2 x3 x4 h hM
    exact hM.elim
  | succ n hr3 =>
    intro x1 x2 x3 x4 h hM
    rw [X8_isBarredAt_c3_s] at hM
    refine B_iload dX8_isBarredAt_3 rfl ?_
    refine B_iconst dX8_isBarredAt_5 k_ic_5 ?_
    refine B_icmp_gt dX8_isBarredAt_6 hM (tgt := 41) rfl (fun hM => ?_) (fun hM => ?_)
    · refine B_iconst dX8_isBarredAt_41 k_ic_0 ?_
      exact B_iret ⟨_, rfl, hM⟩ zB_0 dX8_isBarredAt_42
    · refine B_aload_n dX8_isBarredAt_9 rfl ?_
      refine B_getR (sc_56) vc_8 (k := 1) (j := 57) rfl (by decide) inG8 ⟨rfl, rfl, rfl⟩ ww_fl_X8_15 dX8_isBarredAt_10 ?_
      refine B_iload_n dX8_isBarredAt_13 rfl ?_
      refine B_iload_n dX8_isBarredAt_14 rfl ?_
      refine B_iload dX8_isBarredAt_15 rfl ?_
      refine B_cS3i (c_X8_at (d := d - 1) hk_X8_at  hM) csS_X8_84 hp0 (rm_f hk1) (rm_l hk1 (by decide)) (Nat.le_of_ble_eq_true rfl) dX8_isBarredAt_17 (fun r2 h1 hM => ?_)
      refine B_iald (sc_57) hM dX8_isBarredAt_20 (fun hM => ?_)
      refine B_if_le dX8_isBarredAt_21 hM (tgt := 35) rfl (fun hM => ?_) (fun hM => ?_)
      · exact B_wk (bw_X8_isBarredAt_c35 hd hr3 hM) (wk_1 (wk_1 (wk_1 (wk_1 (wk_1 wk_n)))))
      · refine B_iload_n dX8_isBarredAt_24 rfl ?_
        refine B_iload dX8_isBarredAt_25 rfl ?_
        refine B_cS2i (c_X8_goTogether (d := d - 1) hk_X8_goTogether  hM) csS_X8_100 hp0 (rm_f hk1) (rm_l hk1 (by decide)) (Nat.le_of_ble_eq_true rfl) dX8_isBarredAt_27 (fun r4 h3 hM => ?_)
        refine B_if_ne dX8_isBarredAt_30 hM (tgt := 35) rfl (fun hM => ?_) (fun hM => ?_)
        · exact B_wk (bw_X8_isBarredAt_c35 hd hr3 hM) (wk_1 (wk_1 (wk_1 (wk_1 (wk_1 wk_n)))))
        · refine B_iconst dX8_isBarredAt_33 k_ic_1 ?_
          exact B_iret ⟨_, rfl, hM⟩ zB_1 dX8_isBarredAt_34
def P_X8_isBarredAt (F : Nat) (a1 : Int32) (a2 : Int32) (a3 : Int32) (h : AH) (K : Int32 → AH → Prop) : Prop := X8_isBarredAt_c3 F K F a1 a2 a3 (nI 1) h
set_option maxHeartbeats 4000000 in
theorem c_X8_isBarredAt {l : Launch} {d : Nat} {F : Nat} {a1 : Int32} {a2 : Int32} {a3 : Int32} {h : AH} {K : Int32 → AH → Prop} (hd : 2 ≤ d) (hM : P_X8_isBarredAt F a1 a2 a3 h K) : Ct l yX8_isBarredAt cX8_isBarredAt 5 (some .boolean) (rmD d) [.ref 56, .int a1, .int a2, .int a3] h (Qi K) := by
  have hk1 : 1 ≤ d := by omega
  have hk_X8_at : 0 ≤ d - 1 := by omega
  have hk_X8_goTogether : 1 ≤ d - 1 := by omega
  refine Ct_ofBW (by decide) rfl (Nat.le_of_ble_eq_true rfl) ⟨rfl, rfl⟩ ?_
  show BW RX8 cX8_isBarredAt 5 (some .boolean) l (rmD d) tb0 3 [.ref 56, .int a1, .int a2, .int a3, .null] [] 0 h (Qi K)
  unfold P_X8_isBarredAt at hM
  refine B_iconst dX8_isBarredAt_0 k_ic_1 ?_
  refine B_istore dX8_isBarredAt_1 (Nat.le_of_ble_eq_true rfl) ?_
  exact B_wk (bw_X8_isBarredAt_c3 hd  _ _ _ _ _ _ hM) (wk_1 (wk_1 (wk_1 (wk_1 (wk_1 wk_n)))))

def X8_isBarred_c22 (F : Nat) (K : Int32 → AH → Prop) (n : Nat) : Int32 → Int32 → Int32 → AH → Prop := Nat.rec (motive := fun _ => Int32 → Int32 → Int32 → AH → Prop) (fun _ _ _ _ => False) (fun _ rc22 x2 x3 x4 h => if x4 = (-1 : Int32) then (K (nI 0) h) else (P_X8_above F x2 h (fun (r2 : Int32) (h1 : AH) => P_X8_isBarredAt F x3 x4 r2 h1 (fun (r4 : Int32) (h3 : AH) => if r4 = (nI 0) then (vp_in ((nI 1) + x4) 441 ∧ (rc22 x2 x3 (h3 57 ((nI 1) + x4).toNatClampNeg) h3)) else (K (nI 1) h3))))) n
theorem X8_isBarred_c22_s {F : Nat} {K : Int32 → AH → Prop} {n : Nat} {x2 : Int32} {x3 : Int32} {x4 : Int32} {h : AH} : X8_isBarred_c22 F K (n + 1) x2 x3 x4 h = (if x4 = (-1 : Int32) then (K (nI 0) h) else (P_X8_above F x2 h (fun (r2 : Int32) (h1 : AH) => P_X8_isBarredAt F x3 x4 r2 h1 (fun (r4 : Int32) (h3 : AH) => if r4 = (nI 0) then (vp_in ((nI 1) + x4) 441 ∧ ((X8_isBarred_c22 F K n) x2 x3 (h3 57 ((nI 1) + x4).toNatClampNeg) h3)) else (K (nI 1) h3))))) := rfl
set_option maxHeartbeats 4000000 in
theorem bw_X8_isBarred_c22 {l : Launch} {d : Nat} {F : Nat} {K : Int32 → AH → Prop} (hd : 3 ≤ d) : ∀ (n : Nat) (x2 : Int32) (x3 : Int32) (x4 : Int32) (h : AH), X8_isBarred_c22 F K n x2 x3 x4 h → BW RX8 cX8_isBarred 5 (some .boolean) l (rmD d) tb0 3 [.ref 56, .null, .int x2, .int x3, .int x4] [] 22 h (Qi K) := by
  have hk1 : 1 ≤ d := by omega
  have hk_X8_above : 0 ≤ d - 1 := by omega
  have hk_X8_isBarredAt : 2 ≤ d - 1 := by omega
  intro n
  induction n with
  | zero =>
    intro x2 x3 x4 h hM
    exact hM.elim
  | succ n hr22 =>
    intro x2 x3 x4 h hM
    rw [X8_isBarred_c22_s] at hM
    refine B_iload dX8_isBarred_22 rfl ?_
    refine B_iconst dX8_isBarred_24 k_ic_m1 ?_
    refine B_icmp_eq dX8_isBarred_25 hM (tgt := 58) rfl (fun hM => ?_) (fun hM => ?_)
    · refine B_iconst dX8_isBarred_58 k_ic_0 ?_
      exact B_iret ⟨_, rfl, hM⟩ zB_0 dX8_isBarred_59
    · refine B_aload_n dX8_isBarred_28 rfl ?_
      refine B_iload_n dX8_isBarred_29 rfl ?_
      refine B_iload dX8_isBarred_30 rfl ?_
      refine B_iload_n dX8_isBarred_32 rfl ?_
      refine B_cS1i (c_X8_above (d := d - 1) hk_X8_above  hM) csS_X8_106 hp0 (rm_f hk1) (rm_l hk1 (by decide)) (Nat.le_of_ble_eq_true rfl) dX8_isBarred_33 (fun r2 h1 hM => ?_)
      refine B_cV3i (c_X8_isBarredAt (d := d - 1) hk_X8_isBarredAt  hM) csV_X8_103 (sc_56) vc_8 rfl hp0 (rm_f hk1) (rm_l hk1 (by decide)) (Nat.le_of_ble_eq_true rfl) dX8_isBarred_36 (fun r4 h3 hM => ?_)
      refine B_if_eq dX8_isBarred_39 hM (tgt := 44) rfl (fun hM => ?_) (fun hM => ?_)
      · refine B_aload_n dX8_isBarred_44 rfl ?_
        refine B_getR (sc_56) vc_8 (k := 1) (j := 57) rfl (by decide) inG8 ⟨rfl, rfl, rfl⟩ ww_fl_X8_15 dX8_isBarred_45 ?_
        refine B_iconst dX8_isBarred_48 k_ic_1 ?_
        refine B_iload dX8_isBarred_49 rfl ?_
        refine B_iadd dX8_isBarred_51 ?_
        refine B_iald (sc_57) hM dX8_isBarred_52 (fun hM => ?_)
        refine B_istore dX8_isBarred_53 (Nat.le_of_ble_eq_true rfl) ?_
        refine B_goto (tgt := 22) dX8_isBarred_55 rfl ?_
        exact B_wk (hr22 _ _ _ _ hM) (wk_1 (wk_0 (wk_1 (wk_1 (wk_1 wk_n)))))
      · refine B_iconst dX8_isBarred_42 k_ic_1 ?_
        exact B_iret ⟨_, rfl, hM⟩ zB_1 dX8_isBarred_43
def P_X8_isBarred (F : Nat) (a1 : Int32) (a2 : Int32) (a3 : Int32) (h : AH) (K : Int32 → AH → Prop) : Prop := P_X8_isBarredAt F a3 a1 a2 h (fun (r2 : Int32) (h1 : AH) => if r2 = (nI 0) then (vp_in ((nI 1) + a1) 441 ∧ (X8_isBarred_c22 F K F a2 a3 (h1 57 ((nI 1) + a1).toNatClampNeg) h1)) else (K (nI 1) h1))
set_option maxHeartbeats 4000000 in
theorem c_X8_isBarred {l : Launch} {d : Nat} {F : Nat} {a1 : Int32} {a2 : Int32} {a3 : Int32} {h : AH} {K : Int32 → AH → Prop} (hd : 3 ≤ d) (hM : P_X8_isBarred F a1 a2 a3 h K) : Ct l yX8_isBarred cX8_isBarred 5 (some .boolean) (rmD d) [.ref 56, .int a1, .int a2, .int a3] h (Qi K) := by
  have hk1 : 1 ≤ d := by omega
  have hk_X8_above : 0 ≤ d - 1 := by omega
  have hk_X8_isBarredAt : 2 ≤ d - 1 := by omega
  refine Ct_ofBW (by decide) rfl (Nat.le_of_ble_eq_true rfl) ⟨rfl, rfl⟩ ?_
  show BW RX8 cX8_isBarred 5 (some .boolean) l (rmD d) tb0 3 [.ref 56, .int a1, .int a2, .int a3, .null] [] 0 h (Qi K)
  unfold P_X8_isBarred at hM
  refine B_aload_n dX8_isBarred_0 rfl ?_
  refine B_iload_n dX8_isBarred_1 rfl ?_
  refine B_iload_n dX8_isBarred_2 rfl ?_
  refine B_iload_n dX8_isBarred_3 rfl ?_
  refine B_cV3i (c_X8_isBarredAt (d := d - 1) hk_X8_isBarredAt  hM) csV_X8_103 (sc_56) vc_8 rfl hp0 (rm_f hk1) (rm_l hk1 (by decide)) (Nat.le_of_ble_eq_true rfl) dX8_isBarred_4 (fun r2 h1 hM => ?_)
  refine B_if_eq dX8_isBarred_7 hM (tgt := 12) rfl (fun hM => ?_) (fun hM => ?_)
  · refine B_aload_n dX8_isBarred_12 rfl ?_
    refine B_getR (sc_56) vc_8 (k := 1) (j := 57) rfl (by decide) inG8 ⟨rfl, rfl, rfl⟩ ww_fl_X8_15 dX8_isBarred_13 ?_
    refine B_iconst dX8_isBarred_16 k_ic_1 ?_
    refine B_iload_n dX8_isBarred_17 rfl ?_
    refine B_iadd dX8_isBarred_18 ?_
    refine B_iald (sc_57) hM dX8_isBarred_19 (fun hM => ?_)
    refine B_istore dX8_isBarred_20 (Nat.le_of_ble_eq_true rfl) ?_
    exact B_wk (bw_X8_isBarred_c22 hd  _ _ _ _ _ hM) (wk_1 (wk_0 (wk_1 (wk_1 (wk_1 wk_n)))))
  · refine B_iconst dX8_isBarred_10 k_ic_1 ?_
    exact B_iret ⟨_, rfl, hM⟩ zB_1 dX8_isBarred_11

def P_X8_isRaise (F : Nat) (a1 : Int32) (a2 : Int32) (h : AH) (K : Int32 → AH → Prop) : Prop := P_X8_at F a1 a2 (nI 2) h (fun (r2 : Int32) (h1 : AH) => vp_in r2 441 ∧ (if (nI 0) < (h1 57 r2.toNatClampNeg) then (K (nI 1) h1) else (P_X8_at F a1 a2 (nI 4) h1 (fun (r4 : Int32) (h3 : AH) => vp_in r4 441 ∧ (if (nI 0) < (h3 57 r4.toNatClampNeg) then (K (nI 1) h3) else (P_X8_at F a1 a2 (nI 5) h3 (fun (r6 : Int32) (h5 : AH) => vp_in r6 441 ∧ (if (h5 57 r6.toNatClampNeg) ≤ (nI 0) then (K (nI 0) h5) else (K (nI 1) h5)))))))))
set_option maxHeartbeats 4000000 in
theorem c_X8_isRaise {l : Launch} {d : Nat} {F : Nat} {a1 : Int32} {a2 : Int32} {h : AH} {K : Int32 → AH → Prop} (hd : 1 ≤ d) (hM : P_X8_isRaise F a1 a2 h K) : Ct l yX8_isRaise cX8_isRaise 3 (some .boolean) (rmD d) [.ref 56, .int a1, .int a2] h (Qi K) := by
  have hk1 : 1 ≤ d := by omega
  have hk_X8_at : 0 ≤ d - 1 := by omega
  refine Ct_ofBW (by decide) rfl (Nat.le_of_ble_eq_true rfl) ⟨rfl, rfl⟩ ?_
  show BW RX8 cX8_isRaise 3 (some .boolean) l (rmD d) tb0 3 [.ref 56, .int a1, .int a2] [] 0 h (Qi K)
  unfold P_X8_isRaise at hM
  refine B_aload_n dX8_isRaise_0 rfl ?_
  refine B_getR (sc_56) vc_8 (k := 1) (j := 57) rfl (by decide) inG8 ⟨rfl, rfl, rfl⟩ ww_fl_X8_15 dX8_isRaise_1 ?_
  refine B_iload_n dX8_isRaise_4 rfl ?_
  refine B_iload_n dX8_isRaise_5 rfl ?_
  refine B_iconst dX8_isRaise_6 k_ic_2 ?_
  refine B_cS3i (c_X8_at (d := d - 1) hk_X8_at  hM) csS_X8_84 hp0 (rm_f hk1) (rm_l hk1 (by decide)) (Nat.le_of_ble_eq_true rfl) dX8_isRaise_7 (fun r2 h1 hM => ?_)
  refine B_iald (sc_57) hM dX8_isRaise_10 (fun hM => ?_)
  refine B_if_gt dX8_isRaise_11 hM (tgt := 42) rfl (fun hM => ?_) (fun hM => ?_)
  · refine B_iconst dX8_isRaise_42 k_ic_1 ?_
    refine B_goto (tgt := 47) dX8_isRaise_43 rfl ?_
    exact B_iret ⟨_, rfl, hM⟩ zB_1 dX8_isRaise_47
  · refine B_aload_n dX8_isRaise_14 rfl ?_
    refine B_getR (sc_56) vc_8 (k := 1) (j := 57) rfl (by decide) inG8 ⟨rfl, rfl, rfl⟩ ww_fl_X8_15 dX8_isRaise_15 ?_
    refine B_iload_n dX8_isRaise_18 rfl ?_
    refine B_iload_n dX8_isRaise_19 rfl ?_
    refine B_iconst dX8_isRaise_20 k_ic_4 ?_
    refine B_cS3i (c_X8_at (d := d - 1) hk_X8_at  hM) csS_X8_84 hp0 (rm_f hk1) (rm_l hk1 (by decide)) (Nat.le_of_ble_eq_true rfl) dX8_isRaise_21 (fun r4 h3 hM => ?_)
    refine B_iald (sc_57) hM dX8_isRaise_24 (fun hM => ?_)
    refine B_if_gt dX8_isRaise_25 hM (tgt := 42) rfl (fun hM => ?_) (fun hM => ?_)
    · refine B_iconst dX8_isRaise_42 k_ic_1 ?_
      refine B_goto (tgt := 47) dX8_isRaise_43 rfl ?_
      exact B_iret ⟨_, rfl, hM⟩ zB_1 dX8_isRaise_47
    · refine B_aload_n dX8_isRaise_28 rfl ?_
      refine B_getR (sc_56) vc_8 (k := 1) (j := 57) rfl (by decide) inG8 ⟨rfl, rfl, rfl⟩ ww_fl_X8_15 dX8_isRaise_29 ?_
      refine B_iload_n dX8_isRaise_32 rfl ?_
      refine B_iload_n dX8_isRaise_33 rfl ?_
      refine B_iconst dX8_isRaise_34 k_ic_5 ?_
      refine B_cS3i (c_X8_at (d := d - 1) hk_X8_at  hM) csS_X8_84 hp0 (rm_f hk1) (rm_l hk1 (by decide)) (Nat.le_of_ble_eq_true rfl) dX8_isRaise_35 (fun r6 h5 hM => ?_)
      refine B_iald (sc_57) hM dX8_isRaise_38 (fun hM => ?_)
      refine B_if_le dX8_isRaise_39 hM (tgt := 46) rfl (fun hM => ?_) (fun hM => ?_)
      · refine B_iconst dX8_isRaise_46 k_ic_0 ?_
        exact B_iret ⟨_, rfl, hM⟩ zB_0 dX8_isRaise_47
      · refine B_iconst dX8_isRaise_42 k_ic_1 ?_
        refine B_goto (tgt := 47) dX8_isRaise_43 rfl ?_
        exact B_iret ⟨_, rfl, hM⟩ zB_1 dX8_isRaise_47

def X8_placeOf_c2 (F : Nat) (K : Int32 → AH → Prop) (n : Nat) : Int32 → Int32 → AH → Prop := Nat.rec (motive := fun _ => Int32 → Int32 → AH → Prop) (fun _ _ _ => False) (fun _ rc2 x1 x2 h => vp_in (nI 25) 441 ∧ (if (h 57 (nI 25).toNatClampNeg) ≤ x2 then (K (-1 : Int32) h) else (vp_in ((nI 26) + ((nI 3) * x2)) 441 ∧ (if ¬ (h 57 ((nI 26) + ((nI 3) * x2)).toNatClampNeg) = x1 then (rc2 x1 (x2 + (nI 1)) h) else (K x2 h))))) n
theorem X8_placeOf_c2_s {F : Nat} {K : Int32 → AH → Prop} {n : Nat} {x1 : Int32} {x2 : Int32} {h : AH} : X8_placeOf_c2 F K (n + 1) x1 x2 h = (vp_in (nI 25) 441 ∧ (if (h 57 (nI 25).toNatClampNeg) ≤ x2 then (K (-1 : Int32) h) else (vp_in ((nI 26) + ((nI 3) * x2)) 441 ∧ (if ¬ (h 57 ((nI 26) + ((nI 3) * x2)).toNatClampNeg) = x1 then ((X8_placeOf_c2 F K n) x1 (x2 + (nI 1)) h) else (K x2 h))))) := rfl
set_option maxHeartbeats 4000000 in
theorem bw_X8_placeOf_c2 {l : Launch} {d : Nat} {F : Nat} {K : Int32 → AH → Prop} (hd : 0 ≤ d) : ∀ (n : Nat) (x1 : Int32) (x2 : Int32) (h : AH), X8_placeOf_c2 F K n x1 x2 h → BW RX8 cX8_placeOf 3 (some .int) l (rmD d) tb0 3 [.ref 56, .int x1, .int x2] [] 2 h (Qi K) := by
  intro n
  induction n with
  | zero =>
    intro x1 x2 h hM
    exact hM.elim
  | succ n hr2 =>
    intro x1 x2 h hM
    rw [X8_placeOf_c2_s] at hM
    refine B_iload_n dX8_placeOf_2 rfl ?_
    refine B_aload_n dX8_placeOf_3 rfl ?_
    refine B_getR (sc_56) vc_8 (k := 1) (j := 57) rfl (by decide) inG8 ⟨rfl, rfl, rfl⟩ ww_fl_X8_15 dX8_placeOf_4 ?_
    refine B_bipush dX8_placeOf_7 k_bi_25 ?_
    refine B_iald (sc_57) hM dX8_placeOf_9 (fun hM => ?_)
    refine B_icmp_ge dX8_placeOf_10 hM (tgt := 36) rfl (fun hM => ?_) (fun hM => ?_)
    · refine B_iconst dX8_placeOf_36 k_ic_m1 ?_
      exact B_iret ⟨_, rfl, hM⟩ trivial dX8_placeOf_37
    · refine B_aload_n dX8_placeOf_13 rfl ?_
      refine B_getR (sc_56) vc_8 (k := 1) (j := 57) rfl (by decide) inG8 ⟨rfl, rfl, rfl⟩ ww_fl_X8_15 dX8_placeOf_14 ?_
      refine B_bipush dX8_placeOf_17 k_bi_26 ?_
      refine B_iconst dX8_placeOf_19 k_ic_3 ?_
      refine B_iload_n dX8_placeOf_20 rfl ?_
      refine B_imul dX8_placeOf_21 ?_
      refine B_iadd dX8_placeOf_22 ?_
      refine B_iald (sc_57) hM dX8_placeOf_23 (fun hM => ?_)
      refine B_iload_n dX8_placeOf_24 rfl ?_
      refine B_icmp_ne dX8_placeOf_25 hM (tgt := 30) rfl (fun hM => ?_) (fun hM => ?_)
      · refine B_iinc dX8_placeOf_30 rfl k_ic_1 (Nat.le_of_ble_eq_true rfl) ?_
        refine B_goto (tgt := 2) dX8_placeOf_33 rfl ?_
        exact B_wk (hr2 _ _ _ hM) (wk_1 (wk_1 (wk_1 wk_n)))
      · refine B_iload_n dX8_placeOf_28 rfl ?_
        exact B_iret ⟨_, rfl, hM⟩ trivial dX8_placeOf_29
def P_X8_placeOf (F : Nat) (a1 : Int32) (h : AH) (K : Int32 → AH → Prop) : Prop := X8_placeOf_c2 F K F a1 (nI 0) h
set_option maxHeartbeats 4000000 in
theorem c_X8_placeOf {l : Launch} {d : Nat} {F : Nat} {a1 : Int32} {h : AH} {K : Int32 → AH → Prop} (hd : 0 ≤ d) (hM : P_X8_placeOf F a1 h K) : Ct l yX8_placeOf cX8_placeOf 3 (some .int) (rmD d) [.ref 56, .int a1] h (Qi K) := by
  refine Ct_ofBW (by decide) rfl (Nat.le_of_ble_eq_true rfl) ⟨rfl, rfl⟩ ?_
  show BW RX8 cX8_placeOf 3 (some .int) l (rmD d) tb0 3 [.ref 56, .int a1, .null] [] 0 h (Qi K)
  unfold P_X8_placeOf at hM
  refine B_iconst dX8_placeOf_0 k_ic_0 ?_
  refine B_istore_n dX8_placeOf_1 (Nat.le_of_ble_eq_true rfl) ?_
  exact B_wk (bw_X8_placeOf_c2 hd  _ _ _ _ hM) (wk_1 (wk_1 (wk_1 wk_n)))

def P_X8_isInLine (F : Nat) (a1 : Int32) (h : AH) (K : Int32 → AH → Prop) : Prop := P_X8_placeOf F a1 h (fun (r2 : Int32) (h1 : AH) => if r2 = (-1 : Int32) then (K (nI 0) h1) else (K (nI 1) h1))
set_option maxHeartbeats 4000000 in
theorem c_X8_isInLine {l : Launch} {d : Nat} {F : Nat} {a1 : Int32} {h : AH} {K : Int32 → AH → Prop} (hd : 1 ≤ d) (hM : P_X8_isInLine F a1 h K) : Ct l yX8_isInLine cX8_isInLine 2 (some .boolean) (rmD d) [.ref 56, .int a1] h (Qi K) := by
  have hk1 : 1 ≤ d := by omega
  have hk_X8_placeOf : 0 ≤ d - 1 := by omega
  refine Ct_ofBW (by decide) rfl (Nat.le_of_ble_eq_true rfl) ⟨rfl, rfl⟩ ?_
  show BW RX8 cX8_isInLine 2 (some .boolean) l (rmD d) tb0 3 [.ref 56, .int a1] [] 0 h (Qi K)
  unfold P_X8_isInLine at hM
  refine B_aload_n dX8_isInLine_0 rfl ?_
  refine B_iload_n dX8_isInLine_1 rfl ?_
  refine B_cV1i (c_X8_placeOf (d := d - 1) hk_X8_placeOf  hM) csV_X8_109 (sc_56) vc_8 rfl hp0 (rm_f hk1) (rm_l hk1 (by decide)) (Nat.le_of_ble_eq_true rfl) dX8_isInLine_2 (fun r2 h1 hM => ?_)
  refine B_iconst dX8_isInLine_5 k_ic_m1 ?_
  refine B_icmp_eq dX8_isInLine_6 hM (tgt := 13) rfl (fun hM => ?_) (fun hM => ?_)
  · refine B_iconst dX8_isInLine_13 k_ic_0 ?_
    exact B_iret ⟨_, rfl, hM⟩ zB_0 dX8_isInLine_14
  · refine B_iconst dX8_isInLine_9 k_ic_1 ?_
    refine B_goto (tgt := 14) dX8_isInLine_10 rfl ?_
    exact B_iret ⟨_, rfl, hM⟩ zB_1 dX8_isInLine_14

def X8_barring_c129 (F : Nat) (rc64 : Int32 → Int32 → Int32 → Int32 → Int32 → Int32 → AH → Prop) (K : Int32 → AH → Prop) (x1 : Int32) (x2 : Int32) (x3 : Int32) (x4 : Int32) (x5 : Int32) (x6 : Int32) (h : AH) : Prop := rc64 x1 x2 x3 x4 x5 (x6 + (nI 1)) h
set_option maxHeartbeats 4000000 in
theorem bw_X8_barring_c129 {l : Launch} {d : Nat} {F : Nat} {rc64 : Int32 → Int32 → Int32 → Int32 → Int32 → Int32 → AH → Prop} {K : Int32 → AH → Prop} {x1 : Int32} {x2 : Int32} {x3 : Int32} {x4 : Int32} {x5 : Int32} {x6 : Int32} {h : AH} (hd : 4 ≤ d) (hr64 : ∀ (x1 : Int32) (x2 : Int32) (x3 : Int32) (x4 : Int32) (x5 : Int32) (x6 : Int32) (h : AH), rc64 x1 x2 x3 x4 x5 x6 h → BW RX8 cX8_barring 7 (some .int) l (rmD d) tb0 3 [.ref 56, .int x1, .int x2, .int x3, .int x4, .int x5, .int x6] [] 64 h (Qi K)) (hM : X8_barring_c129 F rc64 K x1 x2 x3 x4 x5 x6 h) : BW RX8 cX8_barring 7 (some .int) l (rmD d) tb0 3 [.ref 56, .int x1, .int x2, .int x3, .int x4, .int x5, .int x6] [] 129 h (Qi K) := by
  have hk1 : 1 ≤ d := by omega
  have hk_X8_goTogether : 1 ≤ d - 1 := by omega
  have hk_X8_isBarred : 3 ≤ d - 1 := by omega
  have hk_X8_isRaise : 1 ≤ d - 1 := by omega
  unfold X8_barring_c129 at hM
  refine B_iinc dX8_barring_129 rfl k_ic_1 (Nat.le_of_ble_eq_true rfl) ?_
  refine B_goto (tgt := 64) dX8_barring_132 rfl ?_
  exact B_wk (hr64 _ _ _ _ _ _ _ hM) (wk_1 (wk_1 (wk_1 (wk_1 (wk_1 (wk_1 (wk_1 wk_n)))))))
def X8_barring_c64 (F : Nat) (K : Int32 → AH → Prop) (n : Nat) : Int32 → Int32 → Int32 → Int32 → Int32 → Int32 → AH → Prop := Nat.rec (motive := fun _ => Int32 → Int32 → Int32 → Int32 → Int32 → Int32 → AH → Prop) (fun _ _ _ _ _ _ _ => False) (fun _ rc64 x1 x2 x3 x4 x5 x6 h => if x4 ≤ x6 then (K (x5 &&& (((nI 1) <<< (x1 &&& 31)) ^^^ (-1 : Int32))) h) else (vp_in (((nI 26) + ((nI 3) * x6)) + (nI 1)) 441 ∧ (if ¬ (h 57 (((nI 26) + ((nI 3) * x6)) + (nI 1)).toNatClampNeg) = x2 then (X8_barring_c129 F rc64 K x1 x2 x3 x4 x5 x6 h) else (vp_in (((nI 26) + ((nI 3) * x6)) + (nI 2)) 441 ∧ (P_X8_goTogether F x3 (h 57 (((nI 26) + ((nI 3) * x6)) + (nI 2)).toNatClampNeg) h (fun (r2 : Int32) (h1 : AH) => if ¬ r2 = (nI 0) then (X8_barring_c129 F rc64 K x1 x2 x3 x4 x5 x6 h1) else (vp_in ((nI 26) + ((nI 3) * x6)) 441 ∧ (X8_barring_c129 F rc64 K x1 x2 x3 x4 (x5 ||| ((nI 1) <<< ((h1 57 ((nI 26) + ((nI 3) * x6)).toNatClampNeg) &&& 31))) x6 h1)))))))) n
theorem X8_barring_c64_s {F : Nat} {K : Int32 → AH → Prop} {n : Nat} {x1 : Int32} {x2 : Int32} {x3 : Int32} {x4 : Int32} {x5 : Int32} {x6 : Int32} {h : AH} : X8_barring_c64 F K (n + 1) x1 x2 x3 x4 x5 x6 h = (if x4 ≤ x6 then (K (x5 &&& (((nI 1) <<< (x1 &&& 31)) ^^^ (-1 : Int32))) h) else (vp_in (((nI 26) + ((nI 3) * x6)) + (nI 1)) 441 ∧ (if ¬ (h 57 (((nI 26) + ((nI 3) * x6)) + (nI 1)).toNatClampNeg) = x2 then (X8_barring_c129 F (X8_barring_c64 F K n) K x1 x2 x3 x4 x5 x6 h) else (vp_in (((nI 26) + ((nI 3) * x6)) + (nI 2)) 441 ∧ (P_X8_goTogether F x3 (h 57 (((nI 26) + ((nI 3) * x6)) + (nI 2)).toNatClampNeg) h (fun (r2 : Int32) (h1 : AH) => if ¬ r2 = (nI 0) then (X8_barring_c129 F (X8_barring_c64 F K n) K x1 x2 x3 x4 x5 x6 h1) else (vp_in ((nI 26) + ((nI 3) * x6)) 441 ∧ (X8_barring_c129 F (X8_barring_c64 F K n) K x1 x2 x3 x4 (x5 ||| ((nI 1) <<< ((h1 57 ((nI 26) + ((nI 3) * x6)).toNatClampNeg) &&& 31))) x6 h1)))))))) := rfl
set_option maxHeartbeats 4000000 in
theorem bw_X8_barring_c64 {l : Launch} {d : Nat} {F : Nat} {K : Int32 → AH → Prop} (hd : 4 ≤ d) : ∀ (n : Nat) (x1 : Int32) (x2 : Int32) (x3 : Int32) (x4 : Int32) (x5 : Int32) (x6 : Int32) (h : AH), X8_barring_c64 F K n x1 x2 x3 x4 x5 x6 h → BW RX8 cX8_barring 7 (some .int) l (rmD d) tb0 3 [.ref 56, .int x1, .int x2, .int x3, .int x4, .int x5, .int x6] [] 64 h (Qi K) := by
  have hk1 : 1 ≤ d := by omega
  have hk_X8_goTogether : 1 ≤ d - 1 := by omega
  have hk_X8_isBarred : 3 ≤ d - 1 := by omega
  have hk_X8_isRaise : 1 ≤ d - 1 := by omega
  intro n
  induction n with
  | zero =>
    intro x1 x2 x3 x4 x5 x6 h hM
    exact hM.elim
  | succ n hr64 =>
    intro x1 x2 x3 x4 x5 x6 h hM
    rw [X8_barring_c64_s] at hM
    refine B_iload dX8_barring_64 rfl ?_
    refine B_iload dX8_barring_66 rfl ?_
    refine B_icmp_ge dX8_barring_68 hM (tgt := 135) rfl (fun hM => ?_) (fun hM => ?_)
    · refine B_iload dX8_barring_135 rfl ?_
      refine B_iconst dX8_barring_137 k_ic_1 ?_
      refine B_iload_n dX8_barring_138 rfl ?_
      refine B_ishl dX8_barring_139 ?_
      refine B_iconst dX8_barring_140 k_ic_m1 ?_
      refine B_ixor dX8_barring_141 ?_
      refine B_iand dX8_barring_142 ?_
      exact B_iret ⟨_, rfl, hM⟩ trivial dX8_barring_143
    · refine B_aload_n dX8_barring_71 rfl ?_
      refine B_getR (sc_56) vc_8 (k := 1) (j := 57) rfl (by decide) inG8 ⟨rfl, rfl, rfl⟩ ww_fl_X8_15 dX8_barring_72 ?_
      refine B_bipush dX8_barring_75 k_bi_26 ?_
      refine B_iconst dX8_barring_77 k_ic_3 ?_
      refine B_iload dX8_barring_78 rfl ?_
      refine B_imul dX8_barring_80 ?_
      refine B_iadd dX8_barring_81 ?_
      refine B_iconst dX8_barring_82 k_ic_1 ?_
      refine B_iadd dX8_barring_83 ?_
      refine B_iald (sc_57) hM dX8_barring_84 (fun hM => ?_)
      refine B_iload_n dX8_barring_85 rfl ?_
      refine B_icmp_ne dX8_barring_86 hM (tgt := 129) rfl (fun hM => ?_) (fun hM => ?_)
      · exact B_wk (bw_X8_barring_c129 hd hr64 hM) (wk_1 (wk_1 (wk_1 (wk_1 (wk_1 (wk_1 (wk_1 wk_n)))))))
      · refine B_iload_n dX8_barring_89 rfl ?_
        refine B_aload_n dX8_barring_90 rfl ?_
        refine B_getR (sc_56) vc_8 (k := 1) (j := 57) rfl (by decide) inG8 ⟨rfl, rfl, rfl⟩ ww_fl_X8_15 dX8_barring_91 ?_
        refine B_bipush dX8_barring_94 k_bi_26 ?_
        refine B_iconst dX8_barring_96 k_ic_3 ?_
        refine B_iload dX8_barring_97 rfl ?_
        refine B_imul dX8_barring_99 ?_
        refine B_iadd dX8_barring_100 ?_
        refine B_iconst dX8_barring_101 k_ic_2 ?_
        refine B_iadd dX8_barring_102 ?_
        refine B_iald (sc_57) hM dX8_barring_103 (fun hM => ?_)
        refine B_cS2i (c_X8_goTogether (d := d - 1) hk_X8_goTogether  hM) csS_X8_100 hp0 (rm_f hk1) (rm_l hk1 (by decide)) (Nat.le_of_ble_eq_true rfl) dX8_barring_104 (fun r2 h1 hM => ?_)
        refine B_if_ne dX8_barring_107 hM (tgt := 129) rfl (fun hM => ?_) (fun hM => ?_)
        · exact B_wk (bw_X8_barring_c129 hd hr64 hM) (wk_1 (wk_1 (wk_1 (wk_1 (wk_1 (wk_1 (wk_1 wk_n)))))))
        · refine B_iload dX8_barring_110 rfl ?_
          refine B_iconst dX8_barring_112 k_ic_1 ?_
          refine B_aload_n dX8_barring_113 rfl ?_
          refine B_getR (sc_56) vc_8 (k := 1) (j := 57) rfl (by decide) inG8 ⟨rfl, rfl, rfl⟩ ww_fl_X8_15 dX8_barring_114 ?_
          refine B_bipush dX8_barring_117 k_bi_26 ?_
          refine B_iconst dX8_barring_119 k_ic_3 ?_
          refine B_iload dX8_barring_120 rfl ?_
          refine B_imul dX8_barring_122 ?_
          refine B_iadd dX8_barring_123 ?_
          refine B_iald (sc_57) hM dX8_barring_124 (fun hM => ?_)
          refine B_ishl dX8_barring_125 ?_
          refine B_ior dX8_barring_126 ?_
          refine B_istore dX8_barring_127 (Nat.le_of_ble_eq_true rfl) ?_
          exact B_wk (bw_X8_barring_c129 hd hr64 hM) (wk_1 (wk_1 (wk_1 (wk_1 (wk_1 (wk_1 (wk_1 wk_n)))))))
def X8_barring_c40 (F : Nat) (rc6 : Int32 → Int32 → Int32 → Int32 → Int32 → Int32 → AH → Prop) (K : Int32 → AH → Prop) (x1 : Int32) (x2 : Int32) (x3 : Int32) (x4 : Int32) (x6 : Int32) (s0 : Int32) (s1 : Int32) (h : AH) : Prop := rc6 x1 x2 x3 x4 (s0 ||| s1) (x6 + (nI 1)) h
set_option maxHeartbeats 4000000 in
theorem bw_X8_barring_c40 {l : Launch} {d : Nat} {F : Nat} {rc6 : Int32 → Int32 → Int32 → Int32 → Int32 → Int32 → AH → Prop} {K : Int32 → AH → Prop} {x1 : Int32} {x2 : Int32} {x3 : Int32} {x4 : Int32} {x6 : Int32} {s0 : Int32} {s1 : Int32} {h : AH} (hd : 4 ≤ d) (hr6 : ∀ (x1 : Int32) (x2 : Int32) (x3 : Int32) (x4 : Int32) (x5 : Int32) (x6 : Int32) (h : AH), rc6 x1 x2 x3 x4 x5 x6 h → BW RX8 cX8_barring 7 (some .int) l (rmD d) tb0 3 [.ref 56, .int x1, .int x2, .int x3, .int x4, .int x5, .int x6] [] 6 h (Qi K)) (hM : X8_barring_c40 F rc6 K x1 x2 x3 x4 x6 s0 s1 h) : BW RX8 cX8_barring 7 (some .int) l (rmD d) tb0 3 [.ref 56, .int x1, .int x2, .int x3, .int x4, .null, .int x6] [.int s1, .int s0] 40 h (Qi K) := by
  have hk1 : 1 ≤ d := by omega
  have hk_X8_goTogether : 1 ≤ d - 1 := by omega
  have hk_X8_isBarred : 3 ≤ d - 1 := by omega
  have hk_X8_isRaise : 1 ≤ d - 1 := by omega
  unfold X8_barring_c40 at hM
  refine B_ior dX8_barring_40 ?_
  refine B_istore dX8_barring_41 (Nat.le_of_ble_eq_true rfl) ?_
  refine B_iinc dX8_barring_43 rfl k_ic_1 (Nat.le_of_ble_eq_true rfl) ?_
  refine B_goto (tgt := 6) dX8_barring_46 rfl ?_
  exact B_wk (hr6 _ _ _ _ _ _ _ hM) (wk_1 (wk_1 (wk_1 (wk_1 (wk_1 (wk_1 (wk_1 wk_n)))))))
def X8_barring_c39 (F : Nat) (rc6 : Int32 → Int32 → Int32 → Int32 → Int32 → Int32 → AH → Prop) (K : Int32 → AH → Prop) (x1 : Int32) (x2 : Int32) (x3 : Int32) (x4 : Int32) (x6 : Int32) (s0 : Int32) (h : AH) : Prop := X8_barring_c40 F rc6 K x1 x2 x3 x4 x6 s0 (nI 0) h
set_option maxHeartbeats 4000000 in
theorem bw_X8_barring_c39 {l : Launch} {d : Nat} {F : Nat} {rc6 : Int32 → Int32 → Int32 → Int32 → Int32 → Int32 → AH → Prop} {K : Int32 → AH → Prop} {x1 : Int32} {x2 : Int32} {x3 : Int32} {x4 : Int32} {x6 : Int32} {s0 : Int32} {h : AH} (hd : 4 ≤ d) (hr6 : ∀ (x1 : Int32) (x2 : Int32) (x3 : Int32) (x4 : Int32) (x5 : Int32) (x6 : Int32) (h : AH), rc6 x1 x2 x3 x4 x5 x6 h → BW RX8 cX8_barring 7 (some .int) l (rmD d) tb0 3 [.ref 56, .int x1, .int x2, .int x3, .int x4, .int x5, .int x6] [] 6 h (Qi K)) (hM : X8_barring_c39 F rc6 K x1 x2 x3 x4 x6 s0 h) : BW RX8 cX8_barring 7 (some .int) l (rmD d) tb0 3 [.ref 56, .int x1, .int x2, .int x3, .int x4, .null, .int x6] [.int s0] 39 h (Qi K) := by
  have hk1 : 1 ≤ d := by omega
  have hk_X8_goTogether : 1 ≤ d - 1 := by omega
  have hk_X8_isBarred : 3 ≤ d - 1 := by omega
  have hk_X8_isRaise : 1 ≤ d - 1 := by omega
  unfold X8_barring_c39 at hM
  refine B_iconst dX8_barring_39 k_ic_0 ?_
  exact B_wk (bw_X8_barring_c40 hd hr6 hM) (wk_1 (wk_1 (wk_1 (wk_1 (wk_1 (wk_0 (wk_1 wk_n)))))))
def X8_barring_c6 (F : Nat) (K : Int32 → AH → Prop) (n : Nat) : Int32 → Int32 → Int32 → Int32 → Int32 → Int32 → AH → Prop := Nat.rec (motive := fun _ => Int32 → Int32 → Int32 → Int32 → Int32 → Int32 → AH → Prop) (fun _ _ _ _ _ _ _ => False) (fun _ rc6 x1 x2 x3 x4 x5 x6 h => if (nI 6) ≤ x6 then (P_X8_isRaise F x1 x2 h (fun (r2 : Int32) (h1 : AH) => if r2 = (nI 0) then (X8_barring_c64 F K F x1 x2 x3 x4 x5 (nI 0) h1) else (K x5 h1))) else (if x6 = x1 then (X8_barring_c39 F rc6 K x1 x2 x3 x4 x6 x5 h) else (P_X8_isBarred F x2 x3 x6 h (fun (r4 : Int32) (h3 : AH) => if r4 = (nI 0) then (X8_barring_c39 F rc6 K x1 x2 x3 x4 x6 x5 h3) else (X8_barring_c40 F rc6 K x1 x2 x3 x4 x6 x5 ((nI 1) <<< (x6 &&& 31)) h3))))) n
theorem X8_barring_c6_s {F : Nat} {K : Int32 → AH → Prop} {n : Nat} {x1 : Int32} {x2 : Int32} {x3 : Int32} {x4 : Int32} {x5 : Int32} {x6 : Int32} {h : AH} : X8_barring_c6 F K (n + 1) x1 x2 x3 x4 x5 x6 h = (if (nI 6) ≤ x6 then (P_X8_isRaise F x1 x2 h (fun (r2 : Int32) (h1 : AH) => if r2 = (nI 0) then (X8_barring_c64 F K F x1 x2 x3 x4 x5 (nI 0) h1) else (K x5 h1))) else (if x6 = x1 then (X8_barring_c39 F (X8_barring_c6 F K n) K x1 x2 x3 x4 x6 x5 h) else (P_X8_isBarred F x2 x3 x6 h (fun (r4 : Int32) (h3 : AH) => if r4 = (nI 0) then (X8_barring_c39 F (X8_barring_c6 F K n) K x1 x2 x3 x4 x6 x5 h3) else (X8_barring_c40 F (X8_barring_c6 F K n) K x1 x2 x3 x4 x6 x5 ((nI 1) <<< (x6 &&& 31)) h3))))) := rfl
set_option maxHeartbeats 4000000 in
theorem bw_X8_barring_c6 {l : Launch} {d : Nat} {F : Nat} {K : Int32 → AH → Prop} (hd : 4 ≤ d) : ∀ (n : Nat) (x1 : Int32) (x2 : Int32) (x3 : Int32) (x4 : Int32) (x5 : Int32) (x6 : Int32) (h : AH), X8_barring_c6 F K n x1 x2 x3 x4 x5 x6 h → BW RX8 cX8_barring 7 (some .int) l (rmD d) tb0 3 [.ref 56, .int x1, .int x2, .int x3, .int x4, .int x5, .int x6] [] 6 h (Qi K) := by
  have hk1 : 1 ≤ d := by omega
  have hk_X8_goTogether : 1 ≤ d - 1 := by omega
  have hk_X8_isBarred : 3 ≤ d - 1 := by omega
  have hk_X8_isRaise : 1 ≤ d - 1 := by omega
  intro n
  induction n with
  | zero =>
    intro x1 x2 x3 x4 x5 x6 h hM
    exact hM.elim
  | succ n hr6 =>
    intro x1 x2 x3 x4 x5 x6 h hM
    rw [X8_barring_c6_s] at hM
    refine B_iload dX8_barring_6 rfl ?_
    refine B_bipush dX8_barring_8 k_bi_6 ?_
    refine B_icmp_ge dX8_barring_10 hM (tgt := 49) rfl (fun hM => ?_) (fun hM => ?_)
    · refine B_aload_n dX8_barring_49 rfl ?_
      refine B_iload_n dX8_barring_50 rfl ?_
      refine B_iload_n dX8_barring_51 rfl ?_
      refine B_cV2i (c_X8_isRaise (d := d - 1) hk_X8_isRaise  hM) csV_X8_115 (sc_56) vc_8 rfl hp0 (rm_f hk1) (rm_l hk1 (by decide)) (Nat.le_of_ble_eq_true rfl) dX8_barring_52 (fun r2 h1 hM => ?_)
      refine B_if_eq dX8_barring_55 hM (tgt := 61) rfl (fun hM => ?_) (fun hM => ?_)
      · refine B_iconst dX8_barring_61 k_ic_0 ?_
        refine B_istore dX8_barring_62 (Nat.le_of_ble_eq_true rfl) ?_
        exact B_wk (bw_X8_barring_c64 hd  _ _ _ _ _ _ _ _ hM) (wk_1 (wk_1 (wk_1 (wk_1 (wk_1 (wk_1 (wk_1 wk_n)))))))
      · refine B_iload dX8_barring_58 rfl ?_
        exact B_iret ⟨_, rfl, hM⟩ trivial dX8_barring_60
    · refine B_iload dX8_barring_13 rfl ?_
      refine B_iload dX8_barring_15 rfl ?_
      refine B_iload_n dX8_barring_17 rfl ?_
      refine B_icmp_eq dX8_barring_18 hM (tgt := 39) rfl (fun hM => ?_) (fun hM => ?_)
      · exact B_wk (bw_X8_barring_c39 hd hr6 hM) (wk_1 (wk_1 (wk_1 (wk_1 (wk_1 (wk_0 (wk_1 wk_n)))))))
      · refine B_aload_n dX8_barring_21 rfl ?_
        refine B_iload_n dX8_barring_22 rfl ?_
        refine B_iload_n dX8_barring_23 rfl ?_
        refine B_iload dX8_barring_24 rfl ?_
        refine B_cV3i (c_X8_isBarred (d := d - 1) hk_X8_isBarred  hM) csV_X8_112 (sc_56) vc_8 rfl hp0 (rm_f hk1) (rm_l hk1 (by decide)) (Nat.le_of_ble_eq_true rfl) dX8_barring_26 (fun r4 h3 hM => ?_)
        refine B_if_eq dX8_barring_29 hM (tgt := 39) rfl (fun hM => ?_) (fun hM => ?_)
        · exact B_wk (bw_X8_barring_c39 hd hr6 hM) (wk_1 (wk_1 (wk_1 (wk_1 (wk_1 (wk_0 (wk_1 wk_n)))))))
        · refine B_iconst dX8_barring_32 k_ic_1 ?_
          refine B_iload dX8_barring_33 rfl ?_
          refine B_ishl dX8_barring_35 ?_
          refine B_goto (tgt := 40) dX8_barring_36 rfl ?_
          exact B_wk (bw_X8_barring_c40 hd hr6 hM) (wk_1 (wk_1 (wk_1 (wk_1 (wk_1 (wk_0 (wk_1 wk_n)))))))
def P_X8_barring (F : Nat) (a1 : Int32) (a2 : Int32) (a3 : Int32) (a4 : Int32) (h : AH) (K : Int32 → AH → Prop) : Prop := X8_barring_c6 F K F a1 a2 a3 a4 (nI 0) (nI 0) h
set_option maxHeartbeats 4000000 in
theorem c_X8_barring {l : Launch} {d : Nat} {F : Nat} {a1 : Int32} {a2 : Int32} {a3 : Int32} {a4 : Int32} {h : AH} {K : Int32 → AH → Prop} (hd : 4 ≤ d) (hM : P_X8_barring F a1 a2 a3 a4 h K) : Ct l yX8_barring cX8_barring 7 (some .int) (rmD d) [.ref 56, .int a1, .int a2, .int a3, .int a4] h (Qi K) := by
  have hk1 : 1 ≤ d := by omega
  have hk_X8_goTogether : 1 ≤ d - 1 := by omega
  have hk_X8_isBarred : 3 ≤ d - 1 := by omega
  have hk_X8_isRaise : 1 ≤ d - 1 := by omega
  refine Ct_ofBW (by decide) rfl (Nat.le_of_ble_eq_true rfl) ⟨rfl, rfl⟩ ?_
  show BW RX8 cX8_barring 7 (some .int) l (rmD d) tb0 3 [.ref 56, .int a1, .int a2, .int a3, .int a4, .null, .null] [] 0 h (Qi K)
  unfold P_X8_barring at hM
  refine B_iconst dX8_barring_0 k_ic_0 ?_
  refine B_istore dX8_barring_1 (Nat.le_of_ble_eq_true rfl) ?_
  refine B_iconst dX8_barring_3 k_ic_0 ?_
  refine B_istore dX8_barring_4 (Nat.le_of_ble_eq_true rfl) ?_
  exact B_wk (bw_X8_barring_c6 hd  _ _ _ _ _ _ _ _ hM) (wk_1 (wk_1 (wk_1 (wk_1 (wk_1 (wk_1 (wk_1 wk_n)))))))

def P_X8_canBe (F : Nat) (a1 : Int32) (a2 : Int32) (a3 : Int32) (h : AH) (K : Int32 → AH → Prop) : Prop := vp_in (nI 25) 441 ∧ (P_X8_barring F a1 a2 a3 (h 57 (nI 25).toNatClampNeg) h (fun (r2 : Int32) (h1 : AH) => if ¬ r2 = (nI 0) then (K (nI 0) h1) else (K (nI 1) h1)))
set_option maxHeartbeats 4000000 in
theorem c_X8_canBe {l : Launch} {d : Nat} {F : Nat} {a1 : Int32} {a2 : Int32} {a3 : Int32} {h : AH} {K : Int32 → AH → Prop} (hd : 5 ≤ d) (hM : P_X8_canBe F a1 a2 a3 h K) : Ct l yX8_canBe cX8_canBe 4 (some .boolean) (rmD d) [.ref 56, .int a1, .int a2, .int a3] h (Qi K) := by
  have hk1 : 1 ≤ d := by omega
  have hk_X8_barring : 4 ≤ d - 1 := by omega
  refine Ct_ofBW (by decide) rfl (Nat.le_of_ble_eq_true rfl) ⟨rfl, rfl⟩ ?_
  show BW RX8 cX8_canBe 4 (some .boolean) l (rmD d) tb0 3 [.ref 56, .int a1, .int a2, .int a3] [] 0 h (Qi K)
  unfold P_X8_canBe at hM
  refine B_aload_n dX8_canBe_0 rfl ?_
  refine B_iload_n dX8_canBe_1 rfl ?_
  refine B_iload_n dX8_canBe_2 rfl ?_
  refine B_iload_n dX8_canBe_3 rfl ?_
  refine B_aload_n dX8_canBe_4 rfl ?_
  refine B_getR (sc_56) vc_8 (k := 1) (j := 57) rfl (by decide) inG8 ⟨rfl, rfl, rfl⟩ ww_fl_X8_15 dX8_canBe_5 ?_
  refine B_bipush dX8_canBe_8 k_bi_25 ?_
  refine B_iald (sc_57) hM dX8_canBe_10 (fun hM => ?_)
  refine B_cV4i (c_X8_barring (d := d - 1) hk_X8_barring  hM) csV_X8_118 (sc_56) vc_8 rfl hp0 (rm_f hk1) (rm_l hk1 (by decide)) (Nat.le_of_ble_eq_true rfl) dX8_canBe_11 (fun r2 h1 hM => ?_)
  refine B_if_ne dX8_canBe_14 hM (tgt := 21) rfl (fun hM => ?_) (fun hM => ?_)
  · refine B_iconst dX8_canBe_21 k_ic_0 ?_
    exact B_iret ⟨_, rfl, hM⟩ zB_0 dX8_canBe_22
  · refine B_iconst dX8_canBe_17 k_ic_1 ?_
    refine B_goto (tgt := 22) dX8_canBe_18 rfl ?_
    exact B_iret ⟨_, rfl, hM⟩ zB_1 dX8_canBe_22

def P_X8_barringAt (F : Nat) (a1 : Int32) (h : AH) (K : Int32 → AH → Prop) : Prop := vp_in ((nI 26) + ((nI 3) * a1)) 441 ∧ (vp_in (((nI 26) + ((nI 3) * a1)) + (nI 1)) 441 ∧ (vp_in (((nI 26) + ((nI 3) * a1)) + (nI 2)) 441 ∧ (P_X8_barring F (h 57 ((nI 26) + ((nI 3) * a1)).toNatClampNeg) (h 57 (((nI 26) + ((nI 3) * a1)) + (nI 1)).toNatClampNeg) (h 57 (((nI 26) + ((nI 3) * a1)) + (nI 2)).toNatClampNeg) a1 h (fun (r2 : Int32) (h1 : AH) => K r2 h1))))
set_option maxHeartbeats 4000000 in
theorem c_X8_barringAt {l : Launch} {d : Nat} {F : Nat} {a1 : Int32} {h : AH} {K : Int32 → AH → Prop} (hd : 5 ≤ d) (hM : P_X8_barringAt F a1 h K) : Ct l yX8_barringAt cX8_barringAt 2 (some .int) (rmD d) [.ref 56, .int a1] h (Qi K) := by
  have hk1 : 1 ≤ d := by omega
  have hk_X8_barring : 4 ≤ d - 1 := by omega
  refine Ct_ofBW (by decide) rfl (Nat.le_of_ble_eq_true rfl) ⟨rfl, rfl⟩ ?_
  show BW RX8 cX8_barringAt 2 (some .int) l (rmD d) tb0 3 [.ref 56, .int a1] [] 0 h (Qi K)
  unfold P_X8_barringAt at hM
  refine B_aload_n dX8_barringAt_0 rfl ?_
  refine B_aload_n dX8_barringAt_1 rfl ?_
  refine B_getR (sc_56) vc_8 (k := 1) (j := 57) rfl (by decide) inG8 ⟨rfl, rfl, rfl⟩ ww_fl_X8_15 dX8_barringAt_2 ?_
  refine B_bipush dX8_barringAt_5 k_bi_26 ?_
  refine B_iconst dX8_barringAt_7 k_ic_3 ?_
  refine B_iload_n dX8_barringAt_8 rfl ?_
  refine B_imul dX8_barringAt_9 ?_
  refine B_iadd dX8_barringAt_10 ?_
  refine B_iald (sc_57) hM dX8_barringAt_11 (fun hM => ?_)
  refine B_aload_n dX8_barringAt_12 rfl ?_
  refine B_getR (sc_56) vc_8 (k := 1) (j := 57) rfl (by decide) inG8 ⟨rfl, rfl, rfl⟩ ww_fl_X8_15 dX8_barringAt_13 ?_
  refine B_bipush dX8_barringAt_16 k_bi_26 ?_
  refine B_iconst dX8_barringAt_18 k_ic_3 ?_
  refine B_iload_n dX8_barringAt_19 rfl ?_
  refine B_imul dX8_barringAt_20 ?_
  refine B_iadd dX8_barringAt_21 ?_
  refine B_iconst dX8_barringAt_22 k_ic_1 ?_
  refine B_iadd dX8_barringAt_23 ?_
  refine B_iald (sc_57) hM dX8_barringAt_24 (fun hM => ?_)
  refine B_aload_n dX8_barringAt_25 rfl ?_
  refine B_getR (sc_56) vc_8 (k := 1) (j := 57) rfl (by decide) inG8 ⟨rfl, rfl, rfl⟩ ww_fl_X8_15 dX8_barringAt_26 ?_
  refine B_bipush dX8_barringAt_29 k_bi_26 ?_
  refine B_iconst dX8_barringAt_31 k_ic_3 ?_
  refine B_iload_n dX8_barringAt_32 rfl ?_
  refine B_imul dX8_barringAt_33 ?_
  refine B_iadd dX8_barringAt_34 ?_
  refine B_iconst dX8_barringAt_35 k_ic_2 ?_
  refine B_iadd dX8_barringAt_36 ?_
  refine B_iald (sc_57) hM dX8_barringAt_37 (fun hM => ?_)
  refine B_iload_n dX8_barringAt_38 rfl ?_
  refine B_cV4i (c_X8_barring (d := d - 1) hk_X8_barring  hM) csV_X8_118 (sc_56) vc_8 rfl hp0 (rm_f hk1) (rm_l hk1 (by decide)) (Nat.le_of_ble_eq_true rfl) dX8_barringAt_39 (fun r2 h1 hM => ?_)
  exact B_iret ⟨_, rfl, hM⟩ trivial dX8_barringAt_42

def X8_changes_c26 (F : Nat) (K : AH → Prop) (n : Nat) : Int32 → Int32 → Int32 → Int32 → AH → Prop := Nat.rec (motive := fun _ => Int32 → Int32 → Int32 → Int32 → AH → Prop) (fun _ _ _ _ _ => False) (fun _ rc26 x1 x3 x4 x5 h => if x5 = (-1 : Int32) then (K h) else (P_X8_above F x3 h (fun (r2 : Int32) (h1 : AH) => P_X8_at F x1 x5 r2 h1 (fun (r4 : Int32) (h3 : AH) => vp_in r4 441 ∧ (vp_in r4 441 ∧ ((fun (h5 : AH) => vp_in ((nI 1) + x5) 441 ∧ (rc26 x1 x3 x4 (h5 57 ((nI 1) + x5).toNatClampNeg) h5)) (up h3 57 r4.toNatClampNeg ((h3 57 r4.toNatClampNeg) + x4)))))))) n
theorem X8_changes_c26_s {F : Nat} {K : AH → Prop} {n : Nat} {x1 : Int32} {x3 : Int32} {x4 : Int32} {x5 : Int32} {h : AH} : X8_changes_c26 F K (n + 1) x1 x3 x4 x5 h = (if x5 = (-1 : Int32) then (K h) else (P_X8_above F x3 h (fun (r2 : Int32) (h1 : AH) => P_X8_at F x1 x5 r2 h1 (fun (r4 : Int32) (h3 : AH) => vp_in r4 441 ∧ (vp_in r4 441 ∧ ((fun (h5 : AH) => vp_in ((nI 1) + x5) 441 ∧ ((X8_changes_c26 F K n) x1 x3 x4 (h5 57 ((nI 1) + x5).toNatClampNeg) h5)) (up h3 57 r4.toNatClampNeg ((h3 57 r4.toNatClampNeg) + x4)))))))) := rfl
set_option maxHeartbeats 4000000 in
theorem bw_X8_changes_c26 {l : Launch} {d : Nat} {F : Nat} {K : AH → Prop} (hd : 1 ≤ d) : ∀ (n : Nat) (x1 : Int32) (x3 : Int32) (x4 : Int32) (x5 : Int32) (h : AH), X8_changes_c26 F K n x1 x3 x4 x5 h → BW RX8 cX8_changes 6 none l (rmD d) tb0 3 [.ref 56, .int x1, .null, .int x3, .int x4, .int x5] [] 26 h (Qv K) := by
  have hk1 : 1 ≤ d := by omega
  have hk_X8_above : 0 ≤ d - 1 := by omega
  have hk_X8_at : 0 ≤ d - 1 := by omega
  intro n
  induction n with
  | zero =>
    intro x1 x3 x4 x5 h hM
    exact hM.elim
  | succ n hr26 =>
    intro x1 x3 x4 x5 h hM
    rw [X8_changes_c26_s] at hM
    refine B_iload dX8_changes_26 rfl ?_
    refine B_iconst dX8_changes_28 k_ic_m1 ?_
    refine B_icmp_eq dX8_changes_29 hM (tgt := 66) rfl (fun hM => ?_) (fun hM => ?_)
    · exact B_vret ⟨rfl, hM⟩ trivial dX8_changes_66
    · refine B_aload_n dX8_changes_32 rfl ?_
      refine B_getR (sc_56) vc_8 (k := 1) (j := 57) rfl (by decide) inG8 ⟨rfl, rfl, rfl⟩ ww_fl_X8_15 dX8_changes_33 ?_
      refine B_iload_n dX8_changes_36 rfl ?_
      refine B_iload dX8_changes_37 rfl ?_
      refine B_iload_n dX8_changes_39 rfl ?_
      refine B_cS1i (c_X8_above (d := d - 1) hk_X8_above  hM) csS_X8_106 hp0 (rm_f hk1) (rm_l hk1 (by decide)) (Nat.le_of_ble_eq_true rfl) dX8_changes_40 (fun r2 h1 hM => ?_)
      refine B_cS3i (c_X8_at (d := d - 1) hk_X8_at  hM) csS_X8_84 hp0 (rm_f hk1) (rm_l hk1 (by decide)) (Nat.le_of_ble_eq_true rfl) dX8_changes_43 (fun r4 h3 hM => ?_)
      refine B_dup2 dX8_changes_46 ?_
      refine B_iald (sc_57) hM dX8_changes_47 (fun hM => ?_)
      refine B_iload dX8_changes_48 rfl ?_
      refine B_iadd dX8_changes_50 ?_
      refine B_iast (sc_57) hM dX8_changes_51 (fun hM => ?_)
      refine B_aload_n dX8_changes_52 rfl ?_
      refine B_getR (sc_56) vc_8 (k := 1) (j := 57) rfl (by decide) inG8 ⟨rfl, rfl, rfl⟩ ww_fl_X8_15 dX8_changes_53 ?_
      refine B_iconst dX8_changes_56 k_ic_1 ?_
      refine B_iload dX8_changes_57 rfl ?_
      refine B_iadd dX8_changes_59 ?_
      refine B_iald (sc_57) hM dX8_changes_60 (fun hM => ?_)
      refine B_istore dX8_changes_61 (Nat.le_of_ble_eq_true rfl) ?_
      refine B_goto (tgt := 26) dX8_changes_63 rfl ?_
      exact B_wk (hr26 _ _ _ _ _ hM) (wk_1 (wk_1 (wk_0 (wk_1 (wk_1 (wk_1 wk_n))))))
def P_X8_changes (F : Nat) (a1 : Int32) (a2 : Int32) (a3 : Int32) (a4 : Int32) (h : AH) (K : AH → Prop) : Prop := P_X8_at F a1 a2 a3 h (fun (r2 : Int32) (h1 : AH) => vp_in r2 441 ∧ (vp_in r2 441 ∧ ((fun (h3 : AH) => vp_in ((nI 1) + a2) 441 ∧ (X8_changes_c26 F K F a1 a3 a4 (h3 57 ((nI 1) + a2).toNatClampNeg) h3)) (up h1 57 r2.toNatClampNeg ((h1 57 r2.toNatClampNeg) + a4)))))
set_option maxHeartbeats 4000000 in
theorem c_X8_changes {l : Launch} {d : Nat} {F : Nat} {a1 : Int32} {a2 : Int32} {a3 : Int32} {a4 : Int32} {h : AH} {K : AH → Prop} (hd : 1 ≤ d) (hM : P_X8_changes F a1 a2 a3 a4 h K) : Ct l yX8_changes cX8_changes 6 none (rmD d) [.ref 56, .int a1, .int a2, .int a3, .int a4] h (Qv K) := by
  have hk1 : 1 ≤ d := by omega
  have hk_X8_above : 0 ≤ d - 1 := by omega
  have hk_X8_at : 0 ≤ d - 1 := by omega
  refine Ct_ofBW (by decide) rfl (Nat.le_of_ble_eq_true rfl) ⟨rfl, rfl⟩ ?_
  show BW RX8 cX8_changes 6 none l (rmD d) tb0 3 [.ref 56, .int a1, .int a2, .int a3, .int a4, .null] [] 0 h (Qv K)
  unfold P_X8_changes at hM
  refine B_aload_n dX8_changes_0 rfl ?_
  refine B_getR (sc_56) vc_8 (k := 1) (j := 57) rfl (by decide) inG8 ⟨rfl, rfl, rfl⟩ ww_fl_X8_15 dX8_changes_1 ?_
  refine B_iload_n dX8_changes_4 rfl ?_
  refine B_iload_n dX8_changes_5 rfl ?_
  refine B_iload_n dX8_changes_6 rfl ?_
  refine B_cS3i (c_X8_at (d := d - 1) hk_X8_at  hM) csS_X8_84 hp0 (rm_f hk1) (rm_l hk1 (by decide)) (Nat.le_of_ble_eq_true rfl) dX8_changes_7 (fun r2 h1 hM => ?_)
  refine B_dup2 dX8_changes_10 ?_
  refine B_iald (sc_57) hM dX8_changes_11 (fun hM => ?_)
  refine B_iload dX8_changes_12 rfl ?_
  refine B_iadd dX8_changes_14 ?_
  refine B_iast (sc_57) hM dX8_changes_15 (fun hM => ?_)
  refine B_aload_n dX8_changes_16 rfl ?_
  refine B_getR (sc_56) vc_8 (k := 1) (j := 57) rfl (by decide) inG8 ⟨rfl, rfl, rfl⟩ ww_fl_X8_15 dX8_changes_17 ?_
  refine B_iconst dX8_changes_20 k_ic_1 ?_
  refine B_iload_n dX8_changes_21 rfl ?_
  refine B_iadd dX8_changes_22 ?_
  refine B_iald (sc_57) hM dX8_changes_23 (fun hM => ?_)
  refine B_istore dX8_changes_24 (Nat.le_of_ble_eq_true rfl) ?_
  exact B_wk (bw_X8_changes_c26 hd  _ _ _ _ _ _ hM) (wk_1 (wk_1 (wk_0 (wk_1 (wk_1 (wk_1 wk_n))))))

def P_X8_grants (F : Nat) (a1 : Int32) (a2 : Int32) (a3 : Int32) (h : AH) (K : AH → Prop) : Prop := P_X8_changes F a1 a2 a3 (nI 1) h (fun (h1 : AH) => (fun (h2 : AH) => K h2) (up h1 56 4 ((h1 56 4) + (nI 1))))
set_option maxHeartbeats 4000000 in
theorem c_X8_grants {l : Launch} {d : Nat} {F : Nat} {a1 : Int32} {a2 : Int32} {a3 : Int32} {h : AH} {K : AH → Prop} (hd : 2 ≤ d) (hM : P_X8_grants F a1 a2 a3 h K) : Ct l yX8_grants cX8_grants 4 none (rmD d) [.ref 56, .int a1, .int a2, .int a3] h (Qv K) := by
  have hk1 : 1 ≤ d := by omega
  have hk_X8_changes : 1 ≤ d - 1 := by omega
  refine Ct_ofBW (by decide) rfl (Nat.le_of_ble_eq_true rfl) ⟨rfl, rfl⟩ ?_
  show BW RX8 cX8_grants 4 none l (rmD d) tb0 3 [.ref 56, .int a1, .int a2, .int a3] [] 0 h (Qv K)
  unfold P_X8_grants at hM
  refine B_aload_n dX8_grants_0 rfl ?_
  refine B_iload_n dX8_grants_1 rfl ?_
  refine B_iload_n dX8_grants_2 rfl ?_
  refine B_iload_n dX8_grants_3 rfl ?_
  refine B_iconst dX8_grants_4 k_ic_1 ?_
  refine B_cV4v (c_X8_changes (d := d - 1) hk_X8_changes  hM) csV_X8_122 (sc_56) vc_8 rfl hp0 (rm_f hk1) (rm_l hk1 (by decide)) (Nat.le_of_ble_eq_true rfl) dX8_grants_5 (fun h1 hM => ?_)
  refine B_aload_n dX8_grants_8 rfl ?_
  refine B_dupR dX8_grants_9 ?_
  refine B_getI (sc_56) vc_8 (k := 4) rfl (by decide) inG8 ⟨rfl, rfl, rfl⟩ ww_fl_X8_56 dX8_grants_10 ?_
  refine B_iconst dX8_grants_13 k_ic_1 ?_
  refine B_iadd dX8_grants_14 ?_
  refine B_putI (fits_I _) (sc_56) vc_8 (k := 4) rfl (by decide) inG8 ⟨rfl, rfl, rfl⟩ tyX8 tyX8_ok nmX8 rfl rfl ww_fl_X8_56 dX8_grants_15 ?_
  exact B_vret ⟨rfl, hM⟩ trivial dX8_grants_18

def X8_leavesLine_c4 (F : Nat) (K : AH → Prop) (n : Nat) : Int32 → AH → Prop := Nat.rec (motive := fun _ => Int32 → AH → Prop) (fun _ _ => False) (fun _ rc4 x2 h => vp_in (nI 25) 441 ∧ (if ((nI 3) * ((h 57 (nI 25).toNatClampNeg) - (nI 1))) ≤ x2 then (vp_in (nI 25) 441 ∧ (vp_in (nI 25) 441 ∧ ((fun (h1 : AH) => K h1) (up h 57 (nI 25).toNatClampNeg ((h 57 (nI 25).toNatClampNeg) - (nI 1)))))) else (vp_in (((nI 26) + x2) + (nI 3)) 441 ∧ (vp_in ((nI 26) + x2) 441 ∧ ((fun (h2 : AH) => rc4 (x2 + (nI 1)) h2) (up h 57 ((nI 26) + x2).toNatClampNeg (h 57 (((nI 26) + x2) + (nI 3)).toNatClampNeg))))))) n
theorem X8_leavesLine_c4_s {F : Nat} {K : AH → Prop} {n : Nat} {x2 : Int32} {h : AH} : X8_leavesLine_c4 F K (n + 1) x2 h = (vp_in (nI 25) 441 ∧ (if ((nI 3) * ((h 57 (nI 25).toNatClampNeg) - (nI 1))) ≤ x2 then (vp_in (nI 25) 441 ∧ (vp_in (nI 25) 441 ∧ ((fun (h1 : AH) => K h1) (up h 57 (nI 25).toNatClampNeg ((h 57 (nI 25).toNatClampNeg) - (nI 1)))))) else (vp_in (((nI 26) + x2) + (nI 3)) 441 ∧ (vp_in ((nI 26) + x2) 441 ∧ ((fun (h2 : AH) => (X8_leavesLine_c4 F K n) (x2 + (nI 1)) h2) (up h 57 ((nI 26) + x2).toNatClampNeg (h 57 (((nI 26) + x2) + (nI 3)).toNatClampNeg))))))) := rfl
set_option maxHeartbeats 4000000 in
theorem bw_X8_leavesLine_c4 {l : Launch} {d : Nat} {F : Nat} {K : AH → Prop} (hd : 0 ≤ d) : ∀ (n : Nat) (x2 : Int32) (h : AH), X8_leavesLine_c4 F K n x2 h → BW RX8 cX8_leavesLine 3 none l (rmD d) tb0 3 [.ref 56, .null, .int x2] [] 4 h (Qv K) := by
  intro n
  induction n with
  | zero =>
    intro x2 h hM
    exact hM.elim
  | succ n hr4 =>
    intro x2 h hM
    rw [X8_leavesLine_c4_s] at hM
    refine B_iload_n dX8_leavesLine_4 rfl ?_
    refine B_iconst dX8_leavesLine_5 k_ic_3 ?_
    refine B_aload_n dX8_leavesLine_6 rfl ?_
    refine B_getR (sc_56) vc_8 (k := 1) (j := 57) rfl (by decide) inG8 ⟨rfl, rfl, rfl⟩ ww_fl_X8_15 dX8_leavesLine_7 ?_
    refine B_bipush dX8_leavesLine_10 k_bi_25 ?_
    refine B_iald (sc_57) hM dX8_leavesLine_12 (fun hM => ?_)
    refine B_iconst dX8_leavesLine_13 k_ic_1 ?_
    refine B_isub dX8_leavesLine_14 ?_
    refine B_imul dX8_leavesLine_15 ?_
    refine B_icmp_ge dX8_leavesLine_16 hM (tgt := 45) rfl (fun hM => ?_) (fun hM => ?_)
    · refine B_aload_n dX8_leavesLine_45 rfl ?_
      refine B_getR (sc_56) vc_8 (k := 1) (j := 57) rfl (by decide) inG8 ⟨rfl, rfl, rfl⟩ ww_fl_X8_15 dX8_leavesLine_46 ?_
      refine B_bipush dX8_leavesLine_49 k_bi_25 ?_
      refine B_dup2 dX8_leavesLine_51 ?_
      refine B_iald (sc_57) hM dX8_leavesLine_52 (fun hM => ?_)
      refine B_iconst dX8_leavesLine_53 k_ic_1 ?_
      refine B_isub dX8_leavesLine_54 ?_
      refine B_iast (sc_57) hM dX8_leavesLine_55 (fun hM => ?_)
      exact B_vret ⟨rfl, hM⟩ trivial dX8_leavesLine_56
    · refine B_aload_n dX8_leavesLine_19 rfl ?_
      refine B_getR (sc_56) vc_8 (k := 1) (j := 57) rfl (by decide) inG8 ⟨rfl, rfl, rfl⟩ ww_fl_X8_15 dX8_leavesLine_20 ?_
      refine B_bipush dX8_leavesLine_23 k_bi_26 ?_
      refine B_iload_n dX8_leavesLine_25 rfl ?_
      refine B_iadd dX8_leavesLine_26 ?_
      refine B_aload_n dX8_leavesLine_27 rfl ?_
      refine B_getR (sc_56) vc_8 (k := 1) (j := 57) rfl (by decide) inG8 ⟨rfl, rfl, rfl⟩ ww_fl_X8_15 dX8_leavesLine_28 ?_
      refine B_bipush dX8_leavesLine_31 k_bi_26 ?_
      refine B_iload_n dX8_leavesLine_33 rfl ?_
      refine B_iadd dX8_leavesLine_34 ?_
      refine B_iconst dX8_leavesLine_35 k_ic_3 ?_
      refine B_iadd dX8_leavesLine_36 ?_
      refine B_iald (sc_57) hM dX8_leavesLine_37 (fun hM => ?_)
      refine B_iast (sc_57) hM dX8_leavesLine_38 (fun hM => ?_)
      refine B_iinc dX8_leavesLine_39 rfl k_ic_1 (Nat.le_of_ble_eq_true rfl) ?_
      refine B_goto (tgt := 4) dX8_leavesLine_42 rfl ?_
      exact B_wk (hr4 _ _ hM) (wk_1 (wk_0 (wk_1 wk_n)))
def P_X8_leavesLine (F : Nat) (a1 : Int32) (h : AH) (K : AH → Prop) : Prop := X8_leavesLine_c4 F K F ((nI 3) * a1) h
set_option maxHeartbeats 4000000 in
theorem c_X8_leavesLine {l : Launch} {d : Nat} {F : Nat} {a1 : Int32} {h : AH} {K : AH → Prop} (hd : 0 ≤ d) (hM : P_X8_leavesLine F a1 h K) : Ct l yX8_leavesLine cX8_leavesLine 3 none (rmD d) [.ref 56, .int a1] h (Qv K) := by
  refine Ct_ofBW (by decide) rfl (Nat.le_of_ble_eq_true rfl) ⟨rfl, rfl⟩ ?_
  show BW RX8 cX8_leavesLine 3 none l (rmD d) tb0 3 [.ref 56, .int a1, .null] [] 0 h (Qv K)
  unfold P_X8_leavesLine at hM
  refine B_iconst dX8_leavesLine_0 k_ic_3 ?_
  refine B_iload_n dX8_leavesLine_1 rfl ?_
  refine B_imul dX8_leavesLine_2 ?_
  refine B_istore_n dX8_leavesLine_3 (Nat.le_of_ble_eq_true rfl) ?_
  exact B_wk (bw_X8_leavesLine_c4 hd  _ _ _ hM) (wk_1 (wk_0 (wk_1 wk_n)))

def X8_nextServed_c70 (F : Nat) (rc4 : Int32 → Int32 → AH → Prop) (K : Int32 → AH → Prop) (x1 : Int32) (x2 : Int32) (h : AH) : Prop := rc4 x1 (x2 + (nI 1)) h
set_option maxHeartbeats 4000000 in
theorem bw_X8_nextServed_c70 {l : Launch} {d : Nat} {F : Nat} {rc4 : Int32 → Int32 → AH → Prop} {K : Int32 → AH → Prop} {x1 : Int32} {x2 : Int32} {h : AH} (hd : 6 ≤ d) (hr4 : ∀ (x1 : Int32) (x2 : Int32) (h : AH), rc4 x1 x2 h → BW RX8 cX8_nextServed 3 (some .int) l (rmD d) tb0 3 [.ref 56, .int x1, .int x2] [] 4 h (Qi K)) (hM : X8_nextServed_c70 F rc4 K x1 x2 h) : BW RX8 cX8_nextServed 3 (some .int) l (rmD d) tb0 3 [.ref 56, .int x1, .int x2] [] 70 h (Qi K) := by
  have hk1 : 1 ≤ d := by omega
  have hk_X8_barringAt : 5 ≤ d - 1 := by omega
  have hk_X8_isRaise : 1 ≤ d - 1 := by omega
  unfold X8_nextServed_c70 at hM
  refine B_iinc dX8_nextServed_70 rfl k_ic_1 (Nat.le_of_ble_eq_true rfl) ?_
  refine B_goto (tgt := 4) dX8_nextServed_73 rfl ?_
  exact B_wk (hr4 _ _ _ hM) (wk_1 (wk_1 (wk_1 wk_n)))
def X8_nextServed_c69 (F : Nat) (rc4 : Int32 → Int32 → AH → Prop) (K : Int32 → AH → Prop) (x2 : Int32) (s0 : Int32) (h : AH) : Prop := X8_nextServed_c70 F rc4 K s0 x2 h
set_option maxHeartbeats 4000000 in
theorem bw_X8_nextServed_c69 {l : Launch} {d : Nat} {F : Nat} {rc4 : Int32 → Int32 → AH → Prop} {K : Int32 → AH → Prop} {x2 : Int32} {s0 : Int32} {h : AH} (hd : 6 ≤ d) (hr4 : ∀ (x1 : Int32) (x2 : Int32) (h : AH), rc4 x1 x2 h → BW RX8 cX8_nextServed 3 (some .int) l (rmD d) tb0 3 [.ref 56, .int x1, .int x2] [] 4 h (Qi K)) (hM : X8_nextServed_c69 F rc4 K x2 s0 h) : BW RX8 cX8_nextServed 3 (some .int) l (rmD d) tb0 3 [.ref 56, .null, .int x2] [.int s0] 69 h (Qi K) := by
  have hk1 : 1 ≤ d := by omega
  have hk_X8_barringAt : 5 ≤ d - 1 := by omega
  have hk_X8_isRaise : 1 ≤ d - 1 := by omega
  unfold X8_nextServed_c69 at hM
  refine B_istore_n dX8_nextServed_69 (Nat.le_of_ble_eq_true rfl) ?_
  exact B_wk (bw_X8_nextServed_c70 hd hr4 hM) (wk_1 (wk_1 (wk_1 wk_n)))
def X8_nextServed_c4 (F : Nat) (K : Int32 → AH → Prop) (n : Nat) : Int32 → Int32 → AH → Prop := Nat.rec (motive := fun _ => Int32 → Int32 → AH → Prop) (fun _ _ _ => False) (fun _ rc4 x1 x2 h => vp_in (nI 25) 441 ∧ (if (h 57 (nI 25).toNatClampNeg) ≤ x2 then (K x1 h) else (P_X8_barringAt F x2 h (fun (r2 : Int32) (h1 : AH) => if r2 = (nI 0) then (vp_in ((nI 26) + ((nI 3) * x2)) 441 ∧ (vp_in (((nI 26) + ((nI 3) * x2)) + (nI 1)) 441 ∧ (P_X8_isRaise F (h1 57 ((nI 26) + ((nI 3) * x2)).toNatClampNeg) (h1 57 (((nI 26) + ((nI 3) * x2)) + (nI 1)).toNatClampNeg) h1 (fun (r4 : Int32) (h3 : AH) => if r4 = (nI 0) then (if ¬ x1 = (-1 : Int32) then (X8_nextServed_c69 F rc4 K x2 x1 h3) else (X8_nextServed_c69 F rc4 K x2 x2 h3)) else (K x2 h3))))) else (X8_nextServed_c70 F rc4 K x1 x2 h1))))) n
theorem X8_nextServed_c4_s {F : Nat} {K : Int32 → AH → Prop} {n : Nat} {x1 : Int32} {x2 : Int32} {h : AH} : X8_nextServed_c4 F K (n + 1) x1 x2 h = (vp_in (nI 25) 441 ∧ (if (h 57 (nI 25).toNatClampNeg) ≤ x2 then (K x1 h) else (P_X8_barringAt F x2 h (fun (r2 : Int32) (h1 : AH) => if r2 = (nI 0) then (vp_in ((nI 26) + ((nI 3) * x2)) 441 ∧ (vp_in (((nI 26) + ((nI 3) * x2)) + (nI 1)) 441 ∧ (P_X8_isRaise F (h1 57 ((nI 26) + ((nI 3) * x2)).toNatClampNeg) (h1 57 (((nI 26) + ((nI 3) * x2)) + (nI 1)).toNatClampNeg) h1 (fun (r4 : Int32) (h3 : AH) => if r4 = (nI 0) then (if ¬ x1 = (-1 : Int32) then (X8_nextServed_c69 F (X8_nextServed_c4 F K n) K x2 x1 h3) else (X8_nextServed_c69 F (X8_nextServed_c4 F K n) K x2 x2 h3)) else (K x2 h3))))) else (X8_nextServed_c70 F (X8_nextServed_c4 F K n) K x1 x2 h1))))) := rfl
set_option maxHeartbeats 4000000 in
theorem bw_X8_nextServed_c4 {l : Launch} {d : Nat} {F : Nat} {K : Int32 → AH → Prop} (hd : 6 ≤ d) : ∀ (n : Nat) (x1 : Int32) (x2 : Int32) (h : AH), X8_nextServed_c4 F K n x1 x2 h → BW RX8 cX8_nextServed 3 (some .int) l (rmD d) tb0 3 [.ref 56, .int x1, .int x2] [] 4 h (Qi K) := by
  have hk1 : 1 ≤ d := by omega
  have hk_X8_barringAt : 5 ≤ d - 1 := by omega
  have hk_X8_isRaise : 1 ≤ d - 1 := by omega
  intro n
  induction n with
  | zero =>
    intro x1 x2 h hM
    exact hM.elim
  | succ n hr4 =>
    intro x1 x2 h hM
    rw [X8_nextServed_c4_s] at hM
    refine B_iload_n dX8_nextServed_4 rfl ?_
    refine B_aload_n dX8_nextServed_5 rfl ?_
    refine B_getR (sc_56) vc_8 (k := 1) (j := 57) rfl (by decide) inG8 ⟨rfl, rfl, rfl⟩ ww_fl_X8_15 dX8_nextServed_6 ?_
    refine B_bipush dX8_nextServed_9 k_bi_25 ?_
    refine B_iald (sc_57) hM dX8_nextServed_11 (fun hM => ?_)
    refine B_icmp_ge dX8_nextServed_12 hM (tgt := 76) rfl (fun hM => ?_) (fun hM => ?_)
    · refine B_iload_n dX8_nextServed_76 rfl ?_
      exact B_iret ⟨_, rfl, hM⟩ trivial dX8_nextServed_77
    · refine B_aload_n dX8_nextServed_15 rfl ?_
      refine B_iload_n dX8_nextServed_16 rfl ?_
      refine B_cV1i (c_X8_barringAt (d := d - 1) hk_X8_barringAt  hM) csV_X8_126 (sc_56) vc_8 rfl hp0 (rm_f hk1) (rm_l hk1 (by decide)) (Nat.le_of_ble_eq_true rfl) dX8_nextServed_17 (fun r2 h1 hM => ?_)
      refine B_if_eq dX8_nextServed_20 hM (tgt := 26) rfl (fun hM => ?_) (fun hM => ?_)
      · refine B_aload_n dX8_nextServed_26 rfl ?_
        refine B_aload_n dX8_nextServed_27 rfl ?_
        refine B_getR (sc_56) vc_8 (k := 1) (j := 57) rfl (by decide) inG8 ⟨rfl, rfl, rfl⟩ ww_fl_X8_15 dX8_nextServed_28 ?_
        refine B_bipush dX8_nextServed_31 k_bi_26 ?_
        refine B_iconst dX8_nextServed_33 k_ic_3 ?_
        refine B_iload_n dX8_nextServed_34 rfl ?_
        refine B_imul dX8_nextServed_35 ?_
        refine B_iadd dX8_nextServed_36 ?_
        refine B_iald (sc_57) hM dX8_nextServed_37 (fun hM => ?_)
        refine B_aload_n dX8_nextServed_38 rfl ?_
        refine B_getR (sc_56) vc_8 (k := 1) (j := 57) rfl (by decide) inG8 ⟨rfl, rfl, rfl⟩ ww_fl_X8_15 dX8_nextServed_39 ?_
        refine B_bipush dX8_nextServed_42 k_bi_26 ?_
        refine B_iconst dX8_nextServed_44 k_ic_3 ?_
        refine B_iload_n dX8_nextServed_45 rfl ?_
        refine B_imul dX8_nextServed_46 ?_
        refine B_iadd dX8_nextServed_47 ?_
        refine B_iconst dX8_nextServed_48 k_ic_1 ?_
        refine B_iadd dX8_nextServed_49 ?_
        refine B_iald (sc_57) hM dX8_nextServed_50 (fun hM => ?_)
        refine B_cV2i (c_X8_isRaise (d := d - 1) hk_X8_isRaise  hM) csV_X8_115 (sc_56) vc_8 rfl hp0 (rm_f hk1) (rm_l hk1 (by decide)) (Nat.le_of_ble_eq_true rfl) dX8_nextServed_51 (fun r4 h3 hM => ?_)
        refine B_if_eq dX8_nextServed_54 hM (tgt := 59) rfl (fun hM => ?_) (fun hM => ?_)
        · refine B_iload_n dX8_nextServed_59 rfl ?_
          refine B_iconst dX8_nextServed_60 k_ic_m1 ?_
          refine B_icmp_ne dX8_nextServed_61 hM (tgt := 68) rfl (fun hM => ?_) (fun hM => ?_)
          · refine B_iload_n dX8_nextServed_68 rfl ?_
            exact B_wk (bw_X8_nextServed_c69 hd hr4 hM) (wk_1 (wk_0 (wk_1 wk_n)))
          · refine B_iload_n dX8_nextServed_64 rfl ?_
            refine B_goto (tgt := 69) dX8_nextServed_65 rfl ?_
            exact B_wk (bw_X8_nextServed_c69 hd hr4 hM) (wk_1 (wk_0 (wk_1 wk_n)))
        · refine B_iload_n dX8_nextServed_57 rfl ?_
          exact B_iret ⟨_, rfl, hM⟩ trivial dX8_nextServed_58
      · refine B_goto (tgt := 70) dX8_nextServed_23 rfl ?_
        exact B_wk (bw_X8_nextServed_c70 hd hr4 hM) (wk_1 (wk_1 (wk_1 wk_n)))
def P_X8_nextServed (F : Nat) (h : AH) (K : Int32 → AH → Prop) : Prop := X8_nextServed_c4 F K F (-1 : Int32) (nI 0) h
set_option maxHeartbeats 4000000 in
theorem c_X8_nextServed {l : Launch} {d : Nat} {F : Nat} {h : AH} {K : Int32 → AH → Prop} (hd : 6 ≤ d) (hM : P_X8_nextServed F h K) : Ct l yX8_nextServed cX8_nextServed 3 (some .int) (rmD d) [.ref 56] h (Qi K) := by
  have hk1 : 1 ≤ d := by omega
  have hk_X8_barringAt : 5 ≤ d - 1 := by omega
  have hk_X8_isRaise : 1 ≤ d - 1 := by omega
  refine Ct_ofBW (by decide) rfl (Nat.le_of_ble_eq_true rfl) ⟨rfl, rfl⟩ ?_
  show BW RX8 cX8_nextServed 3 (some .int) l (rmD d) tb0 3 [.ref 56, .null, .null] [] 0 h (Qi K)
  unfold P_X8_nextServed at hM
  refine B_iconst dX8_nextServed_0 k_ic_m1 ?_
  refine B_istore_n dX8_nextServed_1 (Nat.le_of_ble_eq_true rfl) ?_
  refine B_iconst dX8_nextServed_2 k_ic_0 ?_
  refine B_istore_n dX8_nextServed_3 (Nat.le_of_ble_eq_true rfl) ?_
  exact B_wk (bw_X8_nextServed_c4 hd  _ _ _ _ hM) (wk_1 (wk_1 (wk_1 wk_n)))
