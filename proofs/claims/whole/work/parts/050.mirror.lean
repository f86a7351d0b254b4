def P_X0_enter (F : Nat) (a1 : Int32) (h : AH) (K : AH → Prop) : Prop := vp_in a1 12 ∧ (vp_in a1 12 ∧ ((fun (h1 : AH) => vp_in a1 12 ∧ (vp_in a1 12 ∧ ((fun (h2 : AH) => vp_in a1 12 ∧ (vp_in a1 12 ∧ (vp_in a1 12 ∧ ((fun (h3 : AH) => K h3) (up h2 42 a1.toNatClampNeg (if (h2 42 a1.toNatClampNeg) < (h2 43 a1.toNatClampNeg) then (h2 43 a1.toNatClampNeg) else (h2 42 a1.toNatClampNeg))))))) (up h1 43 a1.toNatClampNeg ((h1 43 a1.toNatClampNeg) + (nI 1)))))) (up h 41 a1.toNatClampNeg ((h 41 a1.toNatClampNeg) + (nI 1)))))
set_option maxHeartbeats 4000000 in
theorem c_X0_enter {l : Launch} {d : Nat} {F : Nat} {a1 : Int32} {h : AH} {K : AH → Prop} (hd : 1 ≤ d) (hM : P_X0_enter F a1 h K) : Ct l yX0_enter cX0_enter 2 none (rmD d) [.ref 40, .int a1] h (Qv K) := by
  have hk1 : 1 ≤ d := by omega
  refine Ct_ofBW (by decide) rfl (Nat.le_of_ble_eq_true rfl) ⟨rfl, rfl⟩ ?_
  show BW RX0 cX0_enter 2 none l (rmD d) tb0 3 [.ref 40, .int a1] [] 0 h (Qv K)
  unfold P_X0_enter at hM
  refine B_aload_n dX0_enter_0 rfl ?_
  refine B_getR (sc_40) vc_0 (k := 0) (j := 41) rfl (by decide) inG0 ⟨rfl, rfl, rfl⟩ ww_fl_X0_9 dX0_enter_1 ?_
  refine B_iload_n dX0_enter_4 rfl ?_
  refine B_dup2 dX0_enter_5 ?_
  refine B_iald (sc_41) hM dX0_enter_6 (fun hM => ?_)
  refine B_iconst dX0_enter_7 k_ic_1 ?_
  refine B_iadd dX0_enter_8 ?_
  refine B_iast (sc_41) hM dX0_enter_9 (fun hM => ?_)
  refine B_aload_n dX0_enter_10 rfl ?_
  refine B_getR (sc_40) vc_0 (k := 2) (j := 43) rfl (by decide) inG0 ⟨rfl, rfl, rfl⟩ ww_fl_X0_18 dX0_enter_11 ?_
  refine B_iload_n dX0_enter_14 rfl ?_
  refine B_dup2 dX0_enter_15 ?_
  refine B_iald (sc_43) hM dX0_enter_16 (fun hM => ?_)
  refine B_iconst dX0_enter_17 k_ic_1 ?_
  refine B_iadd dX0_enter_18 ?_
  refine B_iast (sc_43) hM dX0_enter_19 (fun hM => ?_)
  refine B_aload_n dX0_enter_20 rfl ?_
  refine B_getR (sc_40) vc_0 (k := 1) (j := 42) rfl (by decide) inG0 ⟨rfl, rfl, rfl⟩ ww_fl_X0_15 dX0_enter_21 ?_
  refine B_iload_n dX0_enter_24 rfl ?_
  refine B_aload_n dX0_enter_25 rfl ?_
  refine B_getR (sc_40) vc_0 (k := 1) (j := 42) rfl (by decide) inG0 ⟨rfl, rfl, rfl⟩ ww_fl_X0_15 dX0_enter_26 ?_
  refine B_iload_n dX0_enter_29 rfl ?_
  refine B_iald (sc_42) hM dX0_enter_30 (fun hM => ?_)
  refine B_aload_n dX0_enter_31 rfl ?_
  refine B_getR (sc_40) vc_0 (k := 2) (j := 43) rfl (by decide) inG0 ⟨rfl, rfl, rfl⟩ ww_fl_X0_18 dX0_enter_32 ?_
  refine B_iload_n dX0_enter_35 rfl ?_
  refine B_iald (sc_43) hM dX0_enter_36 (fun hM => ?_)
  refine B_max ⟨ww_ml_X0_21, ww_mx_s, ww_mx_i, ww_mx_c⟩ hk1 (rm_n hk1 (Nat.le_of_ble_eq_true rfl)) dX0_enter_37 ?_
  refine B_iast (sc_42) hM dX0_enter_40 (fun hM => ?_)
  exact B_vret ⟨rfl, hM⟩ trivial dX0_enter_41

def P_X0_leave (F : Nat) (a1 : Int32) (h : AH) (K : AH → Prop) : Prop := vp_in a1 12 ∧ (vp_in a1 12 ∧ ((fun (h1 : AH) => K h1) (up h 43 a1.toNatClampNeg ((h 43 a1.toNatClampNeg) - (nI 1)))))
set_option maxHeartbeats 4000000 in
theorem c_X0_leave {l : Launch} {d : Nat} {F : Nat} {a1 : Int32} {h : AH} {K : AH → Prop} (hd : 0 ≤ d) (hM : P_X0_leave F a1 h K) : Ct l yX0_leave cX0_leave 2 none (rmD d) [.ref 40, .int a1] h (Qv K) := by
  refine Ct_ofBW (by decide) rfl (Nat.le_of_ble_eq_true rfl) ⟨rfl, rfl⟩ ?_
  show BW RX0 cX0_leave 2 none l (rmD d) tb0 3 [.ref 40, .int a1] [] 0 h (Qv K)
  unfold P_X0_leave at hM
  refine B_aload_n dX0_leave_0 rfl ?_
  refine B_getR (sc_40) vc_0 (k := 2) (j := 43) rfl (by decide) inG0 ⟨rfl, rfl, rfl⟩ ww_fl_X0_18 dX0_leave_1 ?_
  refine B_iload_n dX0_leave_4 rfl ?_
  refine B_dup2 dX0_leave_5 ?_
  refine B_iald (sc_43) hM dX0_leave_6 (fun hM => ?_)
  refine B_iconst dX0_leave_7 k_ic_1 ?_
  refine B_isub dX0_leave_8 ?_
  refine B_iast (sc_43) hM dX0_leave_9 (fun hM => ?_)
  exact B_vret ⟨rfl, hM⟩ trivial dX0_leave_10

def X0_closeFrom_c2 (F : Nat) (K : AH → Prop) (n : Nat) : Int32 → AH → Prop := Nat.rec (motive := fun _ => Int32 → AH → Prop) (fun _ _ => False) (fun _ rc2 x2 h => if (nI 12) ≤ x2 then (K h) else (vp_in x2 12 ∧ ((fun (h1 : AH) => vp_in x2 12 ∧ ((fun (h2 : AH) => vp_in x2 12 ∧ ((fun (h3 : AH) => rc2 (x2 + (nI 1)) h3) (up h2 43 x2.toNatClampNeg (nI 0)))) (up h1 42 x2.toNatClampNeg (nI 0)))) (up h 41 x2.toNatClampNeg (nI 0))))) n
theorem X0_closeFrom_c2_s {F : Nat} {K : AH → Prop} {n : Nat} {x2 : Int32} {h : AH} : X0_closeFrom_c2 F K (n + 1) x2 h = (if (nI 12) ≤ x2 then (K h) else (vp_in x2 12 ∧ ((fun (h1 : AH) => vp_in x2 12 ∧ ((fun (h2 : AH) => vp_in x2 12 ∧ ((fun (h3 : AH) => (X0_closeFrom_c2 F K n) (x2 + (nI 1)) h3) (up h2 43 x2.toNatClampNeg (nI 0)))) (up h1 42 x2.toNatClampNeg (nI 0)))) (up h 41 x2.toNatClampNeg (nI 0))))) := rfl
set_option maxHeartbeats 4000000 in
theorem bw_X0_closeFrom_c2 {l : Launch} {d : Nat} {F : Nat} {K : AH → Prop} (hd : 0 ≤ d) : ∀ (n : Nat) (x2 : Int32) (h : AH), X0_closeFrom_c2 F K n x2 h → BW RX0 cX0_closeFrom 3 none l (rmD d) tb0 3 [.ref 40, .null, .int x2] [] 2 h (Qv K) := by
  intro n
  induction n with
  | zero =>
    intro x2 h hM
    exact hM.elim
  | succ n hr2 =>
    intro x2 h hM
    rw [X0_closeFrom_c2_s] at hM
    refine B_iload_n dX0_closeFrom_2 rfl ?_
    refine B_bipush dX0_closeFrom_3 k_bi_12 ?_
    refine B_icmp_ge dX0_closeFrom_5 hM (tgt := 35) rfl (fun hM => ?_) (fun hM => ?_)
    · exact B_vret ⟨rfl, hM⟩ trivial dX0_closeFrom_35
    · refine B_aload_n dX0_closeFrom_8 rfl ?_
      refine B_getR (sc_40) vc_0 (k := 0) (j := 41) rfl (by decide) inG0 ⟨rfl, rfl, rfl⟩ ww_fl_X0_9 dX0_closeFrom_9 ?_
      refine B_iload_n dX0_closeFrom_12 rfl ?_
      refine B_iconst dX0_closeFrom_13 k_ic_0 ?_
      refine B_iast (sc_41) hM dX0_closeFrom_14 (fun hM => ?_)
      refine B_aload_n dX0_closeFrom_15 rfl ?_
      refine B_getR (sc_40) vc_0 (k := 1) (j := 42) rfl (by decide) inG0 ⟨rfl, rfl, rfl⟩ ww_fl_X0_15 dX0_closeFrom_16 ?_
      refine B_iload_n dX0_closeFrom_19 rfl ?_
      refine B_iconst dX0_closeFrom_20 k_ic_0 ?_
      refine B_iast (sc_42) hM dX0_closeFrom_21 (fun hM => ?_)
      refine B_aload_n dX0_closeFrom_22 rfl ?_
      refine B_getR (sc_40) vc_0 (k := 2) (j := 43) rfl (by decide) inG0 ⟨rfl, rfl, rfl⟩ ww_fl_X0_18 dX0_closeFrom_23 ?_
      refine B_iload_n dX0_closeFrom_26 rfl ?_
      refine B_iconst dX0_closeFrom_27 k_ic_0 ?_
      refine B_iast (sc_43) hM dX0_closeFrom_28 (fun hM => ?_)
      refine B_iinc dX0_closeFrom_29 rfl k_ic_1 (Nat.le_of_ble_eq_true rfl) ?_
      refine B_goto (tgt := 2) dX0_closeFrom_32 rfl ?_
      exact B_wk (hr2 _ _ hM) (wk_1 (wk_0 (wk_1 wk_n)))
def P_X0_closeFrom (F : Nat) (a1 : Int32) (h : AH) (K : AH → Prop) : Prop := X0_closeFrom_c2 F K F a1 h
set_option maxHeartbeats 4000000 in
theorem c_X0_closeFrom {l : Launch} {d : Nat} {F : Nat} {a1 : Int32} {h : AH} {K : AH → Prop} (hd : 0 ≤ d) (hM : P_X0_closeFrom F a1 h K) : Ct l yX0_closeFrom cX0_closeFrom 3 none (rmD d) [.ref 40, .int a1] h (Qv K) := by
  refine Ct_ofBW (by decide) rfl (Nat.le_of_ble_eq_true rfl) ⟨rfl, rfl⟩ ?_
  show BW RX0 cX0_closeFrom 3 none l (rmD d) tb0 3 [.ref 40, .int a1, .null] [] 0 h (Qv K)
  unfold P_X0_closeFrom at hM
  refine B_iload_n dX0_closeFrom_0 rfl ?_
  refine B_istore_n dX0_closeFrom_1 (Nat.le_of_ble_eq_true rfl) ?_
  exact B_wk (bw_X0_closeFrom_c2 hd  _ _ _ hM) (wk_1 (wk_0 (wk_1 wk_n)))

def P_X1_isList (F : Nat) (a1 : Int32) (h : AH) (K : Int32 → AH → Prop) : Prop := if a1 < (nI 0) then (K (nI 0) h) else (if (nI 3) ≤ a1 then (K (nI 0) h) else (K (nI 1) h))
set_option maxHeartbeats 4000000 in
theorem c_X1_isList {l : Launch} {d : Nat} {F : Nat} {a1 : Int32} {h : AH} {K : Int32 → AH → Prop} (hd : 0 ≤ d) (hM : P_X1_isList F a1 h K) : Ct l yX1_isList cX1_isList 1 (some .boolean) (rmD d) [.int a1] h (Qi K) := by
  refine Ct_ofBW (by decide) rfl (Nat.le_of_ble_eq_true rfl) ⟨rfl, rfl⟩ ?_
  show BW RX1 cX1_isList 1 (some .boolean) l (rmD d) tb0 3 [.int a1] [] 0 h (Qi K)
  unfold P_X1_isList at hM
  refine B_iload_n dX1_isList_0 rfl ?_
  refine B_if_lt dX1_isList_1 hM (tgt := 13) rfl (fun hM => ?_) (fun hM => ?_)
  · refine B_iconst dX1_isList_13 k_ic_0 ?_
    exact B_iret ⟨_, rfl, hM⟩ zB_0 dX1_isList_14
  · refine B_iload_n dX1_isList_4 rfl ?_
    refine B_iconst dX1_isList_5 k_ic_3 ?_
    refine B_icmp_ge dX1_isList_6 hM (tgt := 13) rfl (fun hM => ?_) (fun hM => ?_)
    · refine B_iconst dX1_isList_13 k_ic_0 ?_
      exact B_iret ⟨_, rfl, hM⟩ zB_0 dX1_isList_14
    · refine B_iconst dX1_isList_9 k_ic_1 ?_
      refine B_goto (tgt := 14) dX1_isList_10 rfl ?_
      exact B_iret ⟨_, rfl, hM⟩ zB_1 dX1_isList_14

def P_X1_cell (F : Nat) (a1 : Int32) (a2 : Int32) (h : AH) (K : Int32 → AH → Prop) : Prop := K ((a1 * (nI 36)) + a2) h
set_option maxHeartbeats 4000000 in
theorem c_X1_cell {l : Launch} {d : Nat} {F : Nat} {a1 : Int32} {a2 : Int32} {h : AH} {K : Int32 → AH → Prop} (hd : 0 ≤ d) (hM : P_X1_cell F a1 a2 h K) : Ct l yX1_cell cX1_cell 2 (some .int) (rmD d) [.int a1, .int a2] h (Qi K) := by
  refine Ct_ofBW (by decide) rfl (Nat.le_of_ble_eq_true rfl) ⟨rfl, rfl⟩ ?_
  show BW RX1 cX1_cell 2 (some .int) l (rmD d) tb0 3 [.int a1, .int a2] [] 0 h (Qi K)
  unfold P_X1_cell at hM
  refine B_iload_n dX1_cell_0 rfl ?_
  refine B_bipush dX1_cell_1 k_bi_36 ?_
  refine B_imul dX1_cell_3 ?_
  refine B_iload_n dX1_cell_4 rfl ?_
  refine B_iadd dX1_cell_5 ?_
  exact B_iret ⟨_, rfl, hM⟩ trivial dX1_cell_6

def P_X1_holdsRow (F : Nat) (a1 : Int32) (h : AH) (K : Int32 → AH → Prop) : Prop := vp_in a1 3 ∧ (if (h 55 a1.toNatClampNeg) < (nI 0) then (K (nI 0) h) else (K (nI 1) h))
set_option maxHeartbeats 4000000 in
theorem c_X1_holdsRow {l : Launch} {d : Nat} {F : Nat} {a1 : Int32} {h : AH} {K : Int32 → AH → Prop} (hd : 0 ≤ d) (hM : P_X1_holdsRow F a1 h K) : Ct l yX1_holdsRow cX1_holdsRow 2 (some .boolean) (rmD d) [.ref 53, .int a1] h (Qi K) := by
  refine Ct_ofBW (by decide) rfl (Nat.le_of_ble_eq_true rfl) ⟨rfl, rfl⟩ ?_
  show BW RX1 cX1_holdsRow 2 (some .boolean) l (rmD d) tb0 3 [.ref 53, .int a1] [] 0 h (Qi K)
  unfold P_X1_holdsRow at hM
  refine B_aload_n dX1_holdsRow_0 rfl ?_
  refine B_getR (sc_53) vc_1 (k := 1) (j := 55) rfl (by decide) inG1 ⟨rfl, rfl, rfl⟩ ww_fl_X1_15 dX1_holdsRow_1 ?_
  refine B_iload_n dX1_holdsRow_4 rfl ?_
  refine B_iald (sc_55) hM dX1_holdsRow_5 (fun hM => ?_)
  refine B_if_lt dX1_holdsRow_6 hM (tgt := 13) rfl (fun hM => ?_) (fun hM => ?_)
  · refine B_iconst dX1_holdsRow_13 k_ic_0 ?_
    exact B_iret ⟨_, rfl, hM⟩ zB_0 dX1_holdsRow_14
  · refine B_iconst dX1_holdsRow_9 k_ic_1 ?_
    refine B_goto (tgt := 14) dX1_holdsRow_10 rfl ?_
    exact B_iret ⟨_, rfl, hM⟩ zB_1 dX1_holdsRow_14

def P_X1_hasPlace (F : Nat) (a1 : Int32) (a2 : Int32) (h : AH) (K : Int32 → AH → Prop) : Prop := if a2 < (nI 0) then (K (nI 0) h) else (vp_in a1 3 ∧ (if (h 55 a1.toNatClampNeg) ≤ a2 then (K (nI 0) h) else (K (nI 1) h)))
set_option maxHeartbeats 4000000 in
theorem c_X1_hasPlace {l : Launch} {d : Nat} {F : Nat} {a1 : Int32} {a2 : Int32} {h : AH} {K : Int32 → AH → Prop} (hd : 0 ≤ d) (hM : P_X1_hasPlace F a1 a2 h K) : Ct l yX1_hasPlace cX1_hasPlace 3 (some .boolean) (rmD d) [.ref 53, .int a1, .int a2] h (Qi K) := by
  refine Ct_ofBW (by decide) rfl (Nat.le_of_ble_eq_true rfl) ⟨rfl, rfl⟩ ?_
  show BW RX1 cX1_hasPlace 3 (some .boolean) l (rmD d) tb0 3 [.ref 53, .int a1, .int a2] [] 0 h (Qi K)
  unfold P_X1_hasPlace at hM
  refine B_iload_n dX1_hasPlace_0 rfl ?_
  refine B_if_lt dX1_hasPlace_1 hM (tgt := 18) rfl (fun hM => ?_) (fun hM => ?_)
  · refine B_iconst dX1_hasPlace_18 k_ic_0 ?_
    exact B_iret ⟨_, rfl, hM⟩ zB_0 dX1_hasPlace_19
  · refine B_iload_n dX1_hasPlace_4 rfl ?_
    refine B_aload_n dX1_hasPlace_5 rfl ?_
    refine B_getR (sc_53) vc_1 (k := 1) (j := 55) rfl (by decide) inG1 ⟨rfl, rfl, rfl⟩ ww_fl_X1_15 dX1_hasPlace_6 ?_
    refine B_iload_n dX1_hasPlace_9 rfl ?_
    refine B_iald (sc_55) hM dX1_hasPlace_10 (fun hM => ?_)
    refine B_icmp_ge dX1_hasPlace_11 hM (tgt := 18) rfl (fun hM => ?_) (fun hM => ?_)
    · refine B_iconst dX1_hasPlace_18 k_ic_0 ?_
      exact B_iret ⟨_, rfl, hM⟩ zB_0 dX1_hasPlace_19
    · refine B_iconst dX1_hasPlace_14 k_ic_1 ?_
      refine B_goto (tgt := 19) dX1_hasPlace_15 rfl ?_
      exact B_iret ⟨_, rfl, hM⟩ zB_1 dX1_hasPlace_19

def X1_make_c9 (F : Nat) (K : AH → Prop) (n : Nat) : Int32 → Int32 → Int32 → AH → Prop := Nat.rec (motive := fun _ => Int32 → Int32 → Int32 → AH → Prop) (fun _ _ _ _ => False) (fun _ rc9 x1 x2 x3 h => if x2 ≤ x3 then (K h) else (P_X1_cell F x1 x3 h (fun (r2 : Int32) (h1 : AH) => vp_in r2 108 ∧ ((fun (h3 : AH) => rc9 x1 x2 (x3 + (nI 1)) h3) (up h1 54 r2.toNatClampNeg (nI 0)))))) n
theorem X1_make_c9_s {F : Nat} {K : AH → Prop} {n : Nat} {x1 : Int32} {x2 : Int32} {x3 : Int32} {h : AH} : X1_make_c9 F K (n + 1) x1 x2 x3 h = (if x2 ≤ x3 then (K h) else (P_X1_cell F x1 x3 h (fun (r2 : Int32) (h1 : AH) => vp_in r2 108 ∧ ((fun (h3 : AH) => (X1_make_c9 F K n) x1 x2 (x3 + (nI 1)) h3) (up h1 54 r2.toNatClampNeg (nI 0)))))) := rfl
set_option maxHeartbeats 4000000 in
theorem bw_X1_make_c9 {l : Launch} {d : Nat} {F : Nat} {K : AH → Prop} (hd : 1 ≤ d) : ∀ (n : Nat) (x1 : Int32) (x2 : Int32) (x3 : Int32) (h : AH), X1_make_c9 F K n x1 x2 x3 h → BW RX1 cX1_make 4 none l (rmD d) tb0 3 [.ref 53, .int x1, .int x2, .int x3] [] 9 h (Qv K) := by
  have hk1 : 1 ≤ d := by omega
  have hk_X1_cell : 0 ≤ d - 1 := by omega
  intro n
  induction n with
  | zero =>
    intro x1 x2 x3 h hM
    exact hM.elim
  | succ n hr9 =>
    intro x1 x2 x3 h hM
    rw [X1_make_c9_s] at hM
    refine B_iload_n dX1_make_9 rfl ?_
    refine B_iload_n dX1_make_10 rfl ?_
    refine B_icmp_ge dX1_make_11 hM (tgt := 31) rfl (fun hM => ?_) (fun hM => ?_)
    · exact B_vret ⟨rfl, hM⟩ trivial dX1_make_31
    · refine B_aload_n dX1_make_14 rfl ?_
      refine B_getR (sc_53) vc_1 (k := 0) (j := 54) rfl (by decide) inG1 ⟨rfl, rfl, rfl⟩ ww_fl_X1_9 dX1_make_15 ?_
      refine B_iload_n dX1_make_18 rfl ?_
      refine B_iload_n dX1_make_19 rfl ?_
      refine B_cS2i (c_X1_cell (d := d - 1) hk_X1_cell  hM) csS_X1_18 hp0 (rm_f hk1) (rm_l hk1 (by decide)) (Nat.le_of_ble_eq_true rfl) dX1_make_20 (fun r2 h1 hM => ?_)
      refine B_iconst dX1_make_23 k_ic_0 ?_
      refine B_iast (sc_54) hM dX1_make_24 (fun hM => ?_)
      refine B_iinc dX1_make_25 rfl k_ic_1 (Nat.le_of_ble_eq_true rfl) ?_
      refine B_goto (tgt := 9) dX1_make_28 rfl ?_
      exact B_wk (hr9 _ _ _ _ hM) (wk_1 (wk_1 (wk_1 (wk_1 wk_n))))
def P_X1_make (F : Nat) (a1 : Int32) (a2 : Int32) (h : AH) (K : AH → Prop) : Prop := vp_in a1 3 ∧ ((fun (h1 : AH) => X1_make_c9 F K F a1 a2 (nI 0) h1) (up h 55 a1.toNatClampNeg a2))
set_option maxHeartbeats 4000000 in
theorem c_X1_make {l : Launch} {d : Nat} {F : Nat} {a1 : Int32} {a2 : Int32} {h : AH} {K : AH → Prop} (hd : 1 ≤ d) (hM : P_X1_make F a1 a2 h K) : Ct l yX1_make cX1_make 4 none (rmD d) [.ref 53, .int a1, .int a2] h (Qv K) := by
  have hk1 : 1 ≤ d := by omega
  have hk_X1_cell : 0 ≤ d - 1 := by omega
  refine Ct_ofBW (by decide) rfl (Nat.le_of_ble_eq_true rfl) ⟨rfl, rfl⟩ ?_
  show BW RX1 cX1_make 4 none l (rmD d) tb0 3 [.ref 53, .int a1, .int a2, .null] [] 0 h (Qv K)
  unfold P_X1_make at hM
  refine B_aload_n dX1_make_0 rfl ?_
  refine B_getR (sc_53) vc_1 (k := 1) (j := 55) rfl (by decide) inG1 ⟨rfl, rfl, rfl⟩ ww_fl_X1_15 dX1_make_1 ?_
  refine B_iload_n dX1_make_4 rfl ?_
  refine B_iload_n dX1_make_5 rfl ?_
  refine B_iast (sc_55) hM dX1_make_6 (fun hM => ?_)
  refine B_iconst dX1_make_7 k_ic_0 ?_
  refine B_istore_n dX1_make_8 (Nat.le_of_ble_eq_true rfl) ?_
  exact B_wk (bw_X1_make_c9 hd  _ _ _ _ _ hM) (wk_1 (wk_1 (wk_1 (wk_1 wk_n))))

def P_X2_below (F : Nat) (a1 : Int32) (h : AH) (K : Int32 → AH → Prop) : Prop := if (nI 0) < a1 then ((fun (h1 : AH) => ¬ (nI 65536) = 0 ∧ (¬ a1 = 0 ∧ (K ((((h1 39 0) &&& (nI 2147483647)) / (nI 65536)) - (((h1 39 0) &&& (nI 2147483647)) / (nI 65536)) / a1 * a1) h1))) (up h 39 0 (((h 39 0) * (nI 1103515245)) + (nI 12345)))) else (K (nI 0) h)
set_option maxHeartbeats 4000000 in
theorem c_X2_below {l : Launch} {d : Nat} {F : Nat} {a1 : Int32} {h : AH} {K : Int32 → AH → Prop} (hd : 0 ≤ d) (hM : P_X2_below F a1 h K) : Ct l yX2_below cX2_below 2 (some .int) (rmD d) [.ref 39, .int a1] h (Qi K) := by
  refine Ct_ofBW (by decide) rfl (Nat.le_of_ble_eq_true rfl) ⟨rfl, rfl⟩ ?_
  show BW RX2 cX2_below 2 (some .int) l (rmD d) tb0 3 [.ref 39, .int a1] [] 0 h (Qi K)
  unfold P_X2_below at hM
  refine B_iload_n dX2_below_0 rfl ?_
  refine B_if_gt dX2_below_1 hM (tgt := 6) rfl (fun hM => ?_) (fun hM => ?_)
  · refine B_aload_n dX2_below_6 rfl ?_
    refine B_aload_n dX2_below_7 rfl ?_
    refine B_getI (sc_39) vc_2 (k := 0) rfl (by decide) inG2 ⟨rfl, rfl, rfl⟩ ww_fl_X2_7 dX2_below_8 ?_
    refine B_ldc dX2_below_11 ww_cst_X2_13 ?_
    refine B_imul dX2_below_13 ?_
    refine B_sipush dX2_below_14 k_si_12345 ?_
    refine B_iadd dX2_below_17 ?_
    refine B_putI (fits_I _) (sc_39) vc_2 (k := 0) rfl (by decide) inG2 ⟨rfl, rfl, rfl⟩ tyX2 tyX2_ok nmX2 rfl rfl ww_fl_X2_7 dX2_below_18 ?_
    refine B_aload_n dX2_below_21 rfl ?_
    refine B_getI (sc_39) vc_2 (k := 0) rfl (by decide) inG2 ⟨rfl, rfl, rfl⟩ ww_fl_X2_7 dX2_below_22 ?_
    refine B_ldc dX2_below_25 ww_cst_X2_14 ?_
    refine B_iand dX2_below_27 ?_
    refine B_ldc dX2_below_28 ww_cst_X2_15 ?_
    refine B_idiv dX2_below_30 hM (fun hM => ?_)
    refine B_iload_n dX2_below_31 rfl ?_
    refine B_irem dX2_below_32 hM (fun hM => ?_)
    exact B_iret ⟨_, rfl, hM⟩ trivial dX2_below_33
  · refine B_iconst dX2_below_4 k_ic_0 ?_
    exact B_iret ⟨_, rfl, hM⟩ trivial dX2_below_5

def P_X3_put (F : Nat) (a1 : Int32) (h : AH) (K : AH → Prop) : Prop := if (h 51 0) < (nI 3960) then (vp_in (h 51 0) 3960 ∧ ((fun (h1 : AH) => (fun (h2 : AH) => K h2) (up h1 51 0 ((h1 51 0) + (nI 1)))) (up h 52 (h 51 0).toNatClampNeg (vp_nar .byte (a1).toInt8.toInt32)))) else (K h)
set_option maxHeartbeats 4000000 in
theorem c_X3_put {l : Launch} {d : Nat} {F : Nat} {a1 : Int32} {h : AH} {K : AH → Prop} (hd : 0 ≤ d) (hM : P_X3_put F a1 h K) : Ct l yX3_put cX3_put 2 none (rmD d) [.ref 51, .int a1] h (Qv K) := by
  refine Ct_ofBW (by decide) rfl (Nat.le_of_ble_eq_true rfl) ⟨rfl, rfl⟩ ?_
  show BW RX3 cX3_put 2 none l (rmD d) tb0 3 [.ref 51, .int a1] [] 0 h (Qv K)
  unfold P_X3_put at hM
  refine B_aload_n dX3_put_0 rfl ?_
  refine B_getI (sc_51) vc_3 (k := 0) rfl (by decide) inG3 ⟨rfl, rfl, rfl⟩ ww_fl_X3_9 dX3_put_1 ?_
  refine B_sipush dX3_put_4 k_si_3960 ?_
  refine B_icmp_lt dX3_put_7 hM (tgt := 11) rfl (fun hM => ?_) (fun hM => ?_)
  · refine B_aload_n dX3_put_11 rfl ?_
    refine B_getR (sc_51) vc_3 (k := 1) (j := 52) rfl (by decide) inG3 ⟨rfl, rfl, rfl⟩ ww_fl_X3_15 dX3_put_12 ?_
    refine B_aload_n dX3_put_15 rfl ?_
    refine B_getI (sc_51) vc_3 (k := 0) rfl (by decide) inG3 ⟨rfl, rfl, rfl⟩ ww_fl_X3_9 dX3_put_16 ?_
    refine B_iload_n dX3_put_19 rfl ?_
    refine B_i2b dX3_put_20 ?_
    refine B_bast (sc_52) hM dX3_put_21 (fun hM => ?_)
    refine B_aload_n dX3_put_22 rfl ?_
    refine B_dupR dX3_put_23 ?_
    refine B_getI (sc_51) vc_3 (k := 0) rfl (by decide) inG3 ⟨rfl, rfl, rfl⟩ ww_fl_X3_9 dX3_put_24 ?_
    refine B_iconst dX3_put_27 k_ic_1 ?_
    refine B_iadd dX3_put_28 ?_
    refine B_putI (fits_I _) (sc_51) vc_3 (k := 0) rfl (by decide) inG3 ⟨rfl, rfl, rfl⟩ tyX3 tyX3_ok nmX3 rfl rfl ww_fl_X3_9 dX3_put_29 ?_
    exact B_vret ⟨rfl, hM⟩ trivial dX3_put_32
  · exact B_vret ⟨rfl, hM⟩ trivial dX3_put_10

def P_X3_letterOf (F : Nat) (a1 : Int32) (h : AH) (K : Int32 → AH → Prop) : Prop := if a1 = (nI 1) then (K (nI 108) h) else (if a1 = (nI 2) then (K (nI 115) h) else (if a1 = (nI 3) then (K (nI 109) h) else (if a1 = (nI 4) then (K (nI 117) h) else (K (nI 111) h))))
set_option maxHeartbeats 4000000 in
theorem c_X3_letterOf {l : Launch} {d : Nat} {F : Nat} {a1 : Int32} {h : AH} {K : Int32 → AH → Prop} (hd : 0 ≤ d) (hM : P_X3_letterOf F a1 h K) : Ct l yX3_letterOf cX3_letterOf 1 (some .int) (rmD d) [.int a1] h (Qi K) := by
  refine Ct_ofBW (by decide) rfl (Nat.le_of_ble_eq_true rfl) ⟨rfl, rfl⟩ ?_
  show BW RX3 cX3_letterOf 1 (some .int) l (rmD d) tb0 3 [.int a1] [] 0 h (Qi K)
  unfold P_X3_letterOf at hM
  refine B_iload_n dX3_letterOf_0 rfl ?_
  refine ite_p hM (fun hc0 hM => ?_) (fun hc0 hM => ?_)
  · refine B_tin hc0 (by decide) (by decide) rfl dX3_letterOf_1 (tgt := 32) rfl ?_
    refine B_bipush dX3_letterOf_32 k_bi_108 ?_
    exact B_iret ⟨_, rfl, hM⟩ trivial dX3_letterOf_34
  refine ite_p hM (fun hc1 hM => ?_) (fun hc1 hM => ?_)
  · refine B_tin hc1 (by decide) (by decide) rfl dX3_letterOf_1 (tgt := 35) rfl ?_
    refine B_bipush dX3_letterOf_35 k_bi_115 ?_
    exact B_iret ⟨_, rfl, hM⟩ trivial dX3_letterOf_37
  refine ite_p hM (fun hc2 hM => ?_) (fun hc2 hM => ?_)
  · refine B_tin hc2 (by decide) (by decide) rfl dX3_letterOf_1 (tgt := 38) rfl ?_
    refine B_bipush dX3_letterOf_38 k_bi_109 ?_
    exact B_iret ⟨_, rfl, hM⟩ trivial dX3_letterOf_40
  refine ite_p hM (fun hc3 hM => ?_) (fun hc3 hM => ?_)
  · refine B_tin hc3 (by decide) (by decide) rfl dX3_letterOf_1 (tgt := 41) rfl ?_
    refine B_bipush dX3_letterOf_41 k_bi_117 ?_
    exact B_iret ⟨_, rfl, hM⟩ trivial dX3_letterOf_43
  refine B_tout (tsw_out1b hc0 hc1 hc2 hc3) dX3_letterOf_1 (tgt := 44) rfl ?_
  refine B_bipush dX3_letterOf_44 k_bi_111 ?_
  exact B_iret ⟨_, rfl, hM⟩ trivial dX3_letterOf_46

def X3_putNumber_c30 (F : Nat) (rc3 : Int32 → Int32 → AH → Prop) (K : AH → Prop) (x1 : Int32) (x2 : Int32) (h : AH) : Prop := ¬ (nI 10) = 0 ∧ (rc3 x1 (x2 / (nI 10)) h)
set_option maxHeartbeats 4000000 in
theorem bw_X3_putNumber_c30 {l : Launch} {d : Nat} {F : Nat} {rc3 : Int32 → Int32 → AH → Prop} {K : AH → Prop} {x1 : Int32} {x2 : Int32} {h : AH} (hd : 1 ≤ d) (hr3 : ∀ (x1 : Int32) (x2 : Int32) (h : AH), rc3 x1 x2 h → BW RX3 cX3_putNumber 3 none l (rmD d) tb0 3 [.ref 51, .int x1, .int x2] [] 3 h (Qv K)) (hM : X3_putNumber_c30 F rc3 K x1 x2 h) : BW RX3 cX3_putNumber 3 none l (rmD d) tb0 3 [.ref 51, .int x1, .int x2] [] 30 h (Qv K) := by
  have hk1 : 1 ≤ d := by omega
  have hk_X3_put : 0 ≤ d - 1 := by omega
  unfold X3_putNumber_c30 at hM
  refine B_iload_n dX3_putNumber_30 rfl ?_
  refine B_bipush dX3_putNumber_31 k_bi_10 ?_
  refine B_idiv dX3_putNumber_33 hM (fun hM => ?_)
  refine B_istore_n dX3_putNumber_34 (Nat.le_of_ble_eq_true rfl) ?_
  refine B_goto (tgt := 3) dX3_putNumber_35 rfl ?_
  exact B_wk (hr3 _ _ _ hM) (wk_1 (wk_1 (wk_1 wk_n)))
def X3_putNumber_c17 (F : Nat) (rc3 : Int32 → Int32 → AH → Prop) (K : AH → Prop) (x1 : Int32) (x2 : Int32) (h : AH) : Prop := ¬ x2 = 0 ∧ (¬ (nI 10) = 0 ∧ (P_X3_put F ((nI 48) + ((x1 / x2) - (x1 / x2) / (nI 10) * (nI 10))) h (fun (h1 : AH) => X3_putNumber_c30 F rc3 K x1 x2 h1)))
set_option maxHeartbeats 4000000 in
theorem bw_X3_putNumber_c17 {l : Launch} {d : Nat} {F : Nat} {rc3 : Int32 → Int32 → AH → Prop} {K : AH → Prop} {x1 : Int32} {x2 : Int32} {h : AH} (hd : 1 ≤ d) (hr3 : ∀ (x1 : Int32) (x2 : Int32) (h : AH), rc3 x1 x2 h → BW RX3 cX3_putNumber 3 none l (rmD d) tb0 3 [.ref 51, .int x1, .int x2] [] 3 h (Qv K)) (hM : X3_putNumber_c17 F rc3 K x1 x2 h) : BW RX3 cX3_putNumber 3 none l (rmD d) tb0 3 [.ref 51, .int x1, .int x2] [] 17 h (Qv K) := by
  have hk1 : 1 ≤ d := by omega
  have hk_X3_put : 0 ≤ d - 1 := by omega
  unfold X3_putNumber_c17 at hM
  refine B_aload_n dX3_putNumber_17 rfl ?_
  refine B_bipush dX3_putNumber_18 k_bi_48 ?_
  refine B_iload_n dX3_putNumber_20 rfl ?_
  refine B_iload_n dX3_putNumber_21 rfl ?_
  refine B_idiv dX3_putNumber_22 hM (fun hM => ?_)
  refine B_bipush dX3_putNumber_23 k_bi_10 ?_
  refine B_irem dX3_putNumber_25 hM (fun hM => ?_)
  refine B_iadd dX3_putNumber_26 ?_
  refine B_cV1v (c_X3_put (d := d - 1) hk_X3_put  hM) csV_X3_23 (sc_51) vc_3 rfl hp0 (rm_f hk1) (rm_l hk1 (by decide)) (Nat.le_of_ble_eq_true rfl) dX3_putNumber_27 (fun h1 hM => ?_)
  exact B_wk (bw_X3_putNumber_c30 hd hr3 hM) (wk_1 (wk_1 (wk_1 wk_n)))
def X3_putNumber_c3 (F : Nat) (K : AH → Prop) (n : Nat) : Int32 → Int32 → AH → Prop := Nat.rec (motive := fun _ => Int32 → Int32 → AH → Prop) (fun _ _ _ => False) (fun _ rc3 x1 x2 h => if x2 ≤ (nI 0) then (K h) else (if x2 ≤ x1 then (X3_putNumber_c17 F rc3 K x1 x2 h) else (if ¬ x2 = (nI 1) then (X3_putNumber_c30 F rc3 K x1 x2 h) else (X3_putNumber_c17 F rc3 K x1 x2 h)))) n
theorem X3_putNumber_c3_s {F : Nat} {K : AH → Prop} {n : Nat} {x1 : Int32} {x2 : Int32} {h : AH} : X3_putNumber_c3 F K (n + 1) x1 x2 h = (if x2 ≤ (nI 0) then (K h) else (if x2 ≤ x1 then (X3_putNumber_c17 F (X3_putNumber_c3 F K n) K x1 x2 h) else (if ¬ x2 = (nI 1) then (X3_putNumber_c30 F (X3_putNumber_c3 F K n) K x1 x2 h) else (X3_putNumber_c17 F (X3_putNumber_c3 F K n) K x1 x2 h)))) := rfl
set_option maxHeartbeats 4000000 in
theorem bw_X3_putNumber_c3 {l : Launch} {d : Nat} {F : Nat} {K : AH → Prop} (hd : 1 ≤ d) : ∀ (n : Nat) (x1 : Int32) (x2 : Int32) (h : AH), X3_putNumber_c3 F K n x1 x2 h → BW RX3 cX3_putNumber 3 none l (rmD d) tb0 3 [.ref 51, .int x1, .int x2] [] 3 h (Qv K) := by
  have hk1 : 1 ≤ d := by omega
  have hk_X3_put : 0 ≤ d - 1 := by omega
  intro n
  induction n with
  | zero =>
    intro x1 x2 h hM
    exact hM.elim
  | succ n hr3 =>
    intro x1 x2 h hM
    rw [X3_putNumber_c3_s] at hM
    refine B_iload_n dX3_putNumber_3 rfl ?_
    refine B_if_le dX3_putNumber_4 hM (tgt := 38) rfl (fun hM => ?_) (fun hM => ?_)
    · exact B_vret ⟨rfl, hM⟩ trivial dX3_putNumber_38
    · refine B_iload_n dX3_putNumber_7 rfl ?_
      refine B_iload_n dX3_putNumber_8 rfl ?_
      refine B_icmp_ge dX3_putNumber_9 hM (tgt := 17) rfl (fun hM => ?_) (fun hM => ?_)
      · exact B_wk (bw_X3_putNumber_c17 hd hr3 hM) (wk_1 (wk_1 (wk_1 wk_n)))
      · refine B_iload_n dX3_putNumber_12 rfl ?_
        refine B_iconst dX3_putNumber_13 k_ic_1 ?_
        refine B_icmp_ne dX3_putNumber_14 hM (tgt := 30) rfl (fun hM => ?_) (fun hM => ?_)
        · exact B_wk (bw_X3_putNumber_c30 hd hr3 hM) (wk_1 (wk_1 (wk_1 wk_n)))
        · exact B_wk (bw_X3_putNumber_c17 hd hr3 hM) (wk_1 (wk_1 (wk_1 wk_n)))
def P_X3_putNumber (F : Nat) (a1 : Int32) (h : AH) (K : AH → Prop) : Prop := X3_putNumber_c3 F K F a1 (nI 1000000000) h
set_option maxHeartbeats 4000000 in
theorem c_X3_putNumber {l : Launch} {d : Nat} {F : Nat} {a1 : Int32} {h : AH} {K : AH → Prop} (hd : 1 ≤ d) (hM : P_X3_putNumber F a1 h K) : Ct l yX3_putNumber cX3_putNumber 3 none (rmD d) [.ref 51, .int a1] h (Qv K) := by
  have hk1 : 1 ≤ d := by omega
  have hk_X3_put : 0 ≤ d - 1 := by omega
  refine Ct_ofBW (by decide) rfl (Nat.le_of_ble_eq_true rfl) ⟨rfl, rfl⟩ ?_
  show BW RX3 cX3_putNumber 3 none l (rmD d) tb0 3 [.ref 51, .int a1, .null] [] 0 h (Qv K)
  unfold P_X3_putNumber at hM
  refine B_ldc dX3_putNumber_0 ww_cst_X3_30 ?_
  refine B_istore_n dX3_putNumber_2 (Nat.le_of_ble_eq_true rfl) ?_
  exact B_wk (bw_X3_putNumber_c3 hd  _ _ _ _ hM) (wk_1 (wk_1 (wk_1 wk_n)))

def X3_putHold_c48 (F : Nat) (K : AH → Prop) (h : AH) : Prop := P_X3_put F (nI 32) h (fun (h1 : AH) => K h1)
set_option maxHeartbeats 4000000 in
theorem bw_X3_putHold_c48 {l : Launch} {d : Nat} {F : Nat} {K : AH → Prop} {h : AH} (hd : 2 ≤ d) (hM : X3_putHold_c48 F K h) : BW RX3 cX3_putHold 5 none l (rmD d) tb0 3 [.ref 51, .null, .null, .null, .null] [] 48 h (Qv K) := by
  have hk1 : 1 ≤ d := by omega
  have hk_X3_letterOf : 0 ≤ d - 1 := by omega
  have hk_X3_put : 0 ≤ d - 1 := by omega
  have hk_X3_putNumber : 1 ≤ d - 1 := by omega
  unfold X3_putHold_c48 at hM
  refine B_aload_n dX3_putHold_48 rfl ?_
  refine B_bipush dX3_putHold_49 k_bi_32 ?_
  refine B_cV1v (c_X3_put (d := d - 1) hk_X3_put  hM) csV_X3_23 (sc_51) vc_3 rfl hp0 (rm_f hk1) (rm_l hk1 (by decide)) (Nat.le_of_ble_eq_true rfl) dX3_putHold_51 (fun h1 hM => ?_)
  exact B_vret ⟨rfl, hM⟩ trivial dX3_putHold_54
def P_X3_putHold (F : Nat) (a1 : Int32) (a2 : Int32) (a3 : Int32) (a4 : Int32) (h : AH) (K : AH → Prop) : Prop := if ¬ a4 = (nI 0) then (P_X3_putNumber F a1 h (fun (h1 : AH) => P_X3_put F (nI 58) h1 (fun (h2 : AH) => P_X3_putNumber F a2 h2 (fun (h3 : AH) => P_X3_letterOf F a3 h3 (fun (r5 : Int32) (h4 : AH) => P_X3_put F r5 h4 (fun (h6 : AH) => if a4 ≤ (nI 1) then (X3_putHold_c48 F K h6) else (P_X3_put F (nI 120) h6 (fun (h7 : AH) => P_X3_putNumber F a4 h7 (fun (h8 : AH) => X3_putHold_c48 F K h8))))))))) else (K h)
set_option maxHeartbeats 4000000 in
theorem c_X3_putHold {l : Launch} {d : Nat} {F : Nat} {a1 : Int32} {a2 : Int32} {a3 : Int32} {a4 : Int32} {h : AH} {K : AH → Prop} (hd : 2 ≤ d) (hM : P_X3_putHold F a1 a2 a3 a4 h K) : Ct l yX3_putHold cX3_putHold 5 none (rmD d) [.ref 51, .int a1, .int a2, .int a3, .int a4] h (Qv K) := by
  have hk1 : 1 ≤ d := by omega
  have hk_X3_letterOf : 0 ≤ d - 1 := by omega
  have hk_X3_put : 0 ≤ d - 1 := by omega
  have hk_X3_putNumber : 1 ≤ d - 1 := by omega
  refine Ct_ofBW (by decide) rfl (Nat.le_of_ble_eq_true rfl) ⟨rfl, rfl⟩ ?_
  show BW RX3 cX3_putHold 5 none l (rmD d) tb0 3 [.ref 51, .int a1, .int a2, .int a3, .int a4] [] 0 h (Qv K)
  unfold P_X3_putHold at hM
  refine B_iload dX3_putHold_0 rfl ?_
  refine B_if_ne dX3_putHold_2 hM (tgt := 6) rfl (fun hM => ?_) (fun hM => ?_)
  · refine B_aload_n dX3_putHold_6 rfl ?_
    refine B_iload_n dX3_putHold_7 rfl ?_
    refine B_cV1v (c_X3_putNumber (d := d - 1) hk_X3_putNumber  hM) csV_X3_19 (sc_51) vc_3 rfl hp0 (rm_f hk1) (rm_l hk1 (by decide)) (Nat.le_of_ble_eq_true rfl) dX3_putHold_8 (fun h1 hM => ?_)
    refine B_aload_n dX3_putHold_11 rfl ?_
    refine B_bipush dX3_putHold_12 k_bi_58 ?_
    refine B_cV1v (c_X3_put (d := d - 1) hk_X3_put  hM) csV_X3_23 (sc_51) vc_3 rfl hp0 (rm_f hk1) (rm_l hk1 (by decide)) (Nat.le_of_ble_eq_true rfl) dX3_putHold_14 (fun h2 hM => ?_)
    refine B_aload_n dX3_putHold_17 rfl ?_
    refine B_iload_n dX3_putHold_18 rfl ?_
    refine B_cV1v (c_X3_putNumber (d := d - 1) hk_X3_putNumber  hM) csV_X3_19 (sc_51) vc_3 rfl hp0 (rm_f hk1) (rm_l hk1 (by decide)) (Nat.le_of_ble_eq_true rfl) dX3_putHold_19 (fun h3 hM => ?_)
    refine B_aload_n dX3_putHold_22 rfl ?_
    refine B_iload_n dX3_putHold_23 rfl ?_
    refine B_cS1i (c_X3_letterOf (d := d - 1) hk_X3_letterOf  hM) csS_X3_26 hp0 (rm_f hk1) (rm_l hk1 (by decide)) (Nat.le_of_ble_eq_true rfl) dX3_putHold_24 (fun r5 h4 hM => ?_)
    refine B_cV1v (c_X3_put (d := d - 1) hk_X3_put  hM) csV_X3_23 (sc_51) vc_3 rfl hp0 (rm_f hk1) (rm_l hk1 (by decide)) (Nat.le_of_ble_eq_true rfl) dX3_putHold_27 (fun h6 hM => ?_)
    refine B_iload dX3_putHold_30 rfl ?_
    refine B_iconst dX3_putHold_32 k_ic_1 ?_
    refine B_icmp_le dX3_putHold_33 hM (tgt := 48) rfl (fun hM => ?_) (fun hM => ?_)
    · exact B_wk (bw_X3_putHold_c48 hd  hM) (wk_1 (wk_0 (wk_0 (wk_0 (wk_0 wk_n)))))
    · refine B_aload_n dX3_putHold_36 rfl ?_
      refine B_bipush dX3_putHold_37 k_bi_120 ?_
      refine B_cV1v (c_X3_put (d := d - 1) hk_X3_put  hM) csV_X3_23 (sc_51) vc_3 rfl hp0 (rm_f hk1) (rm_l hk1 (by decide)) (Nat.le_of_ble_eq_true rfl) dX3_putHold_39 (fun h7 hM => ?_)
      refine B_aload_n dX3_putHold_42 rfl ?_
      refine B_iload dX3_putHold_43 rfl ?_
      refine B_cV1v (c_X3_putNumber (d := d - 1) hk_X3_putNumber  hM) csV_X3_19 (sc_51) vc_3 rfl hp0 (rm_f hk1) (rm_l hk1 (by decide)) (Nat.le_of_ble_eq_true rfl) dX3_putHold_45 (fun h8 hM => ?_)
      exact B_wk (bw_X3_putHold_c48 hd  hM) (wk_1 (wk_0 (wk_0 (wk_0 (wk_0 wk_n)))))
  · exact B_vret ⟨rfl, hM⟩ trivial dX3_putHold_5

def X4_start_c38 (F : Nat) (b : Nat) (K : AH → Prop) (n : Nat) : Int32 → AH → Prop := Nat.rec (motive := fun _ => Int32 → AH → Prop) (fun _ _ => False) (fun _ rc38 x2 h => if (h b 9) ≤ x2 then (K h) else (vp_in x2 12 ∧ ((fun (h1 : AH) => rc38 (x2 + (nI 1)) h1) (up h 37 1 ((h 37 1) ||| ((nI 1) <<< ((h (b + 8) x2.toNatClampNeg) &&& 31))))))) n
theorem X4_start_c38_s {F : Nat} {b : Nat} {K : AH → Prop} {n : Nat} {x2 : Int32} {h : AH} : X4_start_c38 F b K (n + 1) x2 h = (if (h b 9) ≤ x2 then (K h) else (vp_in x2 12 ∧ ((fun (h1 : AH) => (X4_start_c38 F b K n) (x2 + (nI 1)) h1) (up h 37 1 ((h 37 1) ||| ((nI 1) <<< ((h (b + 8) x2.toNatClampNeg) &&& 31))))))) := rfl
set_option maxHeartbeats 4000000 in
theorem bw_X4_start_c38 {l : Launch} {d : Nat} {F : Nat} {b : Nat} {K : AH → Prop} (hd : 0 ≤ d) (hb : isTbl b) : ∀ (n : Nat) (x2 : Int32) (h : AH), X4_start_c38 F b K n x2 h → BW RX4 cX4_start 3 none l (rmD d) tb0 3 [.ref 37, .ref b, .int x2] [] 38 h (Qv K) := by
  intro n
  induction n with
  | zero =>
    intro x2 h hM
    exact hM.elim
  | succ n hr38 =>
    intro x2 h hM
    rw [X4_start_c38_s] at hM
    refine B_iload_n dX4_start_38 rfl ?_
    refine B_aload_n dX4_start_39 rfl ?_
    refine B_getI (tb_0 hb) vc_5 (k := 9) rfl (by decide) inG5 ⟨rfl, rfl, rfl⟩ ww_fl_X4_25 dX4_start_40 ?_
    refine B_icmp_ge dX4_start_43 hM (tgt := 69) rfl (fun hM => ?_) (fun hM => ?_)
    · exact B_vret ⟨rfl, hM⟩ trivial dX4_start_69
    · refine B_aload_n dX4_start_46 rfl ?_
      refine B_dupR dX4_start_47 ?_
      refine B_getI (sc_37) vc_4 (k := 1) rfl (by decide) inG4 ⟨rfl, rfl, rfl⟩ ww_fl_X4_15 dX4_start_48 ?_
      refine B_iconst dX4_start_51 k_ic_1 ?_
      refine B_aload_n dX4_start_52 rfl ?_
      refine B_getR (tb_0 hb) vc_5 (k := 10) (j := (b + 8)) rfl (by decide) inG5 ⟨rfl, rfl, rfl⟩ ww_fl_X4_30 dX4_start_53 ?_
      refine B_iload_n dX4_start_56 rfl ?_
      refine B_iald (tb_8 hb) hM dX4_start_57 (fun hM => ?_)
      refine B_ishl dX4_start_58 ?_
      refine B_ior dX4_start_59 ?_
      refine B_putI (fits_I _) (sc_37) vc_4 (k := 1) rfl (by decide) inG4 ⟨rfl, rfl, rfl⟩ tyX4 tyX4_ok nmX4 rfl rfl ww_fl_X4_15 dX4_start_60 ?_
      refine B_iinc dX4_start_63 rfl k_ic_1 (Nat.le_of_ble_eq_true rfl) ?_
      refine B_goto (tgt := 38) dX4_start_66 rfl ?_
      exact B_wk (hr38 _ _ hM) (wk_1 (wk_1 (wk_1 wk_n)))
def X4_start_c17 (F : Nat) (b : Nat) (K : AH → Prop) (n : Nat) : Int32 → AH → Prop := Nat.rec (motive := fun _ => Int32 → AH → Prop) (fun _ _ => False) (fun _ rc17 x2 h => if (nI 6) ≤ x2 then (X4_start_c38 F b K F (nI 0) h) else (vp_in x2 6 ∧ ((fun (h1 : AH) => rc17 (x2 + (nI 1)) h1) (up h 38 x2.toNatClampNeg (nI 0))))) n
theorem X4_start_c17_s {F : Nat} {b : Nat} {K : AH → Prop} {n : Nat} {x2 : Int32} {h : AH} : X4_start_c17 F b K (n + 1) x2 h = (if (nI 6) ≤ x2 then (X4_start_c38 F b K F (nI 0) h) else (vp_in x2 6 ∧ ((fun (h1 : AH) => (X4_start_c17 F b K n) (x2 + (nI 1)) h1) (up h 38 x2.toNatClampNeg (nI 0))))) := rfl
set_option maxHeartbeats 4000000 in
theorem bw_X4_start_c17 {l : Launch} {d : Nat} {F : Nat} {b : Nat} {K : AH → Prop} (hd : 0 ≤ d) (hb : isTbl b) : ∀ (n : Nat) (x2 : Int32) (h : AH), X4_start_c17 F b K n x2 h → BW RX4 cX4_start 3 none l (rmD d) tb0 3 [.ref 37, .ref b, .int x2] [] 17 h (Qv K) := by
  intro n
  induction n with
  | zero =>
    intro x2 h hM
    exact hM.elim
  | succ n hr17 =>
    intro x2 h hM
    rw [X4_start_c17_s] at hM
    refine B_iload_n dX4_start_17 rfl ?_
    refine B_bipush dX4_start_18 k_bi_6 ?_
    refine B_icmp_ge dX4_start_20 hM (tgt := 36) rfl (fun hM => ?_) (fun hM => ?_)
    · refine B_iconst dX4_start_36 k_ic_0 ?_
      refine B_istore_n dX4_start_37 (Nat.le_of_ble_eq_true rfl) ?_
      exact B_wk (bw_X4_start_c38 hd hb  _ _ _ hM) (wk_1 (wk_1 (wk_1 wk_n)))
    · refine B_aload_n dX4_start_23 rfl ?_
      refine B_getR (sc_37) vc_4 (k := 0) (j := 38) rfl (by decide) inG4 ⟨rfl, rfl, rfl⟩ ww_fl_X4_9 dX4_start_24 ?_
      refine B_iload_n dX4_start_27 rfl ?_
      refine B_iconst dX4_start_28 k_ic_0 ?_
      refine B_iast (sc_38) hM dX4_start_29 (fun hM => ?_)
      refine B_iinc dX4_start_30 rfl k_ic_1 (Nat.le_of_ble_eq_true rfl) ?_
      refine B_goto (tgt := 17) dX4_start_33 rfl ?_
      exact B_wk (hr17 _ _ hM) (wk_1 (wk_1 (wk_1 wk_n)))
def P_X4_start (F : Nat) (b : Nat) (h : AH) (K : AH → Prop) : Prop := (fun (h1 : AH) => (fun (h2 : AH) => (fun (h3 : AH) => X4_start_c17 F b K F (nI 0) h3) (up h2 37 3 (nI 0))) (up h1 37 2 (nI 0))) (up h 37 1 (nI 0))
set_option maxHeartbeats 4000000 in
theorem c_X4_start {l : Launch} {d : Nat} {F : Nat} {b : Nat} {h : AH} {K : AH → Prop} (hd : 0 ≤ d) (hb : isTbl b) (hM : P_X4_start F b h K) : Ct l yX4_start cX4_start 3 none (rmD d) [.ref 37, .ref b] h (Qv K) := by
  refine Ct_ofBW (by decide) rfl (Nat.le_of_ble_eq_true rfl) ⟨rfl, rfl⟩ ?_
  show BW RX4 cX4_start 3 none l (rmD d) tb0 3 [.ref 37, .ref b, .null] [] 0 h (Qv K)
  unfold P_X4_start at hM
  refine B_aload_n dX4_start_0 rfl ?_
  refine B_iconst dX4_start_1 k_ic_0 ?_
  refine B_putI (fits_I _) (sc_37) vc_4 (k := 1) rfl (by decide) inG4 ⟨rfl, rfl, rfl⟩ tyX4 tyX4_ok nmX4 rfl rfl ww_fl_X4_15 dX4_start_2 ?_
  refine B_aload_n dX4_start_5 rfl ?_
  refine B_iconst dX4_start_6 k_ic_0 ?_
  refine B_putI (fits_I _) (sc_37) vc_4 (k := 2) rfl (by decide) inG4 ⟨rfl, rfl, rfl⟩ tyX4 tyX4_ok nmX4 rfl rfl ww_fl_X4_19 dX4_start_7 ?_
  refine B_aload_n dX4_start_10 rfl ?_
  refine B_iconst dX4_start_11 k_ic_0 ?_
  refine B_putI (fits_I _) (sc_37) vc_4 (k := 3) rfl (by decide) inG4 ⟨rfl, rfl, rfl⟩ tyX4 tyX4_ok nmX4 rfl rfl ww_fl_X4_22 dX4_start_12 ?_
  refine B_iconst dX4_start_15 k_ic_0 ?_
  refine B_istore_n dX4_start_16 (Nat.le_of_ble_eq_true rfl) ?_
  exact B_wk (bw_X4_start_c17 hd hb  _ _ _ hM) (wk_1 (wk_1 (wk_1 wk_n)))

def P_X7_hasBit (F : Nat) (a1 : Int32) (a2 : Int32) (h : AH) (K : Int32 → AH → Prop) : Prop := if ((a1 >>> (a2 &&& 31)) &&& (nI 1)) = (nI 0) then (K (nI 0) h) else (K (nI 1) h)
set_option maxHeartbeats 4000000 in
theorem c_X7_hasBit {l : Launch} {d : Nat} {F : Nat} {a1 : Int32} {a2 : Int32} {h : AH} {K : Int32 → AH → Prop} (hd : 0 ≤ d) (hM : P_X7_hasBit F a1 a2 h K) : Ct l yX7_hasBit cX7_hasBit 2 (some .boolean) (rmD d) [.int a1, .int a2] h (Qi K) := by
  refine Ct_ofBW (by decide) rfl (Nat.le_of_ble_eq_true rfl) ⟨rfl, rfl⟩ ?_
  show BW RX7 cX7_hasBit 2 (some .boolean) l (rmD d) tb0 3 [.int a1, .int a2] [] 0 h (Qi K)
  unfold P_X7_hasBit at hM
  refine B_iload_n dX7_hasBit_0 rfl ?_
  refine B_iload_n dX7_hasBit_1 rfl ?_
  refine B_ishr dX7_hasBit_2 ?_
  refine B_iconst dX7_hasBit_3 k_ic_1 ?_
  refine B_iand dX7_hasBit_4 ?_
  refine B_if_eq dX7_hasBit_5 hM (tgt := 12) rfl (fun hM => ?_) (fun hM => ?_)
  · refine B_iconst dX7_hasBit_12 k_ic_0 ?_
    exact B_iret ⟨_, rfl, hM⟩ zB_0 dX7_hasBit_13
  · refine B_iconst dX7_hasBit_8 k_ic_1 ?_
    refine B_goto (tgt := 13) dX7_hasBit_9 rfl ?_
    exact B_iret ⟨_, rfl, hM⟩ zB_1 dX7_hasBit_13

def P_X5_isWaiting (F : Nat) (b : Nat) (a1 : Int32) (h : AH) (K : Int32 → AH → Prop) : Prop := vp_in a1 6 ∧ (if (h (b + 7) a1.toNatClampNeg) = (nI 0) then (K (nI 0) h) else (K (nI 1) h))
set_option maxHeartbeats 4000000 in
theorem c_X5_isWaiting {l : Launch} {d : Nat} {F : Nat} {b : Nat} {a1 : Int32} {h : AH} {K : Int32 → AH → Prop} (hd : 0 ≤ d) (hb : isTbl b) (hM : P_X5_isWaiting F b a1 h K) : Ct l yX5_isWaiting cX5_isWaiting 2 (some .boolean) (rmD d) [.ref b, .int a1] h (Qi K) := by
  refine Ct_ofBW (by decide) rfl (Nat.le_of_ble_eq_true rfl) ⟨rfl, rfl⟩ ?_
  show BW RX5 cX5_isWaiting 2 (some .boolean) l (rmD d) tb0 3 [.ref b, .int a1] [] 0 h (Qi K)
  unfold P_X5_isWaiting at hM
  refine B_aload_n dX5_isWaiting_0 rfl ?_
  refine B_getR (tb_0 hb) vc_5 (k := 8) (j := (b + 7)) rfl (by decide) inG5 ⟨rfl, rfl, rfl⟩ ww_fl_X5_37 dX5_isWaiting_1 ?_
  refine B_iload_n dX5_isWaiting_4 rfl ?_
  refine B_iald (tb_7 hb) hM dX5_isWaiting_5 (fun hM => ?_)
  refine B_if_eq dX5_isWaiting_6 hM (tgt := 13) rfl (fun hM => ?_) (fun hM => ?_)
  · refine B_iconst dX5_isWaiting_13 k_ic_0 ?_
    exact B_iret ⟨_, rfl, hM⟩ zB_0 dX5_isWaiting_14
  · refine B_iconst dX5_isWaiting_9 k_ic_1 ?_
    refine B_goto (tgt := 14) dX5_isWaiting_10 rfl ?_
    exact B_iret ⟨_, rfl, hM⟩ zB_1 dX5_isWaiting_14

def X5_barring_c70 (F : Nat) (b : Nat) (rc12 : Int32 → Int32 → Int32 → Int32 → Int32 → Int32 → AH → Prop) (rc35 : Int32 → Int32 → Int32 → Int32 → Int32 → Int32 → Int32 → Int32 → AH → Prop) (K : Int32 → AH → Prop) (x1 : Int32) (x3 : Int32) (x4 : Int32) (x5 : Int32) (x6 : Int32) (x7 : Int32) (x8 : Int32) (x9 : Int32) (h : AH) : Prop := rc35 x1 x3 x4 x5 x6 x7 x8 (x9 + (nI 1)) h
set_option maxHeartbeats 4000000 in
theorem bw_X5_barring_c70 {l : Launch} {d : Nat} {F : Nat} {b : Nat} {rc12 : Int32 → Int32 → Int32 → Int32 → Int32 → Int32 → AH → Prop} {rc35 : Int32 → Int32 → Int32 → Int32 → Int32 → Int32 → Int32 → Int32 → AH → Prop} {K : Int32 → AH → Prop} {x1 : Int32} {x3 : Int32} {x4 : Int32} {x5 : Int32} {x6 : Int32} {x7 : Int32} {x8 : Int32} {x9 : Int32} {h : AH} (hd : 0 ≤ d) (hb : isTbl b) (hr12 : ∀ (x1 : Int32) (x3 : Int32) (x4 : Int32) (x5 : Int32) (x6 : Int32) (x7 : Int32) (h : AH), rc12 x1 x3 x4 x5 x6 x7 h → BW RX5 cX5_barring 10 (some .int) l (rmD d) tb0 3 [.ref b, .int x1, .null, .int x3, .int x4, .int x5, .int x6, .int x7, .null, .null] [] 12 h (Qi K)) (hr35 : ∀ (x1 : Int32) (x3 : Int32) (x4 : Int32) (x5 : Int32) (x6 : Int32) (x7 : Int32) (x8 : Int32) (x9 : Int32) (h : AH), rc35 x1 x3 x4 x5 x6 x7 x8 x9 h → BW RX5 cX5_barring 10 (some .int) l (rmD d) tb0 3 [.ref b, .int x1, .null, .int x3, .int x4, .int x5, .int x6, .int x7, .int x8, .int x9] [] 35 h (Qi K)) (hM : X5_barring_c70 F b rc12 rc35 K x1 x3 x4 x5 x6 x7 x8 x9 h) : BW RX5 cX5_barring 10 (some .int) l (rmD d) tb0 3 [.ref b, .int x1, .null, .int x3, .int x4, .int x5, .int x6, .int x7, .int x8, .int x9] [] 70 h (Qi K) := by
  unfold X5_barring_c70 at hM
  refine B_iinc dX5_barring_70 rfl k_ic_1 (Nat.le_of_ble_eq_true rfl) ?_
  refine B_goto (tgt := 35) dX5_barring_73 rfl ?_
  exact B_wk (hr35 _ _ _ _ _ _ _ _ _ hM) (wk_1 (wk_1 (wk_0 (wk_1 (wk_1 (wk_1 (wk_1 (wk_1 (wk_1 (wk_1 wk_n))))))))))
def X5_barring_c35 (F : Nat) (b : Nat) (rc12 : Int32 → Int32 → Int32 → Int32 → Int32 → Int32 → AH → Prop) (K : Int32 → AH → Prop) (n : Nat) : Int32 → Int32 → Int32 → Int32 → Int32 → Int32 → Int32 → Int32 → AH → Prop := Nat.rec (motive := fun _ => Int32 → Int32 → Int32 → Int32 → Int32 → Int32 → Int32 → Int32 → AH → Prop) (fun _ _ _ _ _ _ _ _ _ => False) (fun _ rc35 x1 x3 x4 x5 x6 x7 x8 x9 h => if (nI 5) < x9 then (vp_in x5 12 ∧ (vp_in x3 6 ∧ (rc12 x1 x3 x4 (h (b + 1) x5.toNatClampNeg) (tMA x3.toNatClampNeg) (x7 + (nI 1)) h))) else (vp_in x6 6 ∧ (if (((tCL x6.toNatClampNeg) >>> (x9 &&& 31)) &&& (nI 1)) = (nI 0) then (X5_barring_c70 F b rc12 rc35 K x1 x3 x4 x5 x6 x7 x8 x9 h) else (vp_in (x8 + x9) 60 ∧ (X5_barring_c70 F b rc12 rc35 K x1 x3 (x4 ||| (h (b + 4) (x8 + x9).toNatClampNeg)) x5 x6 x7 x8 x9 h))))) n
theorem X5_barring_c35_s {F : Nat} {b : Nat} {rc12 : Int32 → Int32 → Int32 → Int32 → Int32 → Int32 → AH → Prop} {K : Int32 → AH → Prop} {n : Nat} {x1 : Int32} {x3 : Int32} {x4 : Int32} {x5 : Int32} {x6 : Int32} {x7 : Int32} {x8 : Int32} {x9 : Int32} {h : AH} : X5_barring_c35 F b rc12 K (n + 1) x1 x3 x4 x5 x6 x7 x8 x9 h = (if (nI 5) < x9 then (vp_in x5 12 ∧ (vp_in x3 6 ∧ (rc12 x1 x3 x4 (h (b + 1) x5.toNatClampNeg) (tMA x3.toNatClampNeg) (x7 + (nI 1)) h))) else (vp_in x6 6 ∧ (if (((tCL x6.toNatClampNeg) >>> (x9 &&& 31)) &&& (nI 1)) = (nI 0) then (X5_barring_c70 F b rc12 (X5_barring_c35 F b rc12 K n) K x1 x3 x4 x5 x6 x7 x8 x9 h) else (vp_in (x8 + x9) 60 ∧ (X5_barring_c70 F b rc12 (X5_barring_c35 F b rc12 K n) K x1 x3 (x4 ||| (h (b + 4) (x8 + x9).toNatClampNeg)) x5 x6 x7 x8 x9 h))))) := rfl
set_option maxHeartbeats 4000000 in
theorem bw_X5_barring_c35 {l : Launch} {d : Nat} {F : Nat} {b : Nat} {rc12 : Int32 → Int32 → Int32 → Int32 → Int32 → Int32 → AH → Prop} {K : Int32 → AH → Prop} (hd : 0 ≤ d) (hb : isTbl b) (hr12 : ∀ (x1 : Int32) (x3 : Int32) (x4 : Int32) (x5 : Int32) (x6 : Int32) (x7 : Int32) (h : AH), rc12 x1 x3 x4 x5 x6 x7 h → BW RX5 cX5_barring 10 (some .int) l (rmD d) tb0 3 [.ref b, .int x1, .null, .int x3, .int x4, .int x5, .int x6, .int x7, .null, .null] [] 12 h (Qi K)) : ∀ (n : Nat) (x1 : Int32) (x3 : Int32) (x4 : Int32) (x5 : Int32) (x6 : Int32) (x7 : Int32) (x8 : Int32) (x9 : Int32) (h : AH), X5_barring_c35 F b rc12 K n x1 x3 x4 x5 x6 x7 x8 x9 h → BW RX5 cX5_barring 10 (some .int) l (rmD d) tb0 3 [.ref b, .int x1, .null, .int x3, .int x4, .int x5, .int x6, .int x7, .int x8, .int x9] [] 35 h (Qi K) := by
  intro n
  induction n with
  | zero =>
    intro x1 x3 x4 x5 x6 x7 x8 x9 h hM
    exact hM.elim
  | succ n hr35 =>
    intro x1 x3 x4 x5 x6 x7 x8 x9 h hM
    rw [X5_barring_c35_s] at hM
    refine B_iload dX5_barring_35 rfl ?_
    refine B_iconst dX5_barring_37 k_ic_5 ?_
    refine B_icmp_gt dX5_barring_38 hM (tgt := 76) rfl (fun hM => ?_) (fun hM => ?_)
    · refine B_aload_n dX5_barring_76 rfl ?_
      refine B_getR (tb_0 hb) vc_5 (k := 1) (j := (b + 1)) rfl (by decide) inG5 ⟨rfl, rfl, rfl⟩ ww_fl_X5_15 dX5_barring_77 ?_
      refine B_iload dX5_barring_80 rfl ?_
      refine B_iald (tb_1 hb) hM dX5_barring_82 (fun hM => ?_)
      refine B_istore dX5_barring_83 (Nat.le_of_ble_eq_true rfl) ?_
      refine B_gsN1 (by unfold nwF; simp) dX5_barring_85 ?_
      refine B_iload_n dX5_barring_88 rfl ?_
      refine B_tald (t := 1) (by decide) hM dX5_barring_89 (fun hM => ?_)
      refine B_istore dX5_barring_90 (Nat.le_of_ble_eq_true rfl) ?_
      refine B_iinc dX5_barring_92 rfl k_ic_1 (Nat.le_of_ble_eq_true rfl) ?_
      refine B_goto (tgt := 12) dX5_barring_95 rfl ?_
      exact B_wk (hr12 _ _ _ _ _ _ _ hM) (wk_1 (wk_1 (wk_0 (wk_1 (wk_1 (wk_1 (wk_1 (wk_1 (wk_0 (wk_0 wk_n))))))))))
    · refine B_gsN0 (by unfold nwF; simp) dX5_barring_41 ?_
      refine B_iload dX5_barring_44 rfl ?_
      refine B_tald (t := 0) (by decide) hM dX5_barring_46 (fun hM => ?_)
      refine B_iload dX5_barring_47 rfl ?_
      refine B_ishr dX5_barring_49 ?_
      refine B_iconst dX5_barring_50 k_ic_1 ?_
      refine B_iand dX5_barring_51 ?_
      refine B_if_eq dX5_barring_52 hM (tgt := 70) rfl (fun hM => ?_) (fun hM => ?_)
      · exact B_wk (bw_X5_barring_c70 hd hb hr12 hr35 hM) (wk_1 (wk_1 (wk_0 (wk_1 (wk_1 (wk_1 (wk_1 (wk_1 (wk_1 (wk_1 wk_n))))))))))
      · refine B_iload dX5_barring_55 rfl ?_
        refine B_aload_n dX5_barring_57 rfl ?_
        refine B_getR (tb_0 hb) vc_5 (k := 4) (j := (b + 4)) rfl (by decide) inG5 ⟨rfl, rfl, rfl⟩ ww_fl_X5_25 dX5_barring_58 ?_
        refine B_iload dX5_barring_61 rfl ?_
        refine B_iload dX5_barring_63 rfl ?_
        refine B_iadd dX5_barring_65 ?_
        refine B_iald (tb_4 hb) hM dX5_barring_66 (fun hM => ?_)
        refine B_ior dX5_barring_67 ?_
        refine B_istore dX5_barring_68 (Nat.le_of_ble_eq_true rfl) ?_
        exact B_wk (bw_X5_barring_c70 hd hb hr12 hr35 hM) (wk_1 (wk_1 (wk_0 (wk_1 (wk_1 (wk_1 (wk_1 (wk_1 (wk_1 (wk_1 wk_n))))))))))
def X5_barring_c12 (F : Nat) (b : Nat) (K : Int32 → AH → Prop) (n : Nat) : Int32 → Int32 → Int32 → Int32 → Int32 → Int32 → AH → Prop := Nat.rec (motive := fun _ => Int32 → Int32 → Int32 → Int32 → Int32 → Int32 → AH → Prop) (fun _ _ _ _ _ _ _ => False) (fun _ rc12 x1 x3 x4 x5 x6 x7 h => if (nI 12) ≤ x7 then (K (x4 &&& (((nI 1) <<< (x1 &&& 31)) ^^^ (-1 : Int32))) h) else (if x5 < (nI 0) then (K (x4 &&& (((nI 1) <<< (x1 &&& 31)) ^^^ (-1 : Int32))) h) else (X5_barring_c35 F b rc12 K F x1 x3 x4 x5 x6 x7 ((x5 * (nI 5)) - (nI 1)) (nI 1) h))) n
theorem X5_barring_c12_s {F : Nat} {b : Nat} {K : Int32 → AH → Prop} {n : Nat} {x1 : Int32} {x3 : Int32} {x4 : Int32} {x5 : Int32} {x6 : Int32} {x7 : Int32} {h : AH} : X5_barring_c12 F b K (n + 1) x1 x3 x4 x5 x6 x7 h = (if (nI 12) ≤ x7 then (K (x4 &&& (((nI 1) <<< (x1 &&& 31)) ^^^ (-1 : Int32))) h) else (if x5 < (nI 0) then (K (x4 &&& (((nI 1) <<< (x1 &&& 31)) ^^^ (-1 : Int32))) h) else (X5_barring_c35 F b (X5_barring_c12 F b K n) K F x1 x3 x4 x5 x6 x7 ((x5 * (nI 5)) - (nI 1)) (nI 1) h))) := rfl
set_option maxHeartbeats 4000000 in
theorem bw_X5_barring_c12 {l : Launch} {d : Nat} {F : Nat} {b : Nat} {K : Int32 → AH → Prop} (hd : 0 ≤ d) (hb : isTbl b) : ∀ (n : Nat) (x1 : Int32) (x3 : Int32) (x4 : Int32) (x5 : Int32) (x6 : Int32) (x7 : Int32) (h : AH), X5_barring_c12 F b K n x1 x3 x4 x5 x6 x7 h → BW RX5 cX5_barring 10 (some .int) l (rmD d) tb0 3 [.ref b, .int x1, .null, .int x3, .int x4, .int x5, .int x6, .int x7, .null, .null] [] 12 h (Qi K) := by
  intro n
  induction n with
  | zero =>
    intro x1 x3 x4 x5 x6 x7 h hM
    exact hM.elim
  | succ n hr12 =>
    intro x1 x3 x4 x5 x6 x7 h hM
    rw [X5_barring_c12_s] at hM
    refine B_iload dX5_barring_12 rfl ?_
    refine B_bipush dX5_barring_14 k_bi_12 ?_
    refine B_icmp_ge dX5_barring_16 hM (tgt := 98) rfl (fun hM => ?_) (fun hM => ?_)
    · refine B_iload dX5_barring_98 rfl ?_
      refine B_iconst dX5_barring_100 k_ic_1 ?_
      refine B_iload_n dX5_barring_101 rfl ?_
      refine B_ishl dX5_barring_102 ?_
      refine B_iconst dX5_barring_103 k_ic_m1 ?_
      refine B_ixor dX5_barring_104 ?_
      refine B_iand dX5_barring_105 ?_
      exact B_iret ⟨_, rfl, hM⟩ trivial dX5_barring_106
    · refine B_iload dX5_barring_19 rfl ?_
      refine B_if_lt dX5_barring_21 hM (tgt := 98) rfl (fun hM => ?_) (fun hM => ?_)
      · refine B_iload dX5_barring_98 rfl ?_
        refine B_iconst dX5_barring_100 k_ic_1 ?_
        refine B_iload_n dX5_barring_101 rfl ?_
        refine B_ishl dX5_barring_102 ?_
        refine B_iconst dX5_barring_103 k_ic_m1 ?_
        refine B_ixor dX5_barring_104 ?_
        refine B_iand dX5_barring_105 ?_
        exact B_iret ⟨_, rfl, hM⟩ trivial dX5_barring_106
      · refine B_iload dX5_barring_24 rfl ?_
        refine B_iconst dX5_barring_26 k_ic_5 ?_
        refine B_imul dX5_barring_27 ?_
        refine B_iconst dX5_barring_28 k_ic_1 ?_
        refine B_isub dX5_barring_29 ?_
        refine B_istore dX5_barring_30 (Nat.le_of_ble_eq_true rfl) ?_
        refine B_iconst dX5_barring_32 k_ic_1 ?_
        refine B_istore dX5_barring_33 (Nat.le_of_ble_eq_true rfl) ?_
        exact B_wk (bw_X5_barring_c35 hd hb hr12 _ _ _ _ _ _ _ _ _ _ hM) (wk_1 (wk_1 (wk_0 (wk_1 (wk_1 (wk_1 (wk_1 (wk_1 (wk_1 (wk_1 wk_n))))))))))
def P_X5_barring (F : Nat) (b : Nat) (a1 : Int32) (a2 : Int32) (a3 : Int32) (h : AH) (K : Int32 → AH → Prop) : Prop := X5_barring_c12 F b K F a1 a3 (nI 0) a2 a3 (nI 0) h
set_option maxHeartbeats 4000000 in
theorem c_X5_barring {l : Launch} {d : Nat} {F : Nat} {b : Nat} {a1 : Int32} {a2 : Int32} {a3 : Int32} {h : AH} {K : Int32 → AH → Prop} (hd : 0 ≤ d) (hb : isTbl b) (hM : P_X5_barring F b a1 a2 a3 h K) : Ct l yX5_barring cX5_barring 10 (some .int) (rmD d) [.ref b, .int a1, .int a2, .int a3] h (Qi K) := by
  refine Ct_ofBW (by decide) rfl (Nat.le_of_ble_eq_true rfl) ⟨rfl, rfl⟩ ?_
  show BW RX5 cX5_barring 10 (some .int) l (rmD d) tb0 3 [.ref b, .int a1, .int a2, .int a3, .null, .null, .null, .null, .null, .null] [] 0 h (Qi K)
  unfold P_X5_barring at hM
  refine B_iconst dX5_barring_0 k_ic_0 ?_
  refine B_istore dX5_barring_1 (Nat.le_of_ble_eq_true rfl) ?_
  refine B_iload_n dX5_barring_3 rfl ?_
  refine B_istore dX5_barring_4 (Nat.le_of_ble_eq_true rfl) ?_
  refine B_iload_n dX5_barring_6 rfl ?_
  refine B_istore dX5_barring_7 (Nat.le_of_ble_eq_true rfl) ?_
  refine B_iconst dX5_barring_9 k_ic_0 ?_
  refine B_istore dX5_barring_10 (Nat.le_of_ble_eq_true rfl) ?_
  exact B_wk (bw_X5_barring_c12 hd hb  _ _ _ _ _ _ _ _ hM) (wk_1 (wk_1 (wk_0 (wk_1 (wk_1 (wk_1 (wk_1 (wk_1 (wk_0 (wk_0 wk_n))))))))))

def P_X5_isRaise (F : Nat) (b : Nat) (a1 : Int32) (a2 : Int32) (h : AH) (K : Int32 → AH → Prop) : Prop := vp_in (((a2 * (nI 5)) - (nI 1)) + (nI 2)) 60 ∧ (vp_in (((a2 * (nI 5)) - (nI 1)) + (nI 4)) 60 ∧ (vp_in (((a2 * (nI 5)) - (nI 1)) + (nI 5)) 60 ∧ (if (((((h (b + 4) (((a2 * (nI 5)) - (nI 1)) + (nI 2)).toNatClampNeg) ||| (h (b + 4) (((a2 * (nI 5)) - (nI 1)) + (nI 4)).toNatClampNeg)) ||| (h (b + 4) (((a2 * (nI 5)) - (nI 1)) + (nI 5)).toNatClampNeg)) >>> (a1 &&& 31)) &&& (nI 1)) = (nI 0) then (K (nI 0) h) else (K (nI 1) h))))
set_option maxHeartbeats 4000000 in
theorem c_X5_isRaise {l : Launch} {d : Nat} {F : Nat} {b : Nat} {a1 : Int32} {a2 : Int32} {h : AH} {K : Int32 → AH → Prop} (hd : 0 ≤ d) (hb : isTbl b) (hM : P_X5_isRaise F b a1 a2 h K) : Ct l yX5_isRaise cX5_isRaise 5 (some .boolean) (rmD d) [.ref b, .int a1, .int a2] h (Qi K) := by
  refine Ct_ofBW (by decide) rfl (Nat.le_of_ble_eq_true rfl) ⟨rfl, rfl⟩ ?_
  show BW RX5 cX5_isRaise 5 (some .boolean) l (rmD d) tb0 3 [.ref b, .int a1, .int a2, .null, .null] [] 0 h (Qi K)
  unfold P_X5_isRaise at hM
  refine B_iload_n dX5_isRaise_0 rfl ?_
  refine B_iconst dX5_isRaise_1 k_ic_5 ?_
  refine B_imul dX5_isRaise_2 ?_
  refine B_iconst dX5_isRaise_3 k_ic_1 ?_
  refine B_isub dX5_isRaise_4 ?_
  refine B_istore_n dX5_isRaise_5 (Nat.le_of_ble_eq_true rfl) ?_
  refine B_aload_n dX5_isRaise_6 rfl ?_
  refine B_getR (tb_0 hb) vc_5 (k := 4) (j := (b + 4)) rfl (by decide) inG5 ⟨rfl, rfl, rfl⟩ ww_fl_X5_25 dX5_isRaise_7 ?_
  refine B_iload_n dX5_isRaise_10 rfl ?_
  refine B_iconst dX5_isRaise_11 k_ic_2 ?_
  refine B_iadd dX5_isRaise_12 ?_
  refine B_iald (tb_4 hb) hM dX5_isRaise_13 (fun hM => ?_)
  refine B_aload_n dX5_isRaise_14 rfl ?_
  refine B_getR (tb_0 hb) vc_5 (k := 4) (j := (b + 4)) rfl (by decide) inG5 ⟨rfl, rfl, rfl⟩ ww_fl_X5_25 dX5_isRaise_15 ?_
  refine B_iload_n dX5_isRaise_18 rfl ?_
  refine B_iconst dX5_isRaise_19 k_ic_4 ?_
  refine B_iadd dX5_isRaise_20 ?_
  refine B_iald (tb_4 hb) hM dX5_isRaise_21 (fun hM => ?_)
  refine B_ior dX5_isRaise_22 ?_
  refine B_aload_n dX5_isRaise_23 rfl ?_
  refine B_getR (tb_0 hb) vc_5 (k := 4) (j := (b + 4)) rfl (by decide) inG5 ⟨rfl, rfl, rfl⟩ ww_fl_X5_25 dX5_isRaise_24 ?_
  refine B_iload_n dX5_isRaise_27 rfl ?_
  refine B_iconst dX5_isRaise_28 k_ic_5 ?_
  refine B_iadd dX5_isRaise_29 ?_
  refine B_iald (tb_4 hb) hM dX5_isRaise_30 (fun hM => ?_)
  refine B_ior dX5_isRaise_31 ?_
  refine B_istore dX5_isRaise_32 (Nat.le_of_ble_eq_true rfl) ?_
  refine B_iload dX5_isRaise_34 rfl ?_
  refine B_iload_n dX5_isRaise_36 rfl ?_
  refine B_ishr dX5_isRaise_37 ?_
  refine B_iconst dX5_isRaise_38 k_ic_1 ?_
  refine B_iand dX5_isRaise_39 ?_
  refine B_if_eq dX5_isRaise_40 hM (tgt := 47) rfl (fun hM => ?_) (fun hM => ?_)
  · refine B_iconst dX5_isRaise_47 k_ic_0 ?_
    exact B_iret ⟨_, rfl, hM⟩ zB_0 dX5_isRaise_48
  · refine B_iconst dX5_isRaise_43 k_ic_1 ?_
    refine B_goto (tgt := 48) dX5_isRaise_44 rfl ?_
    exact B_iret ⟨_, rfl, hM⟩ zB_1 dX5_isRaise_48

def X5_standingAhead_c85 (F : Nat) (b : Nat) (rc6 : Int32 → Int32 → Int32 → Int32 → Int32 → AH → Prop) (K : Int32 → AH → Prop) (x1 : Int32) (x2 : Int32) (x3 : Int32) (x4 : Int32) (x5 : Int32) (h : AH) : Prop := rc6 x1 x2 x3 x4 (x5 + (nI 1)) h
set_option maxHeartbeats 4000000 in
theorem bw_X5_standingAhead_c85 {l : Launch} {d : Nat} {F : Nat} {b : Nat} {rc6 : Int32 → Int32 → Int32 → Int32 → Int32 → AH → Prop} {K : Int32 → AH → Prop} {x1 : Int32} {x2 : Int32} {x3 : Int32} {x4 : Int32} {x5 : Int32} {h : AH} (hd : 0 ≤ d) (hb : isTbl b) (hr6 : ∀ (x1 : Int32) (x2 : Int32) (x3 : Int32) (x4 : Int32) (x5 : Int32) (h : AH), rc6 x1 x2 x3 x4 x5 h → BW RX5 cX5_standingAhead 8 (some .int) l (rmD d) tb0 3 [.ref b, .int x1, .int x2, .int x3, .int x4, .int x5, .null, .null] [] 6 h (Qi K)) (hM : X5_standingAhead_c85 F b rc6 K x1 x2 x3 x4 x5 h) : BW RX5 cX5_standingAhead 8 (some .int) l (rmD d) tb0 3 [.ref b, .int x1, .int x2, .int x3, .int x4, .int x5, .null, .null] [] 85 h (Qi K) := by
  unfold X5_standingAhead_c85 at hM
  refine B_iinc dX5_standingAhead_85 rfl k_ic_1 (Nat.le_of_ble_eq_true rfl) ?_
  refine B_goto (tgt := 6) dX5_standingAhead_88 rfl ?_
  exact B_wk (hr6 _ _ _ _ _ _ hM) (wk_1 (wk_1 (wk_1 (wk_1 (wk_1 (wk_1 (wk_0 (wk_0 wk_n))))))))
def X5_standingAhead_c58 (F : Nat) (b : Nat) (rc6 : Int32 → Int32 → Int32 → Int32 → Int32 → AH → Prop) (K : Int32 → AH → Prop) (x1 : Int32) (x2 : Int32) (x3 : Int32) (x4 : Int32) (x5 : Int32) (x6 : Int32) (s0 : Int32) (h : AH) : Prop := vp_in x6 6 ∧ (if ¬ (h (b + 6) x6.toNatClampNeg) = x2 then (X5_standingAhead_c85 F b rc6 K x1 x2 x3 x4 x5 h) else (if s0 = (nI 0) then (X5_standingAhead_c85 F b rc6 K x1 x2 x3 x4 x5 h) else (X5_standingAhead_c85 F b rc6 K x1 x2 x3 (x4 ||| ((nI 1) <<< (x6 &&& 31))) x5 h)))
set_option maxHeartbeats 4000000 in
theorem bw_X5_standingAhead_c58 {l : Launch} {d : Nat} {F : Nat} {b : Nat} {rc6 : Int32 → Int32 → Int32 → Int32 → Int32 → AH → Prop} {K : Int32 → AH → Prop} {x1 : Int32} {x2 : Int32} {x3 : Int32} {x4 : Int32} {x5 : Int32} {x6 : Int32} {s0 : Int32} {h : AH} (hd : 0 ≤ d) (hb : isTbl b) (hr6 : ∀ (x1 : Int32) (x2 : Int32) (x3 : Int32) (x4 : Int32) (x5 : Int32) (h : AH), rc6 x1 x2 x3 x4 x5 h → BW RX5 cX5_standingAhead 8 (some .int) l (rmD d) tb0 3 [.ref b, .int x1, .int x2, .int x3, .int x4, .int x5, .null, .null] [] 6 h (Qi K)) (hM : X5_standingAhead_c58 F b rc6 K x1 x2 x3 x4 x5 x6 s0 h) : BW RX5 cX5_standingAhead 8 (some .int) l (rmD d) tb0 3 [.ref b, .int x1, .int x2, .int x3, .int x4, .int x5, .int x6, .null] [.int s0] 58 h (Qi K) := by
  unfold X5_standingAhead_c58 at hM
  refine B_istore dX5_standingAhead_58 (Nat.le_of_ble_eq_true rfl) ?_
  refine B_aload_n dX5_standingAhead_60 rfl ?_
  refine B_getR (tb_0 hb) vc_5 (k := 7) (j := (b + 6)) rfl (by decide) inG5 ⟨rfl, rfl, rfl⟩ ww_fl_X5_34 dX5_standingAhead_61 ?_
  refine B_iload dX5_standingAhead_64 rfl ?_
  refine B_iald (tb_6 hb) hM dX5_standingAhead_66 (fun hM => ?_)
  refine B_iload_n dX5_standingAhead_67 rfl ?_
  refine B_icmp_ne dX5_standingAhead_68 hM (tgt := 85) rfl (fun hM => ?_) (fun hM => ?_)
  · exact B_wk (bw_X5_standingAhead_c85 hd hb hr6 hM) (wk_1 (wk_1 (wk_1 (wk_1 (wk_1 (wk_1 (wk_0 (wk_0 wk_n))))))))
  · refine B_iload dX5_standingAhead_71 rfl ?_
    refine B_if_eq dX5_standingAhead_73 hM (tgt := 85) rfl (fun hM => ?_) (fun hM => ?_)
    · exact B_wk (bw_X5_standingAhead_c85 hd hb hr6 hM) (wk_1 (wk_1 (wk_1 (wk_1 (wk_1 (wk_1 (wk_0 (wk_0 wk_n))))))))
    · refine B_iload dX5_standingAhead_76 rfl ?_
      refine B_iconst dX5_standingAhead_78 k_ic_1 ?_
      refine B_iload dX5_standingAhead_79 rfl ?_
      refine B_ishl dX5_standingAhead_81 ?_
      refine B_ior dX5_standingAhead_82 ?_
      refine B_istore dX5_standingAhead_83 (Nat.le_of_ble_eq_true rfl) ?_
      exact B_wk (bw_X5_standingAhead_c85 hd hb hr6 hM) (wk_1 (wk_1 (wk_1 (wk_1 (wk_1 (wk_1 (wk_0 (wk_0 wk_n))))))))
def X5_standingAhead_c6 (F : Nat) (b : Nat) (K : Int32 → AH → Prop) (n : Nat) : Int32 → Int32 → Int32 → Int32 → Int32 → AH → Prop := Nat.rec (motive := fun _ => Int32 → Int32 → Int32 → Int32 → Int32 → AH → Prop) (fun _ _ _ _ _ _ => False) (fun _ rc6 x1 x2 x3 x4 x5 h => if (h b 5) ≤ x5 then (K x4 h) else (vp_in x5 6 ∧ (if (h (b + 5) x5.toNatClampNeg) = x1 then (K x4 h) else (vp_in x5 6 ∧ (vp_in x3 6 ∧ (vp_in (h (b + 5) x5.toNatClampNeg) 6 ∧ (if (((tCL x3.toNatClampNeg) >>> ((h (b + 7) (h (b + 5) x5.toNatClampNeg).toNatClampNeg) &&& 31)) &&& (nI 1)) = (nI 0) then (X5_standingAhead_c58 F b rc6 K x1 x2 x3 x4 x5 (h (b + 5) x5.toNatClampNeg) (nI 0) h) else (X5_standingAhead_c58 F b rc6 K x1 x2 x3 x4 x5 (h (b + 5) x5.toNatClampNeg) (nI 1) h)))))))) n
theorem X5_standingAhead_c6_s {F : Nat} {b : Nat} {K : Int32 → AH → Prop} {n : Nat} {x1 : Int32} {x2 : Int32} {x3 : Int32} {x4 : Int32} {x5 : Int32} {h : AH} : X5_standingAhead_c6 F b K (n + 1) x1 x2 x3 x4 x5 h = (if (h b 5) ≤ x5 then (K x4 h) else (vp_in x5 6 ∧ (if (h (b + 5) x5.toNatClampNeg) = x1 then (K x4 h) else (vp_in x5 6 ∧ (vp_in x3 6 ∧ (vp_in (h (b + 5) x5.toNatClampNeg) 6 ∧ (if (((tCL x3.toNatClampNeg) >>> ((h (b + 7) (h (b + 5) x5.toNatClampNeg).toNatClampNeg) &&& 31)) &&& (nI 1)) = (nI 0) then (X5_standingAhead_c58 F b (X5_standingAhead_c6 F b K n) K x1 x2 x3 x4 x5 (h (b + 5) x5.toNatClampNeg) (nI 0) h) else (X5_standingAhead_c58 F b (X5_standingAhead_c6 F b K n) K x1 x2 x3 x4 x5 (h (b + 5) x5.toNatClampNeg) (nI 1) h)))))))) := rfl
set_option maxHeartbeats 4000000 in
theorem bw_X5_standingAhead_c6 {l : Launch} {d : Nat} {F : Nat} {b : Nat} {K : Int32 → AH → Prop} (hd : 0 ≤ d) (hb : isTbl b) : ∀ (n : Nat) (x1 : Int32) (x2 : Int32) (x3 : Int32) (x4 : Int32) (x5 : Int32) (h : AH), X5_standingAhead_c6 F b K n x1 x2 x3 x4 x5 h → BW RX5 cX5_standingAhead 8 (some .int) l (rmD d) tb0 3 [.ref b, .int x1, .int x2, .int x3, .int x4, .int x5, .null, .null] [] 6 h (Qi K) := by
  intro n
  induction n with
  | zero =>
    intro x1 x2 x3 x4 x5 h hM
    exact hM.elim
  | succ n hr6 =>
    intro x1 x2 x3 x4 x5 h hM
    rw [X5_standingAhead_c6_s] at hM
    refine B_iload dX5_standingAhead_6 rfl ?_
    refine B_aload_n dX5_standingAhead_8 rfl ?_
    refine B_getI (tb_0 hb) vc_5 (k := 5) rfl (by decide) inG5 ⟨rfl, rfl, rfl⟩ ww_fl_X5_28 dX5_standingAhead_9 ?_
    refine B_icmp_ge dX5_standingAhead_12 hM (tgt := 91) rfl (fun hM => ?_) (fun hM => ?_)
    · refine B_iload dX5_standingAhead_91 rfl ?_
      exact B_iret ⟨_, rfl, hM⟩ trivial dX5_standingAhead_93
    · refine B_aload_n dX5_standingAhead_15 rfl ?_
      refine B_getR (tb_0 hb) vc_5 (k := 6) (j := (b + 5)) rfl (by decide) inG5 ⟨rfl, rfl, rfl⟩ ww_fl_X5_31 dX5_standingAhead_16 ?_
      refine B_iload dX5_standingAhead_19 rfl ?_
      refine B_iald (tb_5 hb) hM dX5_standingAhead_21 (fun hM => ?_)
      refine B_iload_n dX5_standingAhead_22 rfl ?_
      refine B_icmp_eq dX5_standingAhead_23 hM (tgt := 91) rfl (fun hM => ?_) (fun hM => ?_)
      · refine B_iload dX5_standingAhead_91 rfl ?_
        exact B_iret ⟨_, rfl, hM⟩ trivial dX5_standingAhead_93
      · refine B_aload_n dX5_standingAhead_26 rfl ?_
        refine B_getR (tb_0 hb) vc_5 (k := 6) (j := (b + 5)) rfl (by decide) inG5 ⟨rfl, rfl, rfl⟩ ww_fl_X5_31 dX5_standingAhead_27 ?_
        refine B_iload dX5_standingAhead_30 rfl ?_
        refine B_iald (tb_5 hb) hM dX5_standingAhead_32 (fun hM => ?_)
        refine B_istore dX5_standingAhead_33 (Nat.le_of_ble_eq_true rfl) ?_
        refine B_gsN0 (by unfold nwF; simp) dX5_standingAhead_35 ?_
        refine B_iload_n dX5_standingAhead_38 rfl ?_
        refine B_tald (t := 0) (by decide) hM dX5_standingAhead_39 (fun hM => ?_)
        refine B_aload_n dX5_standingAhead_40 rfl ?_
        refine B_getR (tb_0 hb) vc_5 (k := 8) (j := (b + 7)) rfl (by decide) inG5 ⟨rfl, rfl, rfl⟩ ww_fl_X5_37 dX5_standingAhead_41 ?_
        refine B_iload dX5_standingAhead_44 rfl ?_
        refine B_iald (tb_7 hb) hM dX5_standingAhead_46 (fun hM => ?_)
        refine B_ishr dX5_standingAhead_47 ?_
        refine B_iconst dX5_standingAhead_48 k_ic_1 ?_
        refine B_iand dX5_standingAhead_49 ?_
        refine B_if_eq dX5_standingAhead_50 hM (tgt := 57) rfl (fun hM => ?_) (fun hM => ?_)
        · refine B_iconst dX5_standingAhead_57 k_ic_0 ?_
          exact B_wk (bw_X5_standingAhead_c58 hd hb hr6 hM) (wk_1 (wk_1 (wk_1 (wk_1 (wk_1 (wk_1 (wk_1 (wk_0 wk_n))))))))
        · refine B_iconst dX5_standingAhead_53 k_ic_1 ?_
          refine B_goto (tgt := 58) dX5_standingAhead_54 rfl ?_
          exact B_wk (bw_X5_standingAhead_c58 hd hb hr6 hM) (wk_1 (wk_1 (wk_1 (wk_1 (wk_1 (wk_1 (wk_1 (wk_0 wk_n))))))))
def P_X5_standingAhead (F : Nat) (b : Nat) (a1 : Int32) (a2 : Int32) (a3 : Int32) (h : AH) (K : Int32 → AH → Prop) : Prop := X5_standingAhead_c6 F b K F a1 a2 a3 (nI 0) (nI 0) h
set_option maxHeartbeats 4000000 in
theorem c_X5_standingAhead {l : Launch} {d : Nat} {F : Nat} {b : Nat} {a1 : Int32} {a2 : Int32} {a3 : Int32} {h : AH} {K : Int32 → AH → Prop} (hd : 0 ≤ d) (hb : isTbl b) (hM : P_X5_standingAhead F b a1 a2 a3 h K) : Ct l yX5_standingAhead cX5_standingAhead 8 (some .int) (rmD d) [.ref b, .int a1, .int a2, .int a3] h (Qi K) := by
  refine Ct_ofBW (by decide) rfl (Nat.le_of_ble_eq_true rfl) ⟨rfl, rfl⟩ ?_
  show BW RX5 cX5_standingAhead 8 (some .int) l (rmD d) tb0 3 [.ref b, .int a1, .int a2, .int a3, .null, .null, .null, .null] [] 0 h (Qi K)
  unfold P_X5_standingAhead at hM
  refine B_iconst dX5_standingAhead_0 k_ic_0 ?_
  refine B_istore dX5_standingAhead_1 (Nat.le_of_ble_eq_true rfl) ?_
  refine B_iconst dX5_standingAhead_3 k_ic_0 ?_
  refine B_istore dX5_standingAhead_4 (Nat.le_of_ble_eq_true rfl) ?_
  exact B_wk (bw_X5_standingAhead_c6 hd hb  _ _ _ _ _ _ _ hM) (wk_1 (wk_1 (wk_1 (wk_1 (wk_1 (wk_1 (wk_0 (wk_0 wk_n))))))))

def P_X5_hindrances (F : Nat) (b : Nat) (a1 : Int32) (a2 : Int32) (a3 : Int32) (h : AH) (K : Int32 → AH → Prop) : Prop := P_X5_barring F b a1 a2 a3 h (fun (r2 : Int32) (h1 : AH) => P_X5_isRaise F b a1 a2 h1 (fun (r4 : Int32) (h3 : AH) => if r4 = (nI 0) then (P_X5_standingAhead F b a1 a2 a3 h3 (fun (r6 : Int32) (h5 : AH) => K (r2 ||| r6) h5)) else (K r2 h3)))
set_option maxHeartbeats 4000000 in
theorem c_X5_hindrances {l : Launch} {d : Nat} {F : Nat} {b : Nat} {a1 : Int32} {a2 : Int32} {a3 : Int32} {h : AH} {K : Int32 → AH → Prop} (hd : 1 ≤ d) (hb : isTbl b) (hM : P_X5_hindrances F b a1 a2 a3 h K) : Ct l yX5_hindrances cX5_hindrances 5 (some .int) (rmD d) [.ref b, .int a1, .int a2, .int a3] h (Qi K) := by
  have hk1 : 1 ≤ d := by omega
  have hk_X5_barring : 0 ≤ d - 1 := by omega
  have hk_X5_isRaise : 0 ≤ d - 1 := by omega
  have hk_X5_standingAhead : 0 ≤ d - 1 := by omega
  refine Ct_ofBW (by decide) rfl (Nat.le_of_ble_eq_true rfl) ⟨rfl, rfl⟩ ?_
  show BW RX5 cX5_hindrances 5 (some .int) l (rmD d) tb0 3 [.ref b, .int a1, .int a2, .int a3, .null] [] 0 h (Qi K)
  unfold P_X5_hindrances at hM
  refine B_aload_n dX5_hindrances_0 rfl ?_
  refine B_iload_n dX5_hindrances_1 rfl ?_
  refine B_iload_n dX5_hindrances_2 rfl ?_
  refine B_iload_n dX5_hindrances_3 rfl ?_
  refine B_cV3i (c_X5_barring (d := d - 1) hk_X5_barring hb hM) csV_X5_82 (tb_0 hb) vc_5 rfl hp0 (rm_f hk1) (rm_l hk1 (by decide)) (Nat.le_of_ble_eq_true rfl) dX5_hindrances_4 (fun r2 h1 hM => ?_)
  refine B_istore dX5_hindrances_7 (Nat.le_of_ble_eq_true rfl) ?_
  refine B_aload_n dX5_hindrances_9 rfl ?_
  refine B_iload_n dX5_hindrances_10 rfl ?_
  refine B_iload_n dX5_hindrances_11 rfl ?_
  refine B_cV2i (c_X5_isRaise (d := d - 1) hk_X5_isRaise hb hM) csV_X5_86 (tb_0 hb) vc_5 rfl hp0 (rm_f hk1) (rm_l hk1 (by decide)) (Nat.le_of_ble_eq_true rfl) dX5_hindrances_12 (fun r4 h3 hM => ?_)
  refine B_if_eq dX5_hindrances_15 hM (tgt := 23) rfl (fun hM => ?_) (fun hM => ?_)
  · refine B_iload dX5_hindrances_23 rfl ?_
    refine B_aload_n dX5_hindrances_25 rfl ?_
    refine B_iload_n dX5_hindrances_26 rfl ?_
    refine B_iload_n dX5_hindrances_27 rfl ?_
    refine B_iload_n dX5_hindrances_28 rfl ?_
    refine B_cV3i (c_X5_standingAhead (d := d - 1) hk_X5_standingAhead hb hM) csV_X5_90 (tb_0 hb) vc_5 rfl hp0 (rm_f hk1) (rm_l hk1 (by decide)) (Nat.le_of_ble_eq_true rfl) dX5_hindrances_29 (fun r6 h5 hM => ?_)
    refine B_ior dX5_hindrances_32 ?_
    exact B_iret ⟨_, rfl, hM⟩ trivial dX5_hindrances_33
  · refine B_iload dX5_hindrances_18 rfl ?_
    refine B_goto (tgt := 33) dX5_hindrances_20 rfl ?_
    exact B_iret ⟨_, rfl, hM⟩ trivial dX5_hindrances_33

def P_X5_waitsForBits (F : Nat) (b : Nat) (a1 : Int32) (h : AH) (K : Int32 → AH → Prop) : Prop := P_X5_isWaiting F b a1 h (fun (r2 : Int32) (h1 : AH) => if r2 = (nI 0) then (K (nI 0) h1) else (vp_in a1 6 ∧ (vp_in a1 6 ∧ (P_X5_hindrances F b a1 (h1 (b + 6) a1.toNatClampNeg) (h1 (b + 7) a1.toNatClampNeg) h1 (fun (r4 : Int32) (h3 : AH) => K r4 h3)))))
set_option maxHeartbeats 4000000 in
theorem c_X5_waitsForBits {l : Launch} {d : Nat} {F : Nat} {b : Nat} {a1 : Int32} {h : AH} {K : Int32 → AH → Prop} (hd : 2 ≤ d) (hb : isTbl b) (hM : P_X5_waitsForBits F b a1 h K) : Ct l yX5_waitsForBits cX5_waitsForBits 2 (some .int) (rmD d) [.ref b, .int a1] h (Qi K) := by
  have hk1 : 1 ≤ d := by omega
  have hk_X5_hindrances : 1 ≤ d - 1 := by omega
  have hk_X5_isWaiting : 0 ≤ d - 1 := by omega
  refine Ct_ofBW (by decide) rfl (Nat.le_of_ble_eq_true rfl) ⟨rfl, rfl⟩ ?_
  show BW RX5 cX5_waitsForBits 2 (some .int) l (rmD d) tb0 3 [.ref b, .int a1] [] 0 h (Qi K)
  unfold P_X5_waitsForBits at hM
  refine B_aload_n dX5_waitsForBits_0 rfl ?_
  refine B_iload_n dX5_waitsForBits_1 rfl ?_
  refine B_cV1i (c_X5_isWaiting (d := d - 1) hk_X5_isWaiting hb hM) csV_X5_75 (tb_0 hb) vc_5 rfl hp0 (rm_f hk1) (rm_l hk1 (by decide)) (Nat.le_of_ble_eq_true rfl) dX5_waitsForBits_2 (fun r2 h1 hM => ?_)
  refine B_if_eq dX5_waitsForBits_5 hM (tgt := 28) rfl (fun hM => ?_) (fun hM => ?_)
  · refine B_iconst dX5_waitsForBits_28 k_ic_0 ?_
    exact B_iret ⟨_, rfl, hM⟩ trivial dX5_waitsForBits_29
  · refine B_aload_n dX5_waitsForBits_8 rfl ?_
    refine B_iload_n dX5_waitsForBits_9 rfl ?_
    refine B_aload_n dX5_waitsForBits_10 rfl ?_
    refine B_getR (tb_0 hb) vc_5 (k := 7) (j := (b + 6)) rfl (by decide) inG5 ⟨rfl, rfl, rfl⟩ ww_fl_X5_34 dX5_waitsForBits_11 ?_
    refine B_iload_n dX5_waitsForBits_14 rfl ?_
    refine B_iald (tb_6 hb) hM dX5_waitsForBits_15 (fun hM => ?_)
    refine B_aload_n dX5_waitsForBits_16 rfl ?_
    refine B_getR (tb_0 hb) vc_5 (k := 8) (j := (b + 7)) rfl (by decide) inG5 ⟨rfl, rfl, rfl⟩ ww_fl_X5_37 dX5_waitsForBits_17 ?_
    refine B_iload_n dX5_waitsForBits_20 rfl ?_
    refine B_iald (tb_7 hb) hM dX5_waitsForBits_21 (fun hM => ?_)
    refine B_cV3i (c_X5_hindrances (d := d - 1) hk_X5_hindrances hb hM) csV_X5_103 (tb_0 hb) vc_5 rfl hp0 (rm_f hk1) (rm_l hk1 (by decide)) (Nat.le_of_ble_eq_true rfl) dX5_waitsForBits_22 (fun r4 h3 hM => ?_)
    refine B_goto (tgt := 29) dX5_waitsForBits_25 rfl ?_
    exact B_iret ⟨_, rfl, hM⟩ trivial dX5_waitsForBits_29

def X5_ringBits_c94 (F : Nat) (b : Nat) (K : Int32 → AH → Prop) (n : Nat) : Int32 → Int32 → AH → Prop := Nat.rec (motive := fun _ => Int32 → Int32 → AH → Prop) (fun _ _ _ => False) (fun _ rc94 x1 x2 h => if (nI 6) ≤ x2 then (K x1 h) else (vp_in x2 6 ∧ (rc94 (x1 ||| ((h (b + 11) x2.toNatClampNeg) &&& ((nI 1) <<< (x2 &&& 31)))) (x2 + (nI 1)) h))) n
theorem X5_ringBits_c94_s {F : Nat} {b : Nat} {K : Int32 → AH → Prop} {n : Nat} {x1 : Int32} {x2 : Int32} {h : AH} : X5_ringBits_c94 F b K (n + 1) x1 x2 h = (if (nI 6) ≤ x2 then (K x1 h) else (vp_in x2 6 ∧ ((X5_ringBits_c94 F b K n) (x1 ||| ((h (b + 11) x2.toNatClampNeg) &&& ((nI 1) <<< (x2 &&& 31)))) (x2 + (nI 1)) h))) := rfl
set_option maxHeartbeats 4000000 in
theorem bw_X5_ringBits_c94 {l : Launch} {d : Nat} {F : Nat} {b : Nat} {K : Int32 → AH → Prop} (hd : 3 ≤ d) (hb : isTbl b) : ∀ (n : Nat) (x1 : Int32) (x2 : Int32) (h : AH), X5_ringBits_c94 F b K n x1 x2 h → BW RX5 cX5_ringBits 3 (some .int) l (rmD d) tb0 3 [.ref b, .int x1, .int x2] [] 94 h (Qi K) := by
  have hk1 : 1 ≤ d := by omega
  have hk_X5_waitsForBits : 2 ≤ d - 1 := by omega
  have hk_X7_hasBit : 0 ≤ d - 1 := by omega
  intro n
  induction n with
  | zero =>
    intro x1 x2 h hM
    exact hM.elim
  | succ n hr94 =>
    intro x1 x2 h hM
    rw [X5_ringBits_c94_s] at hM
    refine B_iload_n dX5_ringBits_94 rfl ?_
    refine B_bipush dX5_ringBits_95 k_bi_6 ?_
    refine B_icmp_ge dX5_ringBits_97 hM (tgt := 119) rfl (fun hM => ?_) (fun hM => ?_)
    · refine B_iload_n dX5_ringBits_119 rfl ?_
      exact B_iret ⟨_, rfl, hM⟩ trivial dX5_ringBits_120
    · refine B_iload_n dX5_ringBits_100 rfl ?_
      refine B_aload_n dX5_ringBits_101 rfl ?_
      refine B_getR (tb_0 hb) vc_5 (k := 14) (j := (b + 11)) rfl (by decide) inG5 ⟨rfl, rfl, rfl⟩ ww_fl_X5_55 dX5_ringBits_102 ?_
      refine B_iload_n dX5_ringBits_105 rfl ?_
      refine B_iald (tb_11 hb) hM dX5_ringBits_106 (fun hM => ?_)
      refine B_iconst dX5_ringBits_107 k_ic_1 ?_
      refine B_iload_n dX5_ringBits_108 rfl ?_
      refine B_ishl dX5_ringBits_109 ?_
      refine B_iand dX5_ringBits_110 ?_
      refine B_ior dX5_ringBits_111 ?_
      refine B_istore_n dX5_ringBits_112 (Nat.le_of_ble_eq_true rfl) ?_
      refine B_iinc dX5_ringBits_113 rfl k_ic_1 (Nat.le_of_ble_eq_true rfl) ?_
      refine B_goto (tgt := 94) dX5_ringBits_116 rfl ?_
      exact B_wk (hr94 _ _ _ hM) (wk_1 (wk_1 (wk_1 wk_n)))
def X5_ringBits_c78 (F : Nat) (b : Nat) (rc36 : Int32 → AH → Prop) (rc44 : Int32 → Int32 → AH → Prop) (K : Int32 → AH → Prop) (x1 : Int32) (x2 : Int32) (h : AH) : Prop := rc44 x1 (x2 + (nI 1)) h
set_option maxHeartbeats 4000000 in
theorem bw_X5_ringBits_c78 {l : Launch} {d : Nat} {F : Nat} {b : Nat} {rc36 : Int32 → AH → Prop} {rc44 : Int32 → Int32 → AH → Prop} {K : Int32 → AH → Prop} {x1 : Int32} {x2 : Int32} {h : AH} (hd : 3 ≤ d) (hb : isTbl b) (hr36 : ∀ (x1 : Int32) (h : AH), rc36 x1 h → BW RX5 cX5_ringBits 3 (some .int) l (rmD d) tb0 3 [.ref b, .int x1, .null] [] 36 h (Qi K)) (hr44 : ∀ (x1 : Int32) (x2 : Int32) (h : AH), rc44 x1 x2 h → BW RX5 cX5_ringBits 3 (some .int) l (rmD d) tb0 3 [.ref b, .int x1, .int x2] [] 44 h (Qi K)) (hM : X5_ringBits_c78 F b rc36 rc44 K x1 x2 h) : BW RX5 cX5_ringBits 3 (some .int) l (rmD d) tb0 3 [.ref b, .int x1, .int x2] [] 78 h (Qi K) := by
  have hk1 : 1 ≤ d := by omega
  have hk_X5_waitsForBits : 2 ≤ d - 1 := by omega
  have hk_X7_hasBit : 0 ≤ d - 1 := by omega
  unfold X5_ringBits_c78 at hM
  refine B_iinc dX5_ringBits_78 rfl k_ic_1 (Nat.le_of_ble_eq_true rfl) ?_
  refine B_goto (tgt := 44) dX5_ringBits_81 rfl ?_
  exact B_wk (hr44 _ _ _ hM) (wk_1 (wk_1 (wk_1 wk_n)))
def X5_ringBits_c44 (F : Nat) (b : Nat) (rc36 : Int32 → AH → Prop) (K : Int32 → AH → Prop) (n : Nat) : Int32 → Int32 → AH → Prop := Nat.rec (motive := fun _ => Int32 → Int32 → AH → Prop) (fun _ _ _ => False) (fun _ rc44 x1 x2 h => if (nI 6) ≤ x2 then (rc36 (x1 + (nI 1)) h) else (vp_in x2 6 ∧ (P_X7_hasBit F (h (b + 11) x2.toNatClampNeg) x1 h (fun (r2 : Int32) (h1 : AH) => if r2 = (nI 0) then (X5_ringBits_c78 F b rc36 rc44 K x1 x2 h1) else (vp_in x2 6 ∧ (vp_in x1 6 ∧ (vp_in x2 6 ∧ ((fun (h3 : AH) => X5_ringBits_c78 F b rc36 rc44 K x1 x2 h3) (up h1 (b + 11) x2.toNatClampNeg ((h1 (b + 11) x2.toNatClampNeg) ||| (h1 (b + 11) x1.toNatClampNeg))))))))))) n
theorem X5_ringBits_c44_s {F : Nat} {b : Nat} {rc36 : Int32 → AH → Prop} {K : Int32 → AH → Prop} {n : Nat} {x1 : Int32} {x2 : Int32} {h : AH} : X5_ringBits_c44 F b rc36 K (n + 1) x1 x2 h = (if (nI 6) ≤ x2 then (rc36 (x1 + (nI 1)) h) else (vp_in x2 6 ∧ (P_X7_hasBit F (h (b + 11) x2.toNatClampNeg) x1 h (fun (r2 : Int32) (h1 : AH) => if r2 = (nI 0) then (X5_ringBits_c78 F b rc36 (X5_ringBits_c44 F b rc36 K n) K x1 x2 h1) else (vp_in x2 6 ∧ (vp_in x1 6 ∧ (vp_in x2 6 ∧ ((fun (h3 : AH) => X5_ringBits_c78 F b rc36 (X5_ringBits_c44 F b rc36 K n) K x1 x2 h3) (up h1 (b + 11) x2.toNatClampNeg ((h1 (b + 11) x2.toNatClampNeg) ||| (h1 (b + 11) x1.toNatClampNeg))))))))))) := rfl
set_option maxHeartbeats 4000000 in
theorem bw_X5_ringBits_c44 {l : Launch} {d : Nat} {F : Nat} {b : Nat} {rc36 : Int32 → AH → Prop} {K : Int32 → AH → Prop} (hd : 3 ≤ d) (hb : isTbl b) (hr36 : ∀ (x1 : Int32) (h : AH), rc36 x1 h → BW RX5 cX5_ringBits 3 (some .int) l (rmD d) tb0 3 [.ref b, .int x1, .null] [] 36 h (Qi K)) : ∀ (n : Nat) (x1 : Int32) (x2 : Int32) (h : AH), X5_ringBits_c44 F b rc36 K n x1 x2 h → BW RX5 cX5_ringBits 3 (some .int) l (rmD d) tb0 3 [.ref b, .int x1, .int x2] [] 44 h (Qi K) := by
  have hk1 : 1 ≤ d := by omega
  have hk_X5_waitsForBits : 2 ≤ d - 1 := by omega
  have hk_X7_hasBit : 0 ≤ d - 1 := by omega
  intro n
  induction n with
  | zero =>
    intro x1 x2 h hM
    exact hM.elim
  | succ n hr44 =>
    intro x1 x2 h hM
    rw [X5_ringBits_c44_s] at hM
    refine B_iload_n dX5_ringBits_44 rfl ?_
    refine B_bipush dX5_ringBits_45 k_bi_6 ?_
    refine B_icmp_ge dX5_ringBits_47 hM (tgt := 84) rfl (fun hM => ?_) (fun hM => ?_)
    · refine B_iinc dX5_ringBits_84 rfl k_ic_1 (Nat.le_of_ble_eq_true rfl) ?_
      refine B_goto (tgt := 36) dX5_ringBits_87 rfl ?_
      exact B_wk (hr36 _ _ hM) (wk_1 (wk_1 (wk_0 wk_n)))
    · refine B_aload_n dX5_ringBits_50 rfl ?_
      refine B_getR (tb_0 hb) vc_5 (k := 14) (j := (b + 11)) rfl (by decide) inG5 ⟨rfl, rfl, rfl⟩ ww_fl_X5_55 dX5_ringBits_51 ?_
      refine B_iload_n dX5_ringBits_54 rfl ?_
      refine B_iald (tb_11 hb) hM dX5_ringBits_55 (fun hM => ?_)
      refine B_iload_n dX5_ringBits_56 rfl ?_
      refine B_cN2i (c_X7_hasBit (d := d - 1) hk_X7_hasBit  hM) csN_X5_137 hp0 (rm_f hk1) (rm_l hk1 (by decide)) (Nat.le_of_ble_eq_true rfl) dX5_ringBits_57 (fun r2 h1 hM => ?_)
      refine B_if_eq dX5_ringBits_60 hM (tgt := 78) rfl (fun hM => ?_) (fun hM => ?_)
      · exact B_wk (bw_X5_ringBits_c78 hd hb hr36 hr44 hM) (wk_1 (wk_1 (wk_1 wk_n)))
      · refine B_aload_n dX5_ringBits_63 rfl ?_
        refine B_getR (tb_0 hb) vc_5 (k := 14) (j := (b + 11)) rfl (by decide) inG5 ⟨rfl, rfl, rfl⟩ ww_fl_X5_55 dX5_ringBits_64 ?_
        refine B_iload_n dX5_ringBits_67 rfl ?_
        refine B_dup2 dX5_ringBits_68 ?_
        refine B_iald (tb_11 hb) hM dX5_ringBits_69 (fun hM => ?_)
        refine B_aload_n dX5_ringBits_70 rfl ?_
        refine B_getR (tb_0 hb) vc_5 (k := 14) (j := (b + 11)) rfl (by decide) inG5 ⟨rfl, rfl, rfl⟩ ww_fl_X5_55 dX5_ringBits_71 ?_
        refine B_iload_n dX5_ringBits_74 rfl ?_
        refine B_iald (tb_11 hb) hM dX5_ringBits_75 (fun hM => ?_)
        refine B_ior dX5_ringBits_76 ?_
        refine B_iast (tb_11 hb) hM dX5_ringBits_77 (fun hM => ?_)
        exact B_wk (bw_X5_ringBits_c78 hd hb hr36 hr44 hM) (wk_1 (wk_1 (wk_1 wk_n)))
def X5_ringBits_c36 (F : Nat) (b : Nat) (K : Int32 → AH → Prop) (n : Nat) : Int32 → AH → Prop := Nat.rec (motive := fun _ => Int32 → AH → Prop) (fun _ _ => False) (fun _ rc36 x1 h => if (nI 6) ≤ x1 then (X5_ringBits_c94 F b K F (nI 0) (nI 0) h) else (X5_ringBits_c44 F b rc36 K F x1 (nI 0) h)) n
theorem X5_ringBits_c36_s {F : Nat} {b : Nat} {K : Int32 → AH → Prop} {n : Nat} {x1 : Int32} {h : AH} : X5_ringBits_c36 F b K (n + 1) x1 h = (if (nI 6) ≤ x1 then (X5_ringBits_c94 F b K F (nI 0) (nI 0) h) else (X5_ringBits_c44 F b (X5_ringBits_c36 F b K n) K F x1 (nI 0) h)) := rfl
set_option maxHeartbeats 4000000 in
theorem bw_X5_ringBits_c36 {l : Launch} {d : Nat} {F : Nat} {b : Nat} {K : Int32 → AH → Prop} (hd : 3 ≤ d) (hb : isTbl b) : ∀ (n : Nat) (x1 : Int32) (h : AH), X5_ringBits_c36 F b K n x1 h → BW RX5 cX5_ringBits 3 (some .int) l (rmD d) tb0 3 [.ref b, .int x1, .null] [] 36 h (Qi K) := by
  have hk1 : 1 ≤ d := by omega
  have hk_X5_waitsForBits : 2 ≤ d - 1 := by omega
  have hk_X7_hasBit : 0 ≤ d - 1 := by omega
  intro n
  induction n with
  | zero =>
    intro x1 h hM
    exact hM.elim
  | succ n hr36 =>
    intro x1 h hM
    rw [X5_ringBits_c36_s] at hM
    refine B_iload_n dX5_ringBits_36 rfl ?_
    refine B_bipush dX5_ringBits_37 k_bi_6 ?_
    refine B_icmp_ge dX5_ringBits_39 hM (tgt := 90) rfl (fun hM => ?_) (fun hM => ?_)
    · refine B_iconst dX5_ringBits_90 k_ic_0 ?_
      refine B_istore_n dX5_ringBits_91 (Nat.le_of_ble_eq_true rfl) ?_
      refine B_iconst dX5_ringBits_92 k_ic_0 ?_
      refine B_istore_n dX5_ringBits_93 (Nat.le_of_ble_eq_true rfl) ?_
      exact B_wk (bw_X5_ringBits_c94 hd hb  _ _ _ _ hM) (wk_1 (wk_1 (wk_1 wk_n)))
    · refine B_iconst dX5_ringBits_42 k_ic_0 ?_
      refine B_istore_n dX5_ringBits_43 (Nat.le_of_ble_eq_true rfl) ?_
      exact B_wk (bw_X5_ringBits_c44 hd hb hr36 _ _ _ _ hM) (wk_1 (wk_1 (wk_1 wk_n)))
def X5_ringBits_c11 (F : Nat) (b : Nat) (K : Int32 → AH → Prop) (n : Nat) : Int32 → AH → Prop := Nat.rec (motive := fun _ => Int32 → AH → Prop) (fun _ _ => False) (fun _ rc11 x1 h => if (nI 6) ≤ x1 then (X5_ringBits_c36 F b K F (nI 0) h) else (P_X5_waitsForBits F b x1 h (fun (r2 : Int32) (h1 : AH) => vp_in x1 6 ∧ ((fun (h3 : AH) => rc11 (x1 + (nI 1)) h3) (up h1 (b + 11) x1.toNatClampNeg r2))))) n
theorem X5_ringBits_c11_s {F : Nat} {b : Nat} {K : Int32 → AH → Prop} {n : Nat} {x1 : Int32} {h : AH} : X5_ringBits_c11 F b K (n + 1) x1 h = (if (nI 6) ≤ x1 then (X5_ringBits_c36 F b K F (nI 0) h) else (P_X5_waitsForBits F b x1 h (fun (r2 : Int32) (h1 : AH) => vp_in x1 6 ∧ ((fun (h3 : AH) => (X5_ringBits_c11 F b K n) (x1 + (nI 1)) h3) (up h1 (b + 11) x1.toNatClampNeg r2))))) := rfl
set_option maxHeartbeats 4000000 in
theorem bw_X5_ringBits_c11 {l : Launch} {d : Nat} {F : Nat} {b : Nat} {K : Int32 → AH → Prop} (hd : 3 ≤ d) (hb : isTbl b) : ∀ (n : Nat) (x1 : Int32) (h : AH), X5_ringBits_c11 F b K n x1 h → BW RX5 cX5_ringBits 3 (some .int) l (rmD d) tb0 3 [.ref b, .int x1, .null] [] 11 h (Qi K) := by
  have hk1 : 1 ≤ d := by omega
  have hk_X5_waitsForBits : 2 ≤ d - 1 := by omega
  have hk_X7_hasBit : 0 ≤ d - 1 := by omega
  intro n
  induction n with
  | zero =>
    intro x1 h hM
    exact hM.elim
  | succ n hr11 =>
    intro x1 h hM
    rw [X5_ringBits_c11_s] at hM
    refine B_iload_n dX5_ringBits_11 rfl ?_
    refine B_bipush dX5_ringBits_12 k_bi_6 ?_
    refine B_icmp_ge dX5_ringBits_14 hM (tgt := 34) rfl (fun hM => ?_) (fun hM => ?_)
    · refine B_iconst dX5_ringBits_34 k_ic_0 ?_
      refine B_istore_n dX5_ringBits_35 (Nat.le_of_ble_eq_true rfl) ?_
      exact B_wk (bw_X5_ringBits_c36 hd hb  _ _ _ hM) (wk_1 (wk_1 (wk_0 wk_n)))
    · refine B_aload_n dX5_ringBits_17 rfl ?_
      refine B_getR (tb_0 hb) vc_5 (k := 14) (j := (b + 11)) rfl (by decide) inG5 ⟨rfl, rfl, rfl⟩ ww_fl_X5_55 dX5_ringBits_18 ?_
      refine B_iload_n dX5_ringBits_21 rfl ?_
      refine B_aload_n dX5_ringBits_22 rfl ?_
      refine B_iload_n dX5_ringBits_23 rfl ?_
      refine B_cV1i (c_X5_waitsForBits (d := d - 1) hk_X5_waitsForBits hb hM) csV_X5_134 (tb_0 hb) vc_5 rfl hp0 (rm_f hk1) (rm_l hk1 (by decide)) (Nat.le_of_ble_eq_true rfl) dX5_ringBits_24 (fun r2 h1 hM => ?_)
      refine B_iast (tb_11 hb) hM dX5_ringBits_27 (fun hM => ?_)
      refine B_iinc dX5_ringBits_28 rfl k_ic_1 (Nat.le_of_ble_eq_true rfl) ?_
      refine B_goto (tgt := 11) dX5_ringBits_31 rfl ?_
      exact B_wk (hr11 _ _ hM) (wk_1 (wk_1 (wk_0 wk_n)))
def P_X5_ringBits (F : Nat) (b : Nat) (h : AH) (K : Int32 → AH → Prop) : Prop := if ¬ (h b 5) = (nI 0) then (X5_ringBits_c11 F b K F (nI 0) h) else (K (nI 0) h)
set_option maxHeartbeats 4000000 in
theorem c_X5_ringBits {l : Launch} {d : Nat} {F : Nat} {b : Nat} {h : AH} {K : Int32 → AH → Prop} (hd : 3 ≤ d) (hb : isTbl b) (hM : P_X5_ringBits F b h K) : Ct l yX5_ringBits cX5_ringBits 3 (some .int) (rmD d) [.ref b] h (Qi K) := by
  have hk1 : 1 ≤ d := by omega
  have hk_X5_waitsForBits : 2 ≤ d - 1 := by omega
  have hk_X7_hasBit : 0 ≤ d - 1 := by omega
  refine Ct_ofBW (by decide) rfl (Nat.le_of_ble_eq_true rfl) ⟨rfl, rfl⟩ ?_
  show BW RX5 cX5_ringBits 3 (some .int) l (rmD d) tb0 3 [.ref b, .null, .null] [] 0 h (Qi K)
  unfold P_X5_ringBits at hM
  refine B_aload_n dX5_ringBits_0 rfl ?_
  refine B_getI (tb_0 hb) vc_5 (k := 5) rfl (by decide) inG5 ⟨rfl, rfl, rfl⟩ ww_fl_X5_28 dX5_ringBits_1 ?_
  refine B_if_ne dX5_ringBits_4 hM (tgt := 9) rfl (fun hM => ?_) (fun hM => ?_)
  · refine B_iconst dX5_ringBits_9 k_ic_0 ?_
    refine B_istore_n dX5_ringBits_10 (Nat.le_of_ble_eq_true rfl) ?_
    exact B_wk (bw_X5_ringBits_c11 hd hb  _ _ _ hM) (wk_1 (wk_1 (wk_0 wk_n)))
  · refine B_iconst dX5_ringBits_7 k_ic_0 ?_
    exact B_iret ⟨_, rfl, hM⟩ trivial dX5_ringBits_8

def P_X5_row (F : Nat) (a1 : Int32) (a2 : Int32) (h : AH) (K : Int32 → AH → Prop) : Prop := K (((a1 * (nI 5)) + a2) - (nI 1)) h
set_option maxHeartbeats 4000000 in
theorem c_X5_row {l : Launch} {d : Nat} {F : Nat} {a1 : Int32} {a2 : Int32} {h : AH} {K : Int32 → AH → Prop} (hd : 0 ≤ d) (hM : P_X5_row F a1 a2 h K) : Ct l yX5_row cX5_row 2 (some .int) (rmD d) [.int a1, .int a2] h (Qi K) := by
  refine Ct_ofBW (by decide) rfl (Nat.le_of_ble_eq_true rfl) ⟨rfl, rfl⟩ ?_
  show BW RX5 cX5_row 2 (some .int) l (rmD d) tb0 3 [.int a1, .int a2] [] 0 h (Qi K)
  unfold P_X5_row at hM
  refine B_iload_n dX5_row_0 rfl ?_
  refine B_iconst dX5_row_1 k_ic_5 ?_
  refine B_imul dX5_row_2 ?_
  refine B_iload_n dX5_row_3 rfl ?_
  refine B_iadd dX5_row_4 ?_
  refine B_iconst dX5_row_5 k_ic_1 ?_
  refine B_isub dX5_row_6 ?_
  exact B_iret ⟨_, rfl, hM⟩ trivial dX5_row_7

def P_X5_cell (F : Nat) (a1 : Int32) (a2 : Int32) (a3 : Int32) (h : AH) (K : Int32 → AH → Prop) : Prop := K (((((a2 * (nI 6)) + a1) * (nI 5)) + a3) - (nI 1)) h
set_option maxHeartbeats 4000000 in
theorem c_X5_cell {l : Launch} {d : Nat} {F : Nat} {a1 : Int32} {a2 : Int32} {a3 : Int32} {h : AH} {K : Int32 → AH → Prop} (hd : 0 ≤ d) (hM : P_X5_cell F a1 a2 a3 h K) : Ct l yX5_cell cX5_cell 3 (some .int) (rmD d) [.int a1, .int a2, .int a3] h (Qi K) := by
  refine Ct_ofBW (by decide) rfl (Nat.le_of_ble_eq_true rfl) ⟨rfl, rfl⟩ ?_
  show BW RX5 cX5_cell 3 (some .int) l (rmD d) tb0 3 [.int a1, .int a2, .int a3] [] 0 h (Qi K)
  unfold P_X5_cell at hM
  refine B_iload_n dX5_cell_0 rfl ?_
  refine B_bipush dX5_cell_1 k_bi_6 ?_
  refine B_imul dX5_cell_3 ?_
  refine B_iload_n dX5_cell_4 rfl ?_
  refine B_iadd dX5_cell_5 ?_
  refine B_iconst dX5_cell_6 k_ic_5 ?_
  refine B_imul dX5_cell_7 ?_
  refine B_iload_n dX5_cell_8 rfl ?_
  refine B_iadd dX5_cell_9 ?_
  refine B_iconst dX5_cell_10 k_ic_1 ?_
  refine B_isub dX5_cell_11 ?_
  exact B_iret ⟨_, rfl, hM⟩ trivial dX5_cell_12

def X5_shiftCounts_c95 (F : Nat) (b : Nat) (rc9 : Int32 → Int32 → Int32 → Int32 → Int32 → Int32 → AH → Prop) (K : AH → Prop) (x1 : Int32) (x3 : Int32) (x4 : Int32) (x5 : Int32) (x7 : Int32) (s1 : Int32) (s2 : Int32) (h : AH) : Prop := vp_in s1 60 ∧ ((fun (h1 : AH) => vp_in x5 12 ∧ (vp_in x3 6 ∧ (rc9 x1 x3 x4 (h1 (b + 1) x5.toNatClampNeg) (tMA x3.toNatClampNeg) (x7 + (nI 1)) h1))) (up h (b + 4) s1.toNatClampNeg s2))
set_option maxHeartbeats 4000000 in
theorem bw_X5_shiftCounts_c95 {l : Launch} {d : Nat} {F : Nat} {b : Nat} {rc9 : Int32 → Int32 → Int32 → Int32 → Int32 → Int32 → AH → Prop} {K : AH → Prop} {x1 : Int32} {x3 : Int32} {x4 : Int32} {x5 : Int32} {x7 : Int32} {s1 : Int32} {s2 : Int32} {h : AH} (hd : 1 ≤ d) (hb : isTbl b) (hr9 : ∀ (x1 : Int32) (x3 : Int32) (x4 : Int32) (x5 : Int32) (x6 : Int32) (x7 : Int32) (h : AH), rc9 x1 x3 x4 x5 x6 x7 h → BW RX5 cX5_shiftCounts 10 none l (rmD d) tb0 3 [.ref b, .int x1, .null, .int x3, .int x4, .int x5, .int x6, .int x7, .null, .null] [] 9 h (Qv K)) (hM : X5_shiftCounts_c95 F b rc9 K x1 x3 x4 x5 x7 s1 s2 h) : BW RX5 cX5_shiftCounts 10 none l (rmD d) tb0 3 [.ref b, .int x1, .null, .int x3, .int x4, .int x5, .null, .int x7, .null, .null] [.int s2, .int s1, .ref (b + 4)] 95 h (Qv K) := by
  have hk1 : 1 ≤ d := by omega
  have hk_X5_cell : 0 ≤ d - 1 := by omega
  have hk_X5_row : 0 ≤ d - 1 := by omega
  unfold X5_shiftCounts_c95 at hM
  refine B_iast (tb_4 hb) hM dX5_shiftCounts_95 (fun hM => ?_)
  refine B_aload_n dX5_shiftCounts_96 rfl ?_
  refine B_getR (tb_0 hb) vc_5 (k := 1) (j := (b + 1)) rfl (by decide) inG5 ⟨rfl, rfl, rfl⟩ ww_fl_X5_15 dX5_shiftCounts_97 ?_
  refine B_iload dX5_shiftCounts_100 rfl ?_
  refine B_iald (tb_1 hb) hM dX5_shiftCounts_102 (fun hM => ?_)
  refine B_istore dX5_shiftCounts_103 (Nat.le_of_ble_eq_true rfl) ?_
  refine B_gsN1 (by unfold nwF; simp) dX5_shiftCounts_105 ?_
  refine B_iload_n dX5_shiftCounts_108 rfl ?_
  refine B_tald (t := 1) (by decide) hM dX5_shiftCounts_109 (fun hM => ?_)
  refine B_istore dX5_shiftCounts_110 (Nat.le_of_ble_eq_true rfl) ?_
  refine B_iinc dX5_shiftCounts_112 rfl k_ic_1 (Nat.le_of_ble_eq_true rfl) ?_
  refine B_goto (tgt := 9) dX5_shiftCounts_115 rfl ?_
  exact B_wk (hr9 _ _ _ _ _ _ _ hM) (wk_1 (wk_1 (wk_0 (wk_1 (wk_1 (wk_1 (wk_1 (wk_1 (wk_0 (wk_0 wk_n))))))))))
def X5_shiftCounts_c9 (F : Nat) (b : Nat) (K : AH → Prop) (n : Nat) : Int32 → Int32 → Int32 → Int32 → Int32 → Int32 → AH → Prop := Nat.rec (motive := fun _ => Int32 → Int32 → Int32 → Int32 → Int32 → Int32 → AH → Prop) (fun _ _ _ _ _ _ _ => False) (fun _ rc9 x1 x3 x4 x5 x6 x7 h => if (nI 12) ≤ x7 then (K h) else (if x5 < (nI 0) then (K h) else (P_X5_cell F x1 x5 x6 h (fun (r2 : Int32) (h1 : AH) => P_X5_row F x5 x6 h1 (fun (r4 : Int32) (h3 : AH) => vp_in r2 360 ∧ (vp_in r2 360 ∧ ((fun (h5 : AH) => vp_in r2 360 ∧ (if (h5 (b + 3) r2.toNatClampNeg) = (nI 0) then (vp_in r4 60 ∧ (X5_shiftCounts_c95 F b rc9 K x1 x3 x4 x5 x7 r4 ((h5 (b + 4) r4.toNatClampNeg) &&& (((nI 1) <<< (x1 &&& 31)) ^^^ (-1 : Int32))) h5)) else (vp_in r4 60 ∧ (X5_shiftCounts_c95 F b rc9 K x1 x3 x4 x5 x7 r4 ((h5 (b + 4) r4.toNatClampNeg) ||| ((nI 1) <<< (x1 &&& 31))) h5)))) (up h3 (b + 3) r2.toNatClampNeg ((h3 (b + 3) r2.toNatClampNeg) + x4))))))))) n
theorem X5_shiftCounts_c9_s {F : Nat} {b : Nat} {K : AH → Prop} {n : Nat} {x1 : Int32} {x3 : Int32} {x4 : Int32} {x5 : Int32} {x6 : Int32} {x7 : Int32} {h : AH} : X5_shiftCounts_c9 F b K (n + 1) x1 x3 x4 x5 x6 x7 h = (if (nI 12) ≤ x7 then (K h) else (if x5 < (nI 0) then (K h) else (P_X5_cell F x1 x5 x6 h (fun (r2 : Int32) (h1 : AH) => P_X5_row F x5 x6 h1 (fun (r4 : Int32) (h3 : AH) => vp_in r2 360 ∧ (vp_in r2 360 ∧ ((fun (h5 : AH) => vp_in r2 360 ∧ (if (h5 (b + 3) r2.toNatClampNeg) = (nI 0) then (vp_in r4 60 ∧ (X5_shiftCounts_c95 F b (X5_shiftCounts_c9 F b K n) K x1 x3 x4 x5 x7 r4 ((h5 (b + 4) r4.toNatClampNeg) &&& (((nI 1) <<< (x1 &&& 31)) ^^^ (-1 : Int32))) h5)) else (vp_in r4 60 ∧ (X5_shiftCounts_c95 F b (X5_shiftCounts_c9 F b K n) K x1 x3 x4 x5 x7 r4 ((h5 (b + 4) r4.toNatClampNeg) ||| ((nI 1) <<< (x1 &&& 31))) h5)))) (up h3 (b + 3) r2.toNatClampNeg ((h3 (b + 3) r2.toNatClampNeg) + x4))))))))) := rfl
set_option maxHeartbeats 4000000 in
theorem bw_X5_shiftCounts_c9 {l : Launch} {d : Nat} {F : Nat} {b : Nat} {K : AH → Prop} (hd : 1 ≤ d) (hb : isTbl b) : ∀ (n : Nat) (x1 : Int32) (x3 : Int32) (x4 : Int32) (x5 : Int32) (x6 : Int32) (x7 : Int32) (h : AH), X5_shiftCounts_c9 F b K n x1 x3 x4 x5 x6 x7 h → BW RX5 cX5_shiftCounts 10 none l (rmD d) tb0 3 [.ref b, .int x1, .null, .int x3, .int x4, .int x5, .int x6, .int x7, .null, .null] [] 9 h (Qv K) := by
  have hk1 : 1 ≤ d := by omega
  have hk_X5_cell : 0 ≤ d - 1 := by omega
  have hk_X5_row : 0 ≤ d - 1 := by omega
  intro n
  induction n with
  | zero =>
    intro x1 x3 x4 x5 x6 x7 h hM
    exact hM.elim
  | succ n hr9 =>
    intro x1 x3 x4 x5 x6 x7 h hM
    rw [X5_shiftCounts_c9_s] at hM
    refine B_iload dX5_shiftCounts_9 rfl ?_
    refine B_bipush dX5_shiftCounts_11 k_bi_12 ?_
    refine B_icmp_ge dX5_shiftCounts_13 hM (tgt := 118) rfl (fun hM => ?_) (fun hM => ?_)
    · exact B_vret ⟨rfl, hM⟩ trivial dX5_shiftCounts_118
    · refine B_iload dX5_shiftCounts_16 rfl ?_
      refine B_if_lt dX5_shiftCounts_18 hM (tgt := 118) rfl (fun hM => ?_) (fun hM => ?_)
      · exact B_vret ⟨rfl, hM⟩ trivial dX5_shiftCounts_118
      · refine B_iload_n dX5_shiftCounts_21 rfl ?_
        refine B_iload dX5_shiftCounts_22 rfl ?_
        refine B_iload dX5_shiftCounts_24 rfl ?_
        refine B_cS3i (c_X5_cell (d := d - 1) hk_X5_cell  hM) csS_X5_116 hp0 (rm_f hk1) (rm_l hk1 (by decide)) (Nat.le_of_ble_eq_true rfl) dX5_shiftCounts_26 (fun r2 h1 hM => ?_)
        refine B_istore dX5_shiftCounts_29 (Nat.le_of_ble_eq_true rfl) ?_
        refine B_iload dX5_shiftCounts_31 rfl ?_
        refine B_iload dX5_shiftCounts_33 rfl ?_
        refine B_cS2i (c_X5_row (d := d - 1) hk_X5_row  hM) csS_X5_78 hp0 (rm_f hk1) (rm_l hk1 (by decide)) (Nat.le_of_ble_eq_true rfl) dX5_shiftCounts_35 (fun r4 h3 hM => ?_)
        refine B_istore dX5_shiftCounts_38 (Nat.le_of_ble_eq_true rfl) ?_
        refine B_aload_n dX5_shiftCounts_40 rfl ?_
        refine B_getR (tb_0 hb) vc_5 (k := 3) (j := (b + 3)) rfl (by decide) inG5 ⟨rfl, rfl, rfl⟩ ww_fl_X5_22 dX5_shiftCounts_41 ?_
        refine B_iload dX5_shiftCounts_44 rfl ?_
        refine B_dup2 dX5_shiftCounts_46 ?_
        refine B_iald (tb_3 hb) hM dX5_shiftCounts_47 (fun hM => ?_)
        refine B_iload dX5_shiftCounts_48 rfl ?_
        refine B_iadd dX5_shiftCounts_50 ?_
        refine B_iast (tb_3 hb) hM dX5_shiftCounts_51 (fun hM => ?_)
        refine B_aload_n dX5_shiftCounts_52 rfl ?_
        refine B_getR (tb_0 hb) vc_5 (k := 4) (j := (b + 4)) rfl (by decide) inG5 ⟨rfl, rfl, rfl⟩ ww_fl_X5_25 dX5_shiftCounts_53 ?_
        refine B_iload dX5_shiftCounts_56 rfl ?_
        refine B_aload_n dX5_shiftCounts_58 rfl ?_
        refine B_getR (tb_0 hb) vc_5 (k := 3) (j := (b + 3)) rfl (by decide) inG5 ⟨rfl, rfl, rfl⟩ ww_fl_X5_22 dX5_shiftCounts_59 ?_
        refine B_iload dX5_shiftCounts_62 rfl ?_
        refine B_iald (tb_3 hb) hM dX5_shiftCounts_64 (fun hM => ?_)
        refine B_if_eq dX5_shiftCounts_65 hM (tgt := 82) rfl (fun hM => ?_) (fun hM => ?_)
        · refine B_aload_n dX5_shiftCounts_82 rfl ?_
          refine B_getR (tb_0 hb) vc_5 (k := 4) (j := (b + 4)) rfl (by decide) inG5 ⟨rfl, rfl, rfl⟩ ww_fl_X5_25 dX5_shiftCounts_83 ?_
          refine B_iload dX5_shiftCounts_86 rfl ?_
          refine B_iald (tb_4 hb) hM dX5_shiftCounts_88 (fun hM => ?_)
          refine B_iconst dX5_shiftCounts_89 k_ic_1 ?_
          refine B_iload_n dX5_shiftCounts_90 rfl ?_
          refine B_ishl dX5_shiftCounts_91 ?_
          refine B_iconst dX5_shiftCounts_92 k_ic_m1 ?_
          refine B_ixor dX5_shiftCounts_93 ?_
          refine B_iand dX5_shiftCounts_94 ?_
          exact B_wk (bw_X5_shiftCounts_c95 hd hb hr9 hM) (wk_1 (wk_1 (wk_0 (wk_1 (wk_1 (wk_1 (wk_0 (wk_1 (wk_0 (wk_0 wk_n))))))))))
        · refine B_aload_n dX5_shiftCounts_68 rfl ?_
          refine B_getR (tb_0 hb) vc_5 (k := 4) (j := (b + 4)) rfl (by decide) inG5 ⟨rfl, rfl, rfl⟩ ww_fl_X5_25 dX5_shiftCounts_69 ?_
          refine B_iload dX5_shiftCounts_72 rfl ?_
          refine B_iald (tb_4 hb) hM dX5_shiftCounts_74 (fun hM => ?_)
          refine B_iconst dX5_shiftCounts_75 k_ic_1 ?_
          refine B_iload_n dX5_shiftCounts_76 rfl ?_
          refine B_ishl dX5_shiftCounts_77 ?_
          refine B_ior dX5_shiftCounts_78 ?_
          refine B_goto (tgt := 95) dX5_shiftCounts_79 rfl ?_
          exact B_wk (bw_X5_shiftCounts_c95 hd hb hr9 hM) (wk_1 (wk_1 (wk_0 (wk_1 (wk_1 (wk_1 (wk_0 (wk_1 (wk_0 (wk_0 wk_n))))))))))
def P_X5_shiftCounts (F : Nat) (b : Nat) (a1 : Int32) (a2 : Int32) (a3 : Int32) (a4 : Int32) (h : AH) (K : AH → Prop) : Prop := X5_shiftCounts_c9 F b K F a1 a3 a4 a2 a3 (nI 0) h
set_option maxHeartbeats 4000000 in
theorem c_X5_shiftCounts {l : Launch} {d : Nat} {F : Nat} {b : Nat} {a1 : Int32} {a2 : Int32} {a3 : Int32} {a4 : Int32} {h : AH} {K : AH → Prop} (hd : 1 ≤ d) (hb : isTbl b) (hM : P_X5_shiftCounts F b a1 a2 a3 a4 h K) : Ct l yX5_shiftCounts cX5_shiftCounts 10 none (rmD d) [.ref b, .int a1, .int a2, .int a3, .int a4] h (Qv K) := by
  have hk1 : 1 ≤ d := by omega
  have hk_X5_cell : 0 ≤ d - 1 := by omega
  have hk_X5_row : 0 ≤ d - 1 := by omega
  refine Ct_ofBW (by decide) rfl (Nat.le_of_ble_eq_true rfl) ⟨rfl, rfl⟩ ?_
  show BW RX5 cX5_shiftCounts 10 none l (rmD d) tb0 3 [.ref b, .int a1, .int a2, .int a3, .int a4, .null, .null, .null, .null, .null] [] 0 h (Qv K)
  unfold P_X5_shiftCounts at hM
  refine B_iload_n dX5_shiftCounts_0 rfl ?_
  refine B_istore dX5_shiftCounts_1 (Nat.le_of_ble_eq_true rfl) ?_
  refine B_iload_n dX5_shiftCounts_3 rfl ?_
  refine B_istore dX5_shiftCounts_4 (Nat.le_of_ble_eq_true rfl) ?_
  refine B_iconst dX5_shiftCounts_6 k_ic_0 ?_
  refine B_istore dX5_shiftCounts_7 (Nat.le_of_ble_eq_true rfl) ?_
  exact B_wk (bw_X5_shiftCounts_c9 hd hb  _ _ _ _ _ _ _ _ hM) (wk_1 (wk_1 (wk_0 (wk_1 (wk_1 (wk_1 (wk_1 (wk_1 (wk_0 (wk_0 wk_n))))))))))

def P_X5_grant (F : Nat) (b : Nat) (a1 : Int32) (a2 : Int32) (a3 : Int32) (h : AH) (K : AH → Prop) : Prop := P_X5_shiftCounts F b a1 a2 a3 (nI 1) h (fun (h1 : AH) => (fun (h2 : AH) => K h2) (up h1 b 13 ((h1 b 13) + (nI 1))))
set_option maxHeartbeats 4000000 in
theorem c_X5_grant {l : Launch} {d : Nat} {F : Nat} {b : Nat} {a1 : Int32} {a2 : Int32} {a3 : Int32} {h : AH} {K : AH → Prop} (hd : 2 ≤ d) (hb : isTbl b) (hM : P_X5_grant F b a1 a2 a3 h K) : Ct l yX5_grant cX5_grant 4 none (rmD d) [.ref b, .int a1, .int a2, .int a3] h (Qv K) := by
  have hk1 : 1 ≤ d := by omega
  have hk_X5_shiftCounts : 1 ≤ d - 1 := by omega
  refine Ct_ofBW (by decide) rfl (Nat.le_of_ble_eq_true rfl) ⟨rfl, rfl⟩ ?_
  show BW RX5 cX5_grant 4 none l (rmD d) tb0 3 [.ref b, .int a1, .int a2, .int a3] [] 0 h (Qv K)
  unfold P_X5_grant at hM
  refine B_aload_n dX5_grant_0 rfl ?_
  refine B_iload_n dX5_grant_1 rfl ?_
  refine B_iload_n dX5_grant_2 rfl ?_
  refine B_iload_n dX5_grant_3 rfl ?_
  refine B_iconst dX5_grant_4 k_ic_1 ?_
  refine B_cV4v (c_X5_shiftCounts (d := d - 1) hk_X5_shiftCounts hb hM) csV_X5_119 (tb_0 hb) vc_5 rfl hp0 (rm_f hk1) (rm_l hk1 (by decide)) (Nat.le_of_ble_eq_true rfl) dX5_grant_5 (fun h1 hM => ?_)
  refine B_aload_n dX5_grant_8 rfl ?_
  refine B_dupR dX5_grant_9 ?_
  refine B_getI (tb_0 hb) vc_5 (k := 13) rfl (by decide) inG5 ⟨rfl, rfl, rfl⟩ ww_fl_X5_52 dX5_grant_10 ?_
  refine B_iconst dX5_grant_13 k_ic_1 ?_
  refine B_iadd dX5_grant_14 ?_
  refine B_putI (fits_I _) (tb_0 hb) vc_5 (k := 13) rfl (by decide) inG5 ⟨rfl, rfl, rfl⟩ tyX5 tyX5_ok nmX5 rfl rfl ww_fl_X5_52 dX5_grant_15 ?_
  exact B_vret ⟨rfl, hM⟩ trivial dX5_grant_18

def X5_nextToServe_c64 (F : Nat) (b : Nat) (rc4 : Int32 → Int32 → AH → Prop) (K : Int32 → AH → Prop) (x1 : Int32) (x2 : Int32) (h : AH) : Prop := rc4 x1 (x2 + (nI 1)) h
set_option maxHeartbeats 4000000 in
theorem bw_X5_nextToServe_c64 {l : Launch} {d : Nat} {F : Nat} {b : Nat} {rc4 : Int32 → Int32 → AH → Prop} {K : Int32 → AH → Prop} {x1 : Int32} {x2 : Int32} {h : AH} (hd : 2 ≤ d) (hb : isTbl b) (hr4 : ∀ (x1 : Int32) (x2 : Int32) (h : AH), rc4 x1 x2 h → BW RX5 cX5_nextToServe 4 (some .int) l (rmD d) tb0 3 [.ref b, .int x1, .int x2, .null] [] 4 h (Qi K)) (hM : X5_nextToServe_c64 F b rc4 K x1 x2 h) : BW RX5 cX5_nextToServe 4 (some .int) l (rmD d) tb0 3 [.ref b, .int x1, .int x2, .null] [] 64 h (Qi K) := by
  have hk1 : 1 ≤ d := by omega
  have hk_X5_hindrances : 1 ≤ d - 1 := by omega
  have hk_X5_isRaise : 0 ≤ d - 1 := by omega
  unfold X5_nextToServe_c64 at hM
  refine B_iinc dX5_nextToServe_64 rfl k_ic_1 (Nat.le_of_ble_eq_true rfl) ?_
  refine B_goto (tgt := 4) dX5_nextToServe_67 rfl ?_
  exact B_wk (hr4 _ _ _ hM) (wk_1 (wk_1 (wk_1 (wk_0 wk_n))))
def X5_nextToServe_c4 (F : Nat) (b : Nat) (K : Int32 → AH → Prop) (n : Nat) : Int32 → Int32 → AH → Prop := Nat.rec (motive := fun _ => Int32 → Int32 → AH → Prop) (fun _ _ _ => False) (fun _ rc4 x1 x2 h => if (h b 5) ≤ x2 then (K x1 h) else (vp_in x2 6 ∧ (vp_in (h (b + 5) x2.toNatClampNeg) 6 ∧ (vp_in (h (b + 5) x2.toNatClampNeg) 6 ∧ (P_X5_hindrances F b (h (b + 5) x2.toNatClampNeg) (h (b + 6) (h (b + 5) x2.toNatClampNeg).toNatClampNeg) (h (b + 7) (h (b + 5) x2.toNatClampNeg).toNatClampNeg) h (fun (r2 : Int32) (h1 : AH) => if r2 = (nI 0) then (vp_in (h (b + 5) x2.toNatClampNeg) 6 ∧ (P_X5_isRaise F b (h (b + 5) x2.toNatClampNeg) (h1 (b + 6) (h (b + 5) x2.toNatClampNeg).toNatClampNeg) h1 (fun (r4 : Int32) (h3 : AH) => if r4 = (nI 0) then (if (nI 0) ≤ x1 then (X5_nextToServe_c64 F b rc4 K x1 x2 h3) else (X5_nextToServe_c64 F b rc4 K (h (b + 5) x2.toNatClampNeg) x2 h3)) else (K (h (b + 5) x2.toNatClampNeg) h3)))) else (X5_nextToServe_c64 F b rc4 K x1 x2 h1))))))) n
theorem X5_nextToServe_c4_s {F : Nat} {b : Nat} {K : Int32 → AH → Prop} {n : Nat} {x1 : Int32} {x2 : Int32} {h : AH} : X5_nextToServe_c4 F b K (n + 1) x1 x2 h = (if (h b 5) ≤ x2 then (K x1 h) else (vp_in x2 6 ∧ (vp_in (h (b + 5) x2.toNatClampNeg) 6 ∧ (vp_in (h (b + 5) x2.toNatClampNeg) 6 ∧ (P_X5_hindrances F b (h (b + 5) x2.toNatClampNeg) (h (b + 6) (h (b + 5) x2.toNatClampNeg).toNatClampNeg) (h (b + 7) (h (b + 5) x2.toNatClampNeg).toNatClampNeg) h (fun (r2 : Int32) (h1 : AH) => if r2 = (nI 0) then (vp_in (h (b + 5) x2.toNatClampNeg) 6 ∧ (P_X5_isRaise F b (h (b + 5) x2.toNatClampNeg) (h1 (b + 6) (h (b + 5) x2.toNatClampNeg).toNatClampNeg) h1 (fun (r4 : Int32) (h3 : AH) => if r4 = (nI 0) then (if (nI 0) ≤ x1 then (X5_nextToServe_c64 F b (X5_nextToServe_c4 F b K n) K x1 x2 h3) else (X5_nextToServe_c64 F b (X5_nextToServe_c4 F b K n) K (h (b + 5) x2.toNatClampNeg) x2 h3)) else (K (h (b + 5) x2.toNatClampNeg) h3)))) else (X5_nextToServe_c64 F b (X5_nextToServe_c4 F b K n) K x1 x2 h1))))))) := rfl
set_option maxHeartbeats 4000000 in
theorem bw_X5_nextToServe_c4 {l : Launch} {d : Nat} {F : Nat} {b : Nat} {K : Int32 → AH → Prop} (hd : 2 ≤ d) (hb : isTbl b) : ∀ (n : Nat) (x1 : Int32) (x2 : Int32) (h : AH), X5_nextToServe_c4 F b K n x1 x2 h → BW RX5 cX5_nextToServe 4 (some .int) l (rmD d) tb0 3 [.ref b, .int x1, .int x2, .null] [] 4 h (Qi K) := by
  have hk1 : 1 ≤ d := by omega
  have hk_X5_hindrances : 1 ≤ d - 1 := by omega
  have hk_X5_isRaise : 0 ≤ d - 1 := by omega
  intro n
  induction n with
  | zero =>
    intro x1 x2 h hM
    exact hM.elim
  | succ n hr4 =>
    intro x1 x2 h hM
    rw [X5_nextToServe_c4_s] at hM
    refine B_iload_n dX5_nextToServe_4 rfl ?_
    refine B_aload_n dX5_nextToServe_5 rfl ?_
    refine B_getI (tb_0 hb) vc_5 (k := 5) rfl (by decide) inG5 ⟨rfl, rfl, rfl⟩ ww_fl_X5_28 dX5_nextToServe_6 ?_
    refine B_icmp_ge dX5_nextToServe_9 hM (tgt := 70) rfl (fun hM => ?_) (fun hM => ?_)
    · refine B_iload_n dX5_nextToServe_70 rfl ?_
      exact B_iret ⟨_, rfl, hM⟩ trivial dX5_nextToServe_71
    · refine B_aload_n dX5_nextToServe_12 rfl ?_
      refine B_getR (tb_0 hb) vc_5 (k := 6) (j := (b + 5)) rfl (by decide) inG5 ⟨rfl, rfl, rfl⟩ ww_fl_X5_31 dX5_nextToServe_13 ?_
      refine B_iload_n dX5_nextToServe_16 rfl ?_
      refine B_iald (tb_5 hb) hM dX5_nextToServe_17 (fun hM => ?_)
      refine B_istore_n dX5_nextToServe_18 (Nat.le_of_ble_eq_true rfl) ?_
      refine B_aload_n dX5_nextToServe_19 rfl ?_
      refine B_iload_n dX5_nextToServe_20 rfl ?_
      refine B_aload_n dX5_nextToServe_21 rfl ?_
      refine B_getR (tb_0 hb) vc_5 (k := 7) (j := (b + 6)) rfl (by decide) inG5 ⟨rfl, rfl, rfl⟩ ww_fl_X5_34 dX5_nextToServe_22 ?_
      refine B_iload_n dX5_nextToServe_25 rfl ?_
      refine B_iald (tb_6 hb) hM dX5_nextToServe_26 (fun hM => ?_)
      refine B_aload_n dX5_nextToServe_27 rfl ?_
      refine B_getR (tb_0 hb) vc_5 (k := 8) (j := (b + 7)) rfl (by decide) inG5 ⟨rfl, rfl, rfl⟩ ww_fl_X5_37 dX5_nextToServe_28 ?_
      refine B_iload_n dX5_nextToServe_31 rfl ?_
      refine B_iald (tb_7 hb) hM dX5_nextToServe_32 (fun hM => ?_)
      refine B_cV3i (c_X5_hindrances (d := d - 1) hk_X5_hindrances hb hM) csV_X5_103 (tb_0 hb) vc_5 rfl hp0 (rm_f hk1) (rm_l hk1 (by decide)) (Nat.le_of_ble_eq_true rfl) dX5_nextToServe_33 (fun r2 h1 hM => ?_)
      refine B_if_eq dX5_nextToServe_36 hM (tgt := 42) rfl (fun hM => ?_) (fun hM => ?_)
      · refine B_aload_n dX5_nextToServe_42 rfl ?_
        refine B_iload_n dX5_nextToServe_43 rfl ?_
        refine B_aload_n dX5_nextToServe_44 rfl ?_
        refine B_getR (tb_0 hb) vc_5 (k := 7) (j := (b + 6)) rfl (by decide) inG5 ⟨rfl, rfl, rfl⟩ ww_fl_X5_34 dX5_nextToServe_45 ?_
        refine B_iload_n dX5_nextToServe_48 rfl ?_
        refine B_iald (tb_6 hb) hM dX5_nextToServe_49 (fun hM => ?_)
        refine B_cV2i (c_X5_isRaise (d := d - 1) hk_X5_isRaise hb hM) csV_X5_86 (tb_0 hb) vc_5 rfl hp0 (rm_f hk1) (rm_l hk1 (by decide)) (Nat.le_of_ble_eq_true rfl) dX5_nextToServe_50 (fun r4 h3 hM => ?_)
        refine B_if_eq dX5_nextToServe_53 hM (tgt := 58) rfl (fun hM => ?_) (fun hM => ?_)
        · refine B_iload_n dX5_nextToServe_58 rfl ?_
          refine B_if_ge dX5_nextToServe_59 hM (tgt := 64) rfl (fun hM => ?_) (fun hM => ?_)
          · exact B_wk (bw_X5_nextToServe_c64 hd hb hr4 hM) (wk_1 (wk_1 (wk_1 (wk_0 wk_n))))
          · refine B_iload_n dX5_nextToServe_62 rfl ?_
            refine B_istore_n dX5_nextToServe_63 (Nat.le_of_ble_eq_true rfl) ?_
            exact B_wk (bw_X5_nextToServe_c64 hd hb hr4 hM) (wk_1 (wk_1 (wk_1 (wk_0 wk_n))))
        · refine B_iload_n dX5_nextToServe_56 rfl ?_
          exact B_iret ⟨_, rfl, hM⟩ trivial dX5_nextToServe_57
      · refine B_goto (tgt := 64) dX5_nextToServe_39 rfl ?_
        exact B_wk (bw_X5_nextToServe_c64 hd hb hr4 hM) (wk_1 (wk_1 (wk_1 (wk_0 wk_n))))
def P_X5_nextToServe (F : Nat) (b : Nat) (h : AH) (K : Int32 → AH → Prop) : Prop := X5_nextToServe_c4 F b K F (-1 : Int32) (nI 0) h
set_option maxHeartbeats 4000000 in
theorem c_X5_nextToServe {l : Launch} {d : Nat} {F : Nat} {b : Nat} {h : AH} {K : Int32 → AH → Prop} (hd : 2 ≤ d) (hb : isTbl b) (hM : P_X5_nextToServe F b h K) : Ct l yX5_nextToServe cX5_nextToServe 4 (some .int) (rmD d) [.ref b] h (Qi K) := by
  have hk1 : 1 ≤ d := by omega
  have hk_X5_hindrances : 1 ≤ d - 1 := by omega
  have hk_X5_isRaise : 0 ≤ d - 1 := by omega
  refine Ct_ofBW (by decide) rfl (Nat.le_of_ble_eq_true rfl) ⟨rfl, rfl⟩ ?_
  show BW RX5 cX5_nextToServe 4 (some .int) l (rmD d) tb0 3 [.ref b, .null, .null, .null] [] 0 h (Qi K)
  unfold P_X5_nextToServe at hM
  refine B_iconst dX5_nextToServe_0 k_ic_m1 ?_
  refine B_istore_n dX5_nextToServe_1 (Nat.le_of_ble_eq_true rfl) ?_
  refine B_iconst dX5_nextToServe_2 k_ic_0 ?_
  refine B_istore_n dX5_nextToServe_3 (Nat.le_of_ble_eq_true rfl) ?_
  exact B_wk (bw_X5_nextToServe_c4 hd hb  _ _ _ _ hM) (wk_1 (wk_1 (wk_1 (wk_0 wk_n))))

def X5_quitLine_c37 (F : Nat) (b : Nat) (rc4 : Int32 → Int32 → Int32 → AH → Prop) (K : AH → Prop) (x1 : Int32) (x2 : Int32) (x3 : Int32) (h : AH) : Prop := rc4 x1 x2 (x3 + (nI 1)) h
set_option maxHeartbeats 4000000 in
theorem bw_X5_quitLine_c37 {l : Launch} {d : Nat} {F : Nat} {b : Nat} {rc4 : Int32 → Int32 → Int32 → AH → Prop} {K : AH → Prop} {x1 : Int32} {x2 : Int32} {x3 : Int32} {h : AH} (hd : 0 ≤ d) (hb : isTbl b) (hr4 : ∀ (x1 : Int32) (x2 : Int32) (x3 : Int32) (h : AH), rc4 x1 x2 x3 h → BW RX5 cX5_quitLine 4 none l (rmD d) tb0 3 [.ref b, .int x1, .int x2, .int x3] [] 4 h (Qv K)) (hM : X5_quitLine_c37 F b rc4 K x1 x2 x3 h) : BW RX5 cX5_quitLine 4 none l (rmD d) tb0 3 [.ref b, .int x1, .int x2, .int x3] [] 37 h (Qv K) := by
  unfold X5_quitLine_c37 at hM
  refine B_iinc dX5_quitLine_37 rfl k_ic_1 (Nat.le_of_ble_eq_true rfl) ?_
  refine B_goto (tgt := 4) dX5_quitLine_40 rfl ?_
  exact B_wk (hr4 _ _ _ _ hM) (wk_1 (wk_1 (wk_1 (wk_1 wk_n))))
def X5_quitLine_c4 (F : Nat) (b : Nat) (K : AH → Prop) (n : Nat) : Int32 → Int32 → Int32 → AH → Prop := Nat.rec (motive := fun _ => Int32 → Int32 → Int32 → AH → Prop) (fun _ _ _ _ => False) (fun _ rc4 x1 x2 x3 h => if (h b 5) ≤ x3 then ((fun (h1 : AH) => vp_in x1 6 ∧ ((fun (h2 : AH) => K h2) (up h1 (b + 7) x1.toNatClampNeg (nI 0)))) (up h b 5 x2)) else (vp_in x3 6 ∧ (if (h (b + 5) x3.toNatClampNeg) = x1 then (X5_quitLine_c37 F b rc4 K x1 x2 x3 h) else (vp_in x3 6 ∧ (vp_in x2 6 ∧ ((fun (h3 : AH) => X5_quitLine_c37 F b rc4 K x1 (x2 + (nI 1)) x3 h3) (up h (b + 5) x2.toNatClampNeg (h (b + 5) x3.toNatClampNeg)))))))) n
theorem X5_quitLine_c4_s {F : Nat} {b : Nat} {K : AH → Prop} {n : Nat} {x1 : Int32} {x2 : Int32} {x3 : Int32} {h : AH} : X5_quitLine_c4 F b K (n + 1) x1 x2 x3 h = (if (h b 5) ≤ x3 then ((fun (h1 : AH) => vp_in x1 6 ∧ ((fun (h2 : AH) => K h2) (up h1 (b + 7) x1.toNatClampNeg (nI 0)))) (up h b 5 x2)) else (vp_in x3 6 ∧ (if (h (b + 5) x3.toNatClampNeg) = x1 then (X5_quitLine_c37 F b (X5_quitLine_c4 F b K n) K x1 x2 x3 h) else (vp_in x3 6 ∧ (vp_in x2 6 ∧ ((fun (h3 : AH) => X5_quitLine_c37 F b (X5_quitLine_c4 F b K n) K x1 (x2 + (nI 1)) x3 h3) (up h (b + 5) x2.toNatClampNeg (h (b + 5) x3.toNatClampNeg)))))))) := rfl
set_option maxHeartbeats 4000000 in
theorem bw_X5_quitLine_c4 {l : Launch} {d : Nat} {F : Nat} {b : Nat} {K : AH → Prop} (hd : 0 ≤ d) (hb : isTbl b) : ∀ (n : Nat) (x1 : Int32) (x2 : Int32) (x3 : Int32) (h : AH), X5_quitLine_c4 F b K n x1 x2 x3 h → BW RX5 cX5_quitLine 4 none l (rmD d) tb0 3 [.ref b, .int x1, .int x2, .int x3] [] 4 h (Qv K) := by
  intro n
  induction n with
  | zero =>
    intro x1 x2 x3 h hM
    exact hM.elim
  | succ n hr4 =>
    intro x1 x2 x3 h hM
    rw [X5_quitLine_c4_s] at hM
    refine B_iload_n dX5_quitLine_4 rfl ?_
    refine B_aload_n dX5_quitLine_5 rfl ?_
    refine B_getI (tb_0 hb) vc_5 (k := 5) rfl (by decide) inG5 ⟨rfl, rfl, rfl⟩ ww_fl_X5_28 dX5_quitLine_6 ?_
    refine B_icmp_ge dX5_quitLine_9 hM (tgt := 43) rfl (fun hM => ?_) (fun hM => ?_)
    · refine B_aload_n dX5_quitLine_43 rfl ?_
      refine B_iload_n dX5_quitLine_44 rfl ?_
      refine B_putI (fits_I _) (tb_0 hb) vc_5 (k := 5) rfl (by decide) inG5 ⟨rfl, rfl, rfl⟩ tyX5 tyX5_ok nmX5 rfl rfl ww_fl_X5_28 dX5_quitLine_45 ?_
      refine B_aload_n dX5_quitLine_48 rfl ?_
      refine B_getR (tb_0 hb) vc_5 (k := 8) (j := (b + 7)) rfl (by decide) inG5 ⟨rfl, rfl, rfl⟩ ww_fl_X5_37 dX5_quitLine_49 ?_
      refine B_iload_n dX5_quitLine_52 rfl ?_
      refine B_iconst dX5_quitLine_53 k_ic_0 ?_
      refine B_iast (tb_7 hb) hM dX5_quitLine_54 (fun hM => ?_)
      exact B_vret ⟨rfl, hM⟩ trivial dX5_quitLine_55
    · refine B_aload_n dX5_quitLine_12 rfl ?_
      refine B_getR (tb_0 hb) vc_5 (k := 6) (j := (b + 5)) rfl (by decide) inG5 ⟨rfl, rfl, rfl⟩ ww_fl_X5_31 dX5_quitLine_13 ?_
      refine B_iload_n dX5_quitLine_16 rfl ?_
      refine B_iald (tb_5 hb) hM dX5_quitLine_17 (fun hM => ?_)
      refine B_iload_n dX5_quitLine_18 rfl ?_
      refine B_icmp_eq dX5_quitLine_19 hM (tgt := 37) rfl (fun hM => ?_) (fun hM => ?_)
      · exact B_wk (bw_X5_quitLine_c37 hd hb hr4 hM) (wk_1 (wk_1 (wk_1 (wk_1 wk_n))))
      · refine B_aload_n dX5_quitLine_22 rfl ?_
        refine B_getR (tb_0 hb) vc_5 (k := 6) (j := (b + 5)) rfl (by decide) inG5 ⟨rfl, rfl, rfl⟩ ww_fl_X5_31 dX5_quitLine_23 ?_
        refine B_iload_n dX5_quitLine_26 rfl ?_
        refine B_aload_n dX5_quitLine_27 rfl ?_
        refine B_getR (tb_0 hb) vc_5 (k := 6) (j := (b + 5)) rfl (by decide) inG5 ⟨rfl, rfl, rfl⟩ ww_fl_X5_31 dX5_quitLine_28 ?_
        refine B_iload_n dX5_quitLine_31 rfl ?_
        refine B_iald (tb_5 hb) hM dX5_quitLine_32 (fun hM => ?_)
        refine B_iast (tb_5 hb) hM dX5_quitLine_33 (fun hM => ?_)
        refine B_iinc dX5_quitLine_34 rfl k_ic_1 (Nat.le_of_ble_eq_true rfl) ?_
        exact B_wk (bw_X5_quitLine_c37 hd hb hr4 hM) (wk_1 (wk_1 (wk_1 (wk_1 wk_n))))
def P_X5_quitLine (F : Nat) (b : Nat) (a1 : Int32) (h : AH) (K : AH → Prop) : Prop := X5_quitLine_c4 F b K F a1 (nI 0) (nI 0) h
set_option maxHeartbeats 4000000 in
theorem c_X5_quitLine {l : Launch} {d : Nat} {F : Nat} {b : Nat} {a1 : Int32} {h : AH} {K : AH → Prop} (hd : 0 ≤ d) (hb : isTbl b) (hM : P_X5_quitLine F b a1 h K) : Ct l yX5_quitLine cX5_quitLine 4 none (rmD d) [.ref b, .int a1] h (Qv K) := by
  refine Ct_ofBW (by decide) rfl (Nat.le_of_ble_eq_true rfl) ⟨rfl, rfl⟩ ?_
  show BW RX5 cX5_quitLine 4 none l (rmD d) tb0 3 [.ref b, .int a1, .null, .null] [] 0 h (Qv K)
  unfold P_X5_quitLine at hM
  refine B_iconst dX5_quitLine_0 k_ic_0 ?_
  refine B_istore_n dX5_quitLine_1 (Nat.le_of_ble_eq_true rfl) ?_
  refine B_iconst dX5_quitLine_2 k_ic_0 ?_
  refine B_istore_n dX5_quitLine_3 (Nat.le_of_ble_eq_true rfl) ?_
  exact B_wk (bw_X5_quitLine_c4 hd hb  _ _ _ _ _ hM) (wk_1 (wk_1 (wk_1 (wk_1 wk_n))))
