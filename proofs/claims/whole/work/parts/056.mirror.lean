def X8_couldBe_c26 (F : Nat) (rc3 : Int32 → Int32 → Int32 → Int32 → Int32 → AH → Prop) (K : Int32 → AH → Prop) (x1 : Int32) (x2 : Int32) (x3 : Int32) (x4 : Int32) (x5 : Int32) (h : AH) : Prop := rc3 x1 x2 x3 x4 (x5 + (nI 1)) h
set_option maxHeartbeats 4000000 in
theorem bw_X8_couldBe_c26 {l : Launch} {d : Nat} {F : Nat} {rc3 : Int32 → Int32 → Int32 → Int32 → Int32 → AH → Prop} {K : Int32 → AH → Prop} {x1 : Int32} {x2 : Int32} {x3 : Int32} {x4 : Int32} {x5 : Int32} {h : AH} (hd : 6 ≤ d) (hr3 : ∀ (x1 : Int32) (x2 : Int32) (x3 : Int32) (x4 : Int32) (x5 : Int32) (h : AH), rc3 x1 x2 x3 x4 x5 h → BW RX8 cX8_couldBe 6 (some .boolean) l (rmD d) tb0 3 [.ref 56, .int x1, .int x2, .int x3, .int x4, .int x5] [] 3 h (Qi K)) (hM : X8_couldBe_c26 F rc3 K x1 x2 x3 x4 x5 h) : BW RX8 cX8_couldBe 6 (some .boolean) l (rmD d) tb0 3 [.ref 56, .int x1, .int x2, .int x3, .int x4, .int x5] [] 26 h (Qi K) := by
  have hk1 : 1 ≤ d := by omega
  have hk_X8_canBe : 5 ≤ d - 1 := by omega
  have hk_X8_emptiesOwner : 1 ≤ d - 1 := by omega
  have hk_X8_has : 0 ≤ d - 1 := by omega
  have hk_X8_laysBack : 1 ≤ d - 1 := by omega
  unfold X8_couldBe_c26 at hM
  refine B_iinc dX8_couldBe_26 rfl k_ic_1 (Nat.le_of_ble_eq_true rfl) ?_
  refine B_goto (tgt := 3) dX8_couldBe_29 rfl ?_
  exact B_wk (hr3 _ _ _ _ _ _ hM) (wk_1 (wk_1 (wk_1 (wk_1 (wk_1 (wk_1 wk_n))))))
def X8_couldBe_c3 (F : Nat) (K : Int32 → AH → Prop) (n : Nat) : Int32 → Int32 → Int32 → Int32 → Int32 → AH → Prop := Nat.rec (motive := fun _ => Int32 → Int32 → Int32 → Int32 → Int32 → AH → Prop) (fun _ _ _ _ _ _ => False) (fun _ rc3 x1 x2 x3 x4 x5 h => if (nI 6) ≤ x5 then (P_X8_canBe F x1 x2 x3 h (fun (r2 : Int32) (h1 : AH) => P_X8_laysBack F h1 (fun (h3 : AH) => zB r2 ∧ K r2 h3))) else (P_X8_has F x4 x5 h (fun (r5 : Int32) (h4 : AH) => if r5 = (nI 0) then (X8_couldBe_c26 F rc3 K x1 x2 x3 x4 x5 h4) else (P_X8_emptiesOwner F x5 h4 (fun (h6 : AH) => X8_couldBe_c26 F rc3 K x1 x2 x3 x4 x5 h6))))) n
theorem X8_couldBe_c3_s {F : Nat} {K : Int32 → AH → Prop} {n : Nat} {x1 : Int32} {x2 : Int32} {x3 : Int32} {x4 : Int32} {x5 : Int32} {h : AH} : X8_couldBe_c3 F K (n + 1) x1 x2 x3 x4 x5 h = (if (nI 6) ≤ x5 then (P_X8_canBe F x1 x2 x3 h (fun (r2 : Int32) (h1 : AH) => P_X8_laysBack F h1 (fun (h3 : AH) => zB r2 ∧ K r2 h3))) else (P_X8_has F x4 x5 h (fun (r5 : Int32) (h4 : AH) => if r5 = (nI 0) then (X8_couldBe_c26 F (X8_couldBe_c3 F K n) K x1 x2 x3 x4 x5 h4) else (P_X8_emptiesOwner F x5 h4 (fun (h6 : AH) => X8_couldBe_c26 F (X8_couldBe_c3 F K n) K x1 x2 x3 x4 x5 h6))))) := rfl
set_option maxHeartbeats 4000000 in
theorem bw_X8_couldBe_c3 {l : Launch} {d : Nat} {F : Nat} {K : Int32 → AH → Prop} (hd : 6 ≤ d) : ∀ (n : Nat) (x1 : Int32) (x2 : Int32) (x3 : Int32) (x4 : Int32) (x5 : Int32) (h : AH), X8_couldBe_c3 F K n x1 x2 x3 x4 x5 h → BW RX8 cX8_couldBe 6 (some .boolean) l (rmD d) tb0 3 [.ref 56, .int x1, .int x2, .int x3, .int x4, .int x5] [] 3 h (Qi K) := by
  have hk1 : 1 ≤ d := by omega
  have hk_X8_canBe : 5 ≤ d - 1 := by omega
  have hk_X8_emptiesOwner : 1 ≤ d - 1 := by omega
  have hk_X8_has : 0 ≤ d - 1 := by omega
  have hk_X8_laysBack : 1 ≤ d - 1 := by omega
  intro n
  induction n with
  | zero =>
    intro x1 x2 x3 x4 x5 h hM
    exact hM.elim
  | succ n hr3 =>
    intro x1 x2 x3 x4 x5 h hM
    rw [X8_couldBe_c3_s] at hM
    refine B_iload dX8_couldBe_3 rfl ?_
    refine B_bipush dX8_couldBe_5 k_bi_6 ?_
    refine B_icmp_ge dX8_couldBe_7 hM (tgt := 32) rfl (fun hM => ?_) (fun hM => ?_)
    · refine B_aload_n dX8_couldBe_32 rfl ?_
      refine B_iload_n dX8_couldBe_33 rfl ?_
      refine B_iload_n dX8_couldBe_34 rfl ?_
      refine B_iload_n dX8_couldBe_35 rfl ?_
      refine B_cV3i (c_X8_canBe (d := d - 1) hk_X8_canBe  hM) csV_X8_147 (sc_56) vc_8 rfl hp0 (rm_f hk1) (rm_l hk1 (by decide)) (Nat.le_of_ble_eq_true rfl) dX8_couldBe_36 (fun r2 h1 hM => ?_)
      refine B_istore dX8_couldBe_39 (Nat.le_of_ble_eq_true rfl) ?_
      refine B_aload_n dX8_couldBe_41 rfl ?_
      refine B_cV0v (c_X8_laysBack (d := d - 1) hk_X8_laysBack  hM) csV_X8_189 (sc_56) vc_8 rfl hp0 (rm_f hk1) (rm_l hk1 (by decide)) (Nat.le_of_ble_eq_true rfl) dX8_couldBe_42 (fun h3 hM => ?_)
      refine B_iload dX8_couldBe_45 rfl ?_
      exact B_iret ⟨_, rfl, hM.2⟩ hM.1 dX8_couldBe_47
    · refine B_iload dX8_couldBe_10 rfl ?_
      refine B_iload dX8_couldBe_12 rfl ?_
      refine B_cS2i (c_X8_has (d := d - 1) hk_X8_has  hM) csS_X8_80 hp0 (rm_f hk1) (rm_l hk1 (by decide)) (Nat.le_of_ble_eq_true rfl) dX8_couldBe_14 (fun r5 h4 hM => ?_)
      refine B_if_eq dX8_couldBe_17 hM (tgt := 26) rfl (fun hM => ?_) (fun hM => ?_)
      · exact B_wk (bw_X8_couldBe_c26 hd hr3 hM) (wk_1 (wk_1 (wk_1 (wk_1 (wk_1 (wk_1 wk_n))))))
      · refine B_aload_n dX8_couldBe_20 rfl ?_
        refine B_iload dX8_couldBe_21 rfl ?_
        refine B_cV1v (c_X8_emptiesOwner (d := d - 1) hk_X8_emptiesOwner  hM) csV_X8_156 (sc_56) vc_8 rfl hp0 (rm_f hk1) (rm_l hk1 (by decide)) (Nat.le_of_ble_eq_true rfl) dX8_couldBe_23 (fun h6 hM => ?_)
        exact B_wk (bw_X8_couldBe_c26 hd hr3 hM) (wk_1 (wk_1 (wk_1 (wk_1 (wk_1 (wk_1 wk_n))))))
def P_X8_couldBe (F : Nat) (a1 : Int32) (a2 : Int32) (a3 : Int32) (a4 : Int32) (h : AH) (K : Int32 → AH → Prop) : Prop := X8_couldBe_c3 F K F a1 a2 a3 a4 (nI 0) h
set_option maxHeartbeats 4000000 in
theorem c_X8_couldBe {l : Launch} {d : Nat} {F : Nat} {a1 : Int32} {a2 : Int32} {a3 : Int32} {a4 : Int32} {h : AH} {K : Int32 → AH → Prop} (hd : 6 ≤ d) (hM : P_X8_couldBe F a1 a2 a3 a4 h K) : Ct l yX8_couldBe cX8_couldBe 6 (some .boolean) (rmD d) [.ref 56, .int a1, .int a2, .int a3, .int a4] h (Qi K) := by
  have hk1 : 1 ≤ d := by omega
  have hk_X8_canBe : 5 ≤ d - 1 := by omega
  have hk_X8_emptiesOwner : 1 ≤ d - 1 := by omega
  have hk_X8_has : 0 ≤ d - 1 := by omega
  have hk_X8_laysBack : 1 ≤ d - 1 := by omega
  refine Ct_ofBW (by decide) rfl (Nat.le_of_ble_eq_true rfl) ⟨rfl, rfl⟩ ?_
  show BW RX8 cX8_couldBe 6 (some .boolean) l (rmD d) tb0 3 [.ref 56, .int a1, .int a2, .int a3, .int a4, .null] [] 0 h (Qi K)
  unfold P_X8_couldBe at hM
  refine B_iconst dX8_couldBe_0 k_ic_0 ?_
  refine B_istore dX8_couldBe_1 (Nat.le_of_ble_eq_true rfl) ?_
  exact B_wk (bw_X8_couldBe_c3 hd  _ _ _ _ _ _ _ hM) (wk_1 (wk_1 (wk_1 (wk_1 (wk_1 (wk_1 wk_n))))))

def X8_needs_c78 (F : Nat) (rc35 : Int32 → Int32 → Int32 → Int32 → Int32 → AH → Prop) (K : Int32 → AH → Prop) (x1 : Int32) (x2 : Int32) (x3 : Int32) (x4 : Int32) (x5 : Int32) (h : AH) : Prop := rc35 x1 x2 x3 x4 (x5 + (-1 : Int32)) h
set_option maxHeartbeats 4000000 in
theorem bw_X8_needs_c78 {l : Launch} {d : Nat} {F : Nat} {rc35 : Int32 → Int32 → Int32 → Int32 → Int32 → AH → Prop} {K : Int32 → AH → Prop} {x1 : Int32} {x2 : Int32} {x3 : Int32} {x4 : Int32} {x5 : Int32} {h : AH} (hd : 7 ≤ d) (hr35 : ∀ (x1 : Int32) (x2 : Int32) (x3 : Int32) (x4 : Int32) (x5 : Int32) (h : AH), rc35 x1 x2 x3 x4 x5 h → BW RX8 cX8_needs 6 (some .int) l (rmD d) tb0 3 [.ref 56, .int x1, .int x2, .int x3, .int x4, .int x5] [] 35 h (Qi K)) (hM : X8_needs_c78 F rc35 K x1 x2 x3 x4 x5 h) : BW RX8 cX8_needs 6 (some .int) l (rmD d) tb0 3 [.ref 56, .int x1, .int x2, .int x3, .int x4, .int x5] [] 78 h (Qi K) := by
  have hk1 : 1 ≤ d := by omega
  have hk_X8_bits : 0 ≤ d - 1 := by omega
  have hk_X8_couldBe : 6 ≤ d - 1 := by omega
  have hk_X8_has : 0 ≤ d - 1 := by omega
  have hk_X8_isAsk : 2 ≤ d - 1 := by omega
  have hk_X8_isInLine : 1 ≤ d - 1 := by omega
  have hk_X8_laysAside : 1 ≤ d - 1 := by omega
  unfold X8_needs_c78 at hM
  refine B_iinc dX8_needs_78 rfl k_ic_m1 (Nat.le_of_ble_eq_true rfl) ?_
  refine B_goto (tgt := 35) dX8_needs_81 rfl ?_
  exact B_wk (hr35 _ _ _ _ _ _ hM) (wk_1 (wk_1 (wk_1 (wk_1 (wk_1 (wk_1 wk_n))))))
def X8_needs_c35 (F : Nat) (K : Int32 → AH → Prop) (n : Nat) : Int32 → Int32 → Int32 → Int32 → Int32 → AH → Prop := Nat.rec (motive := fun _ => Int32 → Int32 → Int32 → Int32 → Int32 → AH → Prop) (fun _ _ _ _ _ _ => False) (fun _ rc35 x1 x2 x3 x4 x5 h => if x5 < (nI 0) then (if ¬ x4 = (nI 63) then (K x4 h) else (K ((nI 63) &&& (((nI 1) <<< (x1 &&& 31)) ^^^ (-1 : Int32))) h)) else (P_X8_has F x5 x1 h (fun (r2 : Int32) (h1 : AH) => if ¬ r2 = (nI 0) then (X8_needs_c78 F rc35 K x1 x2 x3 x4 x5 h1) else (P_X8_bits F x5 h1 (fun (r4 : Int32) (h3 : AH) => P_X8_bits F x4 h3 (fun (r6 : Int32) (h5 : AH) => if r6 < r4 then (X8_needs_c78 F rc35 K x1 x2 x3 x4 x5 h5) else (P_X8_couldBe F x1 x2 x3 x5 h5 (fun (r8 : Int32) (h7 : AH) => if r8 = (nI 0) then (X8_needs_c78 F rc35 K x1 x2 x3 x4 x5 h7) else (X8_needs_c78 F rc35 K x1 x2 x3 x5 x5 h7))))))))) n
theorem X8_needs_c35_s {F : Nat} {K : Int32 → AH → Prop} {n : Nat} {x1 : Int32} {x2 : Int32} {x3 : Int32} {x4 : Int32} {x5 : Int32} {h : AH} : X8_needs_c35 F K (n + 1) x1 x2 x3 x4 x5 h = (if x5 < (nI 0) then (if ¬ x4 = (nI 63) then (K x4 h) else (K ((nI 63) &&& (((nI 1) <<< (x1 &&& 31)) ^^^ (-1 : Int32))) h)) else (P_X8_has F x5 x1 h (fun (r2 : Int32) (h1 : AH) => if ¬ r2 = (nI 0) then (X8_needs_c78 F (X8_needs_c35 F K n) K x1 x2 x3 x4 x5 h1) else (P_X8_bits F x5 h1 (fun (r4 : Int32) (h3 : AH) => P_X8_bits F x4 h3 (fun (r6 : Int32) (h5 : AH) => if r6 < r4 then (X8_needs_c78 F (X8_needs_c35 F K n) K x1 x2 x3 x4 x5 h5) else (P_X8_couldBe F x1 x2 x3 x5 h5 (fun (r8 : Int32) (h7 : AH) => if r8 = (nI 0) then (X8_needs_c78 F (X8_needs_c35 F K n) K x1 x2 x3 x4 x5 h7) else (X8_needs_c78 F (X8_needs_c35 F K n) K x1 x2 x3 x5 x5 h7))))))))) := rfl
set_option maxHeartbeats 4000000 in
theorem bw_X8_needs_c35 {l : Launch} {d : Nat} {F : Nat} {K : Int32 → AH → Prop} (hd : 7 ≤ d) : ∀ (n : Nat) (x1 : Int32) (x2 : Int32) (x3 : Int32) (x4 : Int32) (x5 : Int32) (h : AH), X8_needs_c35 F K n x1 x2 x3 x4 x5 h → BW RX8 cX8_needs 6 (some .int) l (rmD d) tb0 3 [.ref 56, .int x1, .int x2, .int x3, .int x4, .int x5] [] 35 h (Qi K) := by
  have hk1 : 1 ≤ d := by omega
  have hk_X8_bits : 0 ≤ d - 1 := by omega
  have hk_X8_couldBe : 6 ≤ d - 1 := by omega
  have hk_X8_has : 0 ≤ d - 1 := by omega
  have hk_X8_isAsk : 2 ≤ d - 1 := by omega
  have hk_X8_isInLine : 1 ≤ d - 1 := by omega
  have hk_X8_laysAside : 1 ≤ d - 1 := by omega
  intro n
  induction n with
  | zero =>
    intro x1 x2 x3 x4 x5 h hM
    exact hM.elim
  | succ n hr35 =>
    intro x1 x2 x3 x4 x5 h hM
    rw [X8_needs_c35_s] at hM
    refine B_iload dX8_needs_35 rfl ?_
    refine B_if_lt dX8_needs_37 hM (tgt := 84) rfl (fun hM => ?_) (fun hM => ?_)
    · refine B_iload dX8_needs_84 rfl ?_
      refine B_bipush dX8_needs_86 k_bi_63 ?_
      refine B_icmp_ne dX8_needs_88 hM (tgt := 101) rfl (fun hM => ?_) (fun hM => ?_)
      · refine B_iload dX8_needs_101 rfl ?_
        exact B_iret ⟨_, rfl, hM⟩ trivial dX8_needs_103
      · refine B_bipush dX8_needs_91 k_bi_63 ?_
        refine B_iconst dX8_needs_93 k_ic_1 ?_
        refine B_iload_n dX8_needs_94 rfl ?_
        refine B_ishl dX8_needs_95 ?_
        refine B_iconst dX8_needs_96 k_ic_m1 ?_
        refine B_ixor dX8_needs_97 ?_
        refine B_iand dX8_needs_98 ?_
        refine B_istore dX8_needs_99 (Nat.le_of_ble_eq_true rfl) ?_
        refine B_iload dX8_needs_101 rfl ?_
        exact B_iret ⟨_, rfl, hM⟩ trivial dX8_needs_103
    · refine B_iload dX8_needs_40 rfl ?_
      refine B_iload_n dX8_needs_42 rfl ?_
      refine B_cS2i (c_X8_has (d := d - 1) hk_X8_has  hM) csS_X8_80 hp0 (rm_f hk1) (rm_l hk1 (by decide)) (Nat.le_of_ble_eq_true rfl) dX8_needs_43 (fun r2 h1 hM => ?_)
      refine B_if_ne dX8_needs_46 hM (tgt := 78) rfl (fun hM => ?_) (fun hM => ?_)
      · exact B_wk (bw_X8_needs_c78 hd hr35 hM) (wk_1 (wk_1 (wk_1 (wk_1 (wk_1 (wk_1 wk_n))))))
      · refine B_iload dX8_needs_49 rfl ?_
        refine B_cS1i (c_X8_bits (d := d - 1) hk_X8_bits  hM) csS_X8_192 hp0 (rm_f hk1) (rm_l hk1 (by decide)) (Nat.le_of_ble_eq_true rfl) dX8_needs_51 (fun r4 h3 hM => ?_)
        refine B_iload dX8_needs_54 rfl ?_
        refine B_cS1i (c_X8_bits (d := d - 1) hk_X8_bits  hM) csS_X8_192 hp0 (rm_f hk1) (rm_l hk1 (by decide)) (Nat.le_of_ble_eq_true rfl) dX8_needs_56 (fun r6 h5 hM => ?_)
        refine B_icmp_gt dX8_needs_59 hM (tgt := 78) rfl (fun hM => ?_) (fun hM => ?_)
        · exact B_wk (bw_X8_needs_c78 hd hr35 hM) (wk_1 (wk_1 (wk_1 (wk_1 (wk_1 (wk_1 wk_n))))))
        · refine B_aload_n dX8_needs_62 rfl ?_
          refine B_iload_n dX8_needs_63 rfl ?_
          refine B_iload_n dX8_needs_64 rfl ?_
          refine B_iload_n dX8_needs_65 rfl ?_
          refine B_iload dX8_needs_66 rfl ?_
          refine B_cV4i (c_X8_couldBe (d := d - 1) hk_X8_couldBe  hM) csV_X8_195 (sc_56) vc_8 rfl hp0 (rm_f hk1) (rm_l hk1 (by decide)) (Nat.le_of_ble_eq_true rfl) dX8_needs_68 (fun r8 h7 hM => ?_)
          refine B_if_eq dX8_needs_71 hM (tgt := 78) rfl (fun hM => ?_) (fun hM => ?_)
          · exact B_wk (bw_X8_needs_c78 hd hr35 hM) (wk_1 (wk_1 (wk_1 (wk_1 (wk_1 (wk_1 wk_n))))))
          · refine B_iload dX8_needs_74 rfl ?_
            refine B_istore dX8_needs_76 (Nat.le_of_ble_eq_true rfl) ?_
            exact B_wk (bw_X8_needs_c78 hd hr35 hM) (wk_1 (wk_1 (wk_1 (wk_1 (wk_1 (wk_1 wk_n))))))
def P_X8_needs (F : Nat) (a1 : Int32) (a2 : Int32) (a3 : Int32) (h : AH) (K : Int32 → AH → Prop) : Prop := P_X8_isAsk F a1 a2 a3 h (fun (r2 : Int32) (h1 : AH) => if ¬ r2 = (nI 0) then (P_X8_isInLine F a1 h1 (fun (r4 : Int32) (h3 : AH) => if r4 = (nI 0) then (P_X8_laysAside F h3 (fun (h5 : AH) => X8_needs_c35 F K F a1 a2 a3 (nI 63) (nI 62) h5)) else (K (-5 : Int32) h3))) else (K (-1 : Int32) h1))
set_option maxHeartbeats 4000000 in
theorem c_X8_needs {l : Launch} {d : Nat} {F : Nat} {a1 : Int32} {a2 : Int32} {a3 : Int32} {h : AH} {K : Int32 → AH → Prop} (hd : 7 ≤ d) (hM : P_X8_needs F a1 a2 a3 h K) : Ct l yX8_needs cX8_needs 6 (some .int) (rmD d) [.ref 56, .int a1, .int a2, .int a3] h (Qi K) := by
  have hk1 : 1 ≤ d := by omega
  have hk_X8_bits : 0 ≤ d - 1 := by omega
  have hk_X8_couldBe : 6 ≤ d - 1 := by omega
  have hk_X8_has : 0 ≤ d - 1 := by omega
  have hk_X8_isAsk : 2 ≤ d - 1 := by omega
  have hk_X8_isInLine : 1 ≤ d - 1 := by omega
  have hk_X8_laysAside : 1 ≤ d - 1 := by omega
  refine Ct_ofBW (by decide) rfl (Nat.le_of_ble_eq_true rfl) ⟨rfl, rfl⟩ ?_
  show BW RX8 cX8_needs 6 (some .int) l (rmD d) tb0 3 [.ref 56, .int a1, .int a2, .int a3, .null, .null] [] 0 h (Qi K)
  unfold P_X8_needs at hM
  refine B_aload_n dX8_needs_0 rfl ?_
  refine B_iload_n dX8_needs_1 rfl ?_
  refine B_iload_n dX8_needs_2 rfl ?_
  refine B_iload_n dX8_needs_3 rfl ?_
  refine B_cV3i (c_X8_isAsk (d := d - 1) hk_X8_isAsk  hM) csV_X8_141 (sc_56) vc_8 rfl hp0 (rm_f hk1) (rm_l hk1 (by decide)) (Nat.le_of_ble_eq_true rfl) dX8_needs_4 (fun r2 h1 hM => ?_)
  refine B_if_ne dX8_needs_7 hM (tgt := 12) rfl (fun hM => ?_) (fun hM => ?_)
  · refine B_aload_n dX8_needs_12 rfl ?_
    refine B_iload_n dX8_needs_13 rfl ?_
    refine B_cV1i (c_X8_isInLine (d := d - 1) hk_X8_isInLine  hM) csV_X8_144 (sc_56) vc_8 rfl hp0 (rm_f hk1) (rm_l hk1 (by decide)) (Nat.le_of_ble_eq_true rfl) dX8_needs_14 (fun r4 h3 hM => ?_)
    refine B_if_eq dX8_needs_17 hM (tgt := 23) rfl (fun hM => ?_) (fun hM => ?_)
    · refine B_aload_n dX8_needs_23 rfl ?_
      refine B_cV0v (c_X8_laysAside (d := d - 1) hk_X8_laysAside  hM) csV_X8_186 (sc_56) vc_8 rfl hp0 (rm_f hk1) (rm_l hk1 (by decide)) (Nat.le_of_ble_eq_true rfl) dX8_needs_24 (fun h5 hM => ?_)
      refine B_bipush dX8_needs_27 k_bi_63 ?_
      refine B_istore dX8_needs_29 (Nat.le_of_ble_eq_true rfl) ?_
      refine B_bipush dX8_needs_31 k_bi_62 ?_
      refine B_istore dX8_needs_33 (Nat.le_of_ble_eq_true rfl) ?_
      exact B_wk (bw_X8_needs_c35 hd  _ _ _ _ _ _ _ hM) (wk_1 (wk_1 (wk_1 (wk_1 (wk_1 (wk_1 wk_n))))))
    · refine B_bipush dX8_needs_20 k_bi_m5 ?_
      exact B_iret ⟨_, rfl, hM⟩ trivial dX8_needs_22
  · refine B_iconst dX8_needs_10 k_ic_m1 ?_
    exact B_iret ⟨_, rfl, hM⟩ trivial dX8_needs_11

def X8_strongest_c54 (F : Nat) (rc30 : Int32 → Int32 → Int32 → AH → Prop) (K : Int32 → AH → Prop) (x1 : Int32) (x2 : Int32) (x3 : Int32) (h : AH) : Prop := rc30 x1 x2 (x3 + (-1 : Int32)) h
set_option maxHeartbeats 4000000 in
theorem bw_X8_strongest_c54 {l : Launch} {d : Nat} {F : Nat} {rc30 : Int32 → Int32 → Int32 → AH → Prop} {K : Int32 → AH → Prop} {x1 : Int32} {x2 : Int32} {x3 : Int32} {h : AH} (hd : 6 ≤ d) (hr30 : ∀ (x1 : Int32) (x2 : Int32) (x3 : Int32) (h : AH), rc30 x1 x2 x3 h → BW RX8 cX8_strongest 4 (some .int) l (rmD d) tb0 3 [.ref 56, .int x1, .int x2, .int x3] [] 30 h (Qi K)) (hM : X8_strongest_c54 F rc30 K x1 x2 x3 h) : BW RX8 cX8_strongest 4 (some .int) l (rmD d) tb0 3 [.ref 56, .int x1, .int x2, .int x3] [] 54 h (Qi K) := by
  have hk1 : 1 ≤ d := by omega
  have hk_X8_canBe : 5 ≤ d - 1 := by omega
  have hk_X8_isAsked : 0 ≤ d - 1 := by omega
  have hk_X8_isInLine : 1 ≤ d - 1 := by omega
  have hk_X8_isOwner : 1 ≤ d - 1 := by omega
  have hk_X8_isThing : 1 ≤ d - 1 := by omega
  unfold X8_strongest_c54 at hM
  refine B_iinc dX8_strongest_54 rfl k_ic_m1 (Nat.le_of_ble_eq_true rfl) ?_
  refine B_goto (tgt := 30) dX8_strongest_57 rfl ?_
  exact B_wk (hr30 _ _ _ _ hM) (wk_1 (wk_1 (wk_1 (wk_1 wk_n))))
def X8_strongest_c30 (F : Nat) (K : Int32 → AH → Prop) (n : Nat) : Int32 → Int32 → Int32 → AH → Prop := Nat.rec (motive := fun _ => Int32 → Int32 → Int32 → AH → Prop) (fun _ _ _ _ => False) (fun _ rc30 x1 x2 x3 h => if x3 < (nI 2) then (K (-2 : Int32) h) else (P_X8_isAsked F x3 h (fun (r2 : Int32) (h1 : AH) => if r2 = (nI 0) then (X8_strongest_c54 F rc30 K x1 x2 x3 h1) else (P_X8_canBe F x1 x2 x3 h1 (fun (r4 : Int32) (h3 : AH) => if r4 = (nI 0) then (X8_strongest_c54 F rc30 K x1 x2 x3 h3) else (K x3 h3)))))) n
theorem X8_strongest_c30_s {F : Nat} {K : Int32 → AH → Prop} {n : Nat} {x1 : Int32} {x2 : Int32} {x3 : Int32} {h : AH} : X8_strongest_c30 F K (n + 1) x1 x2 x3 h = (if x3 < (nI 2) then (K (-2 : Int32) h) else (P_X8_isAsked F x3 h (fun (r2 : Int32) (h1 : AH) => if r2 = (nI 0) then (X8_strongest_c54 F (X8_strongest_c30 F K n) K x1 x2 x3 h1) else (P_X8_canBe F x1 x2 x3 h1 (fun (r4 : Int32) (h3 : AH) => if r4 = (nI 0) then (X8_strongest_c54 F (X8_strongest_c30 F K n) K x1 x2 x3 h3) else (K x3 h3)))))) := rfl
set_option maxHeartbeats 4000000 in
theorem bw_X8_strongest_c30 {l : Launch} {d : Nat} {F : Nat} {K : Int32 → AH → Prop} (hd : 6 ≤ d) : ∀ (n : Nat) (x1 : Int32) (x2 : Int32) (x3 : Int32) (h : AH), X8_strongest_c30 F K n x1 x2 x3 h → BW RX8 cX8_strongest 4 (some .int) l (rmD d) tb0 3 [.ref 56, .int x1, .int x2, .int x3] [] 30 h (Qi K) := by
  have hk1 : 1 ≤ d := by omega
  have hk_X8_canBe : 5 ≤ d - 1 := by omega
  have hk_X8_isAsked : 0 ≤ d - 1 := by omega
  have hk_X8_isInLine : 1 ≤ d - 1 := by omega
  have hk_X8_isOwner : 1 ≤ d - 1 := by omega
  have hk_X8_isThing : 1 ≤ d - 1 := by omega
  intro n
  induction n with
  | zero =>
    intro x1 x2 x3 h hM
    exact hM.elim
  | succ n hr30 =>
    intro x1 x2 x3 h hM
    rw [X8_strongest_c30_s] at hM
    refine B_iload_n dX8_strongest_30 rfl ?_
    refine B_iconst dX8_strongest_31 k_ic_2 ?_
    refine B_icmp_lt dX8_strongest_32 hM (tgt := 60) rfl (fun hM => ?_) (fun hM => ?_)
    · refine B_bipush dX8_strongest_60 k_bi_m2 ?_
      exact B_iret ⟨_, rfl, hM⟩ trivial dX8_strongest_62
    · refine B_iload_n dX8_strongest_35 rfl ?_
      refine B_cS1i (c_X8_isAsked (d := d - 1) hk_X8_isAsked  hM) csS_X8_73 hp0 (rm_f hk1) (rm_l hk1 (by decide)) (Nat.le_of_ble_eq_true rfl) dX8_strongest_36 (fun r2 h1 hM => ?_)
      refine B_if_eq dX8_strongest_39 hM (tgt := 54) rfl (fun hM => ?_) (fun hM => ?_)
      · exact B_wk (bw_X8_strongest_c54 hd hr30 hM) (wk_1 (wk_1 (wk_1 (wk_1 wk_n))))
      · refine B_aload_n dX8_strongest_42 rfl ?_
        refine B_iload_n dX8_strongest_43 rfl ?_
        refine B_iload_n dX8_strongest_44 rfl ?_
        refine B_iload_n dX8_strongest_45 rfl ?_
        refine B_cV3i (c_X8_canBe (d := d - 1) hk_X8_canBe  hM) csV_X8_147 (sc_56) vc_8 rfl hp0 (rm_f hk1) (rm_l hk1 (by decide)) (Nat.le_of_ble_eq_true rfl) dX8_strongest_46 (fun r4 h3 hM => ?_)
        refine B_if_eq dX8_strongest_49 hM (tgt := 54) rfl (fun hM => ?_) (fun hM => ?_)
        · exact B_wk (bw_X8_strongest_c54 hd hr30 hM) (wk_1 (wk_1 (wk_1 (wk_1 wk_n))))
        · refine B_iload_n dX8_strongest_52 rfl ?_
          exact B_iret ⟨_, rfl, hM⟩ trivial dX8_strongest_53
def P_X8_strongest (F : Nat) (a1 : Int32) (a2 : Int32) (h : AH) (K : Int32 → AH → Prop) : Prop := P_X8_isOwner F a1 h (fun (r2 : Int32) (h1 : AH) => if r2 = (nI 0) then (K (-1 : Int32) h1) else (P_X8_isThing F a2 h1 (fun (r4 : Int32) (h3 : AH) => if ¬ r4 = (nI 0) then (P_X8_isInLine F a1 h3 (fun (r6 : Int32) (h5 : AH) => if r6 = (nI 0) then (X8_strongest_c30 F K F a1 a2 (nI 5) h5) else (K (-5 : Int32) h5))) else (K (-1 : Int32) h3))))
set_option maxHeartbeats 4000000 in
theorem c_X8_strongest {l : Launch} {d : Nat} {F : Nat} {a1 : Int32} {a2 : Int32} {h : AH} {K : Int32 → AH → Prop} (hd : 6 ≤ d) (hM : P_X8_strongest F a1 a2 h K) : Ct l yX8_strongest cX8_strongest 4 (some .int) (rmD d) [.ref 56, .int a1, .int a2] h (Qi K) := by
  have hk1 : 1 ≤ d := by omega
  have hk_X8_canBe : 5 ≤ d - 1 := by omega
  have hk_X8_isAsked : 0 ≤ d - 1 := by omega
  have hk_X8_isInLine : 1 ≤ d - 1 := by omega
  have hk_X8_isOwner : 1 ≤ d - 1 := by omega
  have hk_X8_isThing : 1 ≤ d - 1 := by omega
  refine Ct_ofBW (by decide) rfl (Nat.le_of_ble_eq_true rfl) ⟨rfl, rfl⟩ ?_
  show BW RX8 cX8_strongest 4 (some .int) l (rmD d) tb0 3 [.ref 56, .int a1, .int a2, .null] [] 0 h (Qi K)
  unfold P_X8_strongest at hM
  refine B_iload_n dX8_strongest_0 rfl ?_
  refine B_cS1i (c_X8_isOwner (d := d - 1) hk_X8_isOwner  hM) csS_X8_66 hp0 (rm_f hk1) (rm_l hk1 (by decide)) (Nat.le_of_ble_eq_true rfl) dX8_strongest_1 (fun r2 h1 hM => ?_)
  refine B_if_eq dX8_strongest_4 hM (tgt := 15) rfl (fun hM => ?_) (fun hM => ?_)
  · refine B_iconst dX8_strongest_15 k_ic_m1 ?_
    exact B_iret ⟨_, rfl, hM⟩ trivial dX8_strongest_16
  · refine B_aload_n dX8_strongest_7 rfl ?_
    refine B_iload_n dX8_strongest_8 rfl ?_
    refine B_cV1i (c_X8_isThing (d := d - 1) hk_X8_isThing  hM) csV_X8_70 (sc_56) vc_8 rfl hp0 (rm_f hk1) (rm_l hk1 (by decide)) (Nat.le_of_ble_eq_true rfl) dX8_strongest_9 (fun r4 h3 hM => ?_)
    refine B_if_ne dX8_strongest_12 hM (tgt := 17) rfl (fun hM => ?_) (fun hM => ?_)
    · refine B_aload_n dX8_strongest_17 rfl ?_
      refine B_iload_n dX8_strongest_18 rfl ?_
      refine B_cV1i (c_X8_isInLine (d := d - 1) hk_X8_isInLine  hM) csV_X8_144 (sc_56) vc_8 rfl hp0 (rm_f hk1) (rm_l hk1 (by decide)) (Nat.le_of_ble_eq_true rfl) dX8_strongest_19 (fun r6 h5 hM => ?_)
      refine B_if_eq dX8_strongest_22 hM (tgt := 28) rfl (fun hM => ?_) (fun hM => ?_)
      · refine B_iconst dX8_strongest_28 k_ic_5 ?_
        refine B_istore_n dX8_strongest_29 (Nat.le_of_ble_eq_true rfl) ?_
        exact B_wk (bw_X8_strongest_c30 hd  _ _ _ _ _ hM) (wk_1 (wk_1 (wk_1 (wk_1 wk_n))))
      · refine B_bipush dX8_strongest_25 k_bi_m5 ?_
        exact B_iret ⟨_, rfl, hM⟩ trivial dX8_strongest_27
    · refine B_iconst dX8_strongest_15 k_ic_m1 ?_
      exact B_iret ⟨_, rfl, hM⟩ trivial dX8_strongest_16

def P_X8_plan (F : Nat) (a1 : Int32) (a2 : Int32) (a3 : Int32) (h : AH) (K : Int32 → AH → Prop) : Prop := if ¬ a1 = (-1 : Int32) then (P_X8_isAsk F a1 a2 a3 h (fun (r2 : Int32) (h1 : AH) => if ¬ r2 = (nI 0) then (vp_in (nI 44) 441 ∧ (if ¬ (h1 57 (nI 44).toNatClampNeg) = (nI 12) then (vp_in (nI 44) 441 ∧ (vp_in ((nI 45) + ((nI 3) * (h1 57 (nI 44).toNatClampNeg))) 441 ∧ ((fun (h3 : AH) => vp_in (((nI 45) + ((nI 3) * (h1 57 (nI 44).toNatClampNeg))) + (nI 1)) 441 ∧ ((fun (h4 : AH) => vp_in (((nI 45) + ((nI 3) * (h1 57 (nI 44).toNatClampNeg))) + (nI 2)) 441 ∧ ((fun (h5 : AH) => vp_in (nI 44) 441 ∧ (vp_in (nI 44) 441 ∧ ((fun (h6 : AH) => vp_in (nI 44) 441 ∧ (K (h6 57 (nI 44).toNatClampNeg) h6)) (up h5 57 (nI 44).toNatClampNeg ((h5 57 (nI 44).toNatClampNeg) + (nI 1)))))) (up h4 57 (((nI 45) + ((nI 3) * (h1 57 (nI 44).toNatClampNeg))) + (nI 2)).toNatClampNeg a3))) (up h3 57 (((nI 45) + ((nI 3) * (h1 57 (nI 44).toNatClampNeg))) + (nI 1)).toNatClampNeg a2))) (up h1 57 ((nI 45) + ((nI 3) * (h1 57 (nI 44).toNatClampNeg))).toNatClampNeg a1)))) else (K (-3 : Int32) h1))) else (K (-1 : Int32) h1))) else (vp_in (nI 44) 441 ∧ ((fun (h7 : AH) => K (nI 0) h7) (up h 57 (nI 44).toNatClampNeg (nI 0))))
set_option maxHeartbeats 4000000 in
theorem c_X8_plan {l : Launch} {d : Nat} {F : Nat} {a1 : Int32} {a2 : Int32} {a3 : Int32} {h : AH} {K : Int32 → AH → Prop} (hd : 3 ≤ d) (hM : P_X8_plan F a1 a2 a3 h K) : Ct l yX8_plan cX8_plan 5 (some .int) (rmD d) [.ref 56, .int a1, .int a2, .int a3] h (Qi K) := by
  have hk1 : 1 ≤ d := by omega
  have hk_X8_isAsk : 2 ≤ d - 1 := by omega
  refine Ct_ofBW (by decide) rfl (Nat.le_of_ble_eq_true rfl) ⟨rfl, rfl⟩ ?_
  show BW RX8 cX8_plan 5 (some .int) l (rmD d) tb0 3 [.ref 56, .int a1, .int a2, .int a3, .null] [] 0 h (Qi K)
  unfold P_X8_plan at hM
  refine B_iload_n dX8_plan_0 rfl ?_
  refine B_iconst dX8_plan_1 k_ic_m1 ?_
  refine B_icmp_ne dX8_plan_2 hM (tgt := 15) rfl (fun hM => ?_) (fun hM => ?_)
  · refine B_aload_n dX8_plan_15 rfl ?_
    refine B_iload_n dX8_plan_16 rfl ?_
    refine B_iload_n dX8_plan_17 rfl ?_
    refine B_iload_n dX8_plan_18 rfl ?_
    refine B_cV3i (c_X8_isAsk (d := d - 1) hk_X8_isAsk  hM) csV_X8_141 (sc_56) vc_8 rfl hp0 (rm_f hk1) (rm_l hk1 (by decide)) (Nat.le_of_ble_eq_true rfl) dX8_plan_19 (fun r2 h1 hM => ?_)
    refine B_if_ne dX8_plan_22 hM (tgt := 27) rfl (fun hM => ?_) (fun hM => ?_)
    · refine B_aload_n dX8_plan_27 rfl ?_
      refine B_getR (sc_56) vc_8 (k := 1) (j := 57) rfl (by decide) inG8 ⟨rfl, rfl, rfl⟩ ww_fl_X8_15 dX8_plan_28 ?_
      refine B_bipush dX8_plan_31 k_bi_44 ?_
      refine B_iald (sc_57) hM dX8_plan_33 (fun hM => ?_)
      refine B_bipush dX8_plan_34 k_bi_12 ?_
      refine B_icmp_ne dX8_plan_36 hM (tgt := 42) rfl (fun hM => ?_) (fun hM => ?_)
      · refine B_bipush dX8_plan_42 k_bi_45 ?_
        refine B_iconst dX8_plan_44 k_ic_3 ?_
        refine B_aload_n dX8_plan_45 rfl ?_
        refine B_getR (sc_56) vc_8 (k := 1) (j := 57) rfl (by decide) inG8 ⟨rfl, rfl, rfl⟩ ww_fl_X8_15 dX8_plan_46 ?_
        refine B_bipush dX8_plan_49 k_bi_44 ?_
        refine B_iald (sc_57) hM dX8_plan_51 (fun hM => ?_)
        refine B_imul dX8_plan_52 ?_
        refine B_iadd dX8_plan_53 ?_
        refine B_istore dX8_plan_54 (Nat.le_of_ble_eq_true rfl) ?_
        refine B_aload_n dX8_plan_56 rfl ?_
        refine B_getR (sc_56) vc_8 (k := 1) (j := 57) rfl (by decide) inG8 ⟨rfl, rfl, rfl⟩ ww_fl_X8_15 dX8_plan_57 ?_
        refine B_iload dX8_plan_60 rfl ?_
        refine B_iload_n dX8_plan_62 rfl ?_
        refine B_iast (sc_57) hM dX8_plan_63 (fun hM => ?_)
        refine B_aload_n dX8_plan_64 rfl ?_
        refine B_getR (sc_56) vc_8 (k := 1) (j := 57) rfl (by decide) inG8 ⟨rfl, rfl, rfl⟩ ww_fl_X8_15 dX8_plan_65 ?_
        refine B_iload dX8_plan_68 rfl ?_
        refine B_iconst dX8_plan_70 k_ic_1 ?_
        refine B_iadd dX8_plan_71 ?_
        refine B_iload_n dX8_plan_72 rfl ?_
        refine B_iast (sc_57) hM dX8_plan_73 (fun hM => ?_)
        refine B_aload_n dX8_plan_74 rfl ?_
        refine B_getR (sc_56) vc_8 (k := 1) (j := 57) rfl (by decide) inG8 ⟨rfl, rfl, rfl⟩ ww_fl_X8_15 dX8_plan_75 ?_
        refine B_iload dX8_plan_78 rfl ?_
        refine B_iconst dX8_plan_80 k_ic_2 ?_
        refine B_iadd dX8_plan_81 ?_
        refine B_iload_n dX8_plan_82 rfl ?_
        refine B_iast (sc_57) hM dX8_plan_83 (fun hM => ?_)
        refine B_aload_n dX8_plan_84 rfl ?_
        refine B_getR (sc_56) vc_8 (k := 1) (j := 57) rfl (by decide) inG8 ⟨rfl, rfl, rfl⟩ ww_fl_X8_15 dX8_plan_85 ?_
        refine B_bipush dX8_plan_88 k_bi_44 ?_
        refine B_dup2 dX8_plan_90 ?_
        refine B_iald (sc_57) hM dX8_plan_91 (fun hM => ?_)
        refine B_iconst dX8_plan_92 k_ic_1 ?_
        refine B_iadd dX8_plan_93 ?_
        refine B_iast (sc_57) hM dX8_plan_94 (fun hM => ?_)
        refine B_aload_n dX8_plan_95 rfl ?_
        refine B_getR (sc_56) vc_8 (k := 1) (j := 57) rfl (by decide) inG8 ⟨rfl, rfl, rfl⟩ ww_fl_X8_15 dX8_plan_96 ?_
        refine B_bipush dX8_plan_99 k_bi_44 ?_
        refine B_iald (sc_57) hM dX8_plan_101 (fun hM => ?_)
        exact B_iret ⟨_, rfl, hM⟩ trivial dX8_plan_102
      · refine B_bipush dX8_plan_39 k_bi_m3 ?_
        exact B_iret ⟨_, rfl, hM⟩ trivial dX8_plan_41
    · refine B_iconst dX8_plan_25 k_ic_m1 ?_
      exact B_iret ⟨_, rfl, hM⟩ trivial dX8_plan_26
  · refine B_aload_n dX8_plan_5 rfl ?_
    refine B_getR (sc_56) vc_8 (k := 1) (j := 57) rfl (by decide) inG8 ⟨rfl, rfl, rfl⟩ ww_fl_X8_15 dX8_plan_6 ?_
    refine B_bipush dX8_plan_9 k_bi_44 ?_
    refine B_iconst dX8_plan_11 k_ic_0 ?_
    refine B_iast (sc_57) hM dX8_plan_12 (fun hM => ?_)
    refine B_iconst dX8_plan_13 k_ic_0 ?_
    exact B_iret ⟨_, rfl, hM⟩ trivial dX8_plan_14

def X8_rowFrom_c2 (F : Nat) (K : Int32 → AH → Prop) (n : Nat) : Int32 → Int32 → AH → Prop := Nat.rec (motive := fun _ => Int32 → Int32 → AH → Prop) (fun _ _ _ => False) (fun _ rc2 x1 x3 h => vp_in (nI 44) 441 ∧ (if (h 57 (nI 44).toNatClampNeg) ≤ x3 then (K (-1 : Int32) h) else (vp_in ((nI 45) + ((nI 3) * x3)) 441 ∧ (if ¬ (h 57 ((nI 45) + ((nI 3) * x3)).toNatClampNeg) = x1 then (rc2 x1 (x3 + (nI 1)) h) else (K x3 h))))) n
theorem X8_rowFrom_c2_s {F : Nat} {K : Int32 → AH → Prop} {n : Nat} {x1 : Int32} {x3 : Int32} {h : AH} : X8_rowFrom_c2 F K (n + 1) x1 x3 h = (vp_in (nI 44) 441 ∧ (if (h 57 (nI 44).toNatClampNeg) ≤ x3 then (K (-1 : Int32) h) else (vp_in ((nI 45) + ((nI 3) * x3)) 441 ∧ (if ¬ (h 57 ((nI 45) + ((nI 3) * x3)).toNatClampNeg) = x1 then ((X8_rowFrom_c2 F K n) x1 (x3 + (nI 1)) h) else (K x3 h))))) := rfl
set_option maxHeartbeats 4000000 in
theorem bw_X8_rowFrom_c2 {l : Launch} {d : Nat} {F : Nat} {K : Int32 → AH → Prop} (hd : 0 ≤ d) : ∀ (n : Nat) (x1 : Int32) (x3 : Int32) (h : AH), X8_rowFrom_c2 F K n x1 x3 h → BW RX8 cX8_rowFrom 4 (some .int) l (rmD d) tb0 3 [.ref 56, .int x1, .null, .int x3] [] 2 h (Qi K) := by
  intro n
  induction n with
  | zero =>
    intro x1 x3 h hM
    exact hM.elim
  | succ n hr2 =>
    intro x1 x3 h hM
    rw [X8_rowFrom_c2_s] at hM
    refine B_iload_n dX8_rowFrom_2 rfl ?_
    refine B_aload_n dX8_rowFrom_3 rfl ?_
    refine B_getR (sc_56) vc_8 (k := 1) (j := 57) rfl (by decide) inG8 ⟨rfl, rfl, rfl⟩ ww_fl_X8_15 dX8_rowFrom_4 ?_
    refine B_bipush dX8_rowFrom_7 k_bi_44 ?_
    refine B_iald (sc_57) hM dX8_rowFrom_9 (fun hM => ?_)
    refine B_icmp_ge dX8_rowFrom_10 hM (tgt := 36) rfl (fun hM => ?_) (fun hM => ?_)
    · refine B_iconst dX8_rowFrom_36 k_ic_m1 ?_
      exact B_iret ⟨_, rfl, hM⟩ trivial dX8_rowFrom_37
    · refine B_aload_n dX8_rowFrom_13 rfl ?_
      refine B_getR (sc_56) vc_8 (k := 1) (j := 57) rfl (by decide) inG8 ⟨rfl, rfl, rfl⟩ ww_fl_X8_15 dX8_rowFrom_14 ?_
      refine B_bipush dX8_rowFrom_17 k_bi_45 ?_
      refine B_iconst dX8_rowFrom_19 k_ic_3 ?_
      refine B_iload_n dX8_rowFrom_20 rfl ?_
      refine B_imul dX8_rowFrom_21 ?_
      refine B_iadd dX8_rowFrom_22 ?_
      refine B_iald (sc_57) hM dX8_rowFrom_23 (fun hM => ?_)
      refine B_iload_n dX8_rowFrom_24 rfl ?_
      refine B_icmp_ne dX8_rowFrom_25 hM (tgt := 30) rfl (fun hM => ?_) (fun hM => ?_)
      · refine B_iinc dX8_rowFrom_30 rfl k_ic_1 (Nat.le_of_ble_eq_true rfl) ?_
        refine B_goto (tgt := 2) dX8_rowFrom_33 rfl ?_
        exact B_wk (hr2 _ _ _ hM) (wk_1 (wk_1 (wk_0 (wk_1 wk_n))))
      · refine B_iload_n dX8_rowFrom_28 rfl ?_
        exact B_iret ⟨_, rfl, hM⟩ trivial dX8_rowFrom_29
def P_X8_rowFrom (F : Nat) (a1 : Int32) (a2 : Int32) (h : AH) (K : Int32 → AH → Prop) : Prop := X8_rowFrom_c2 F K F a1 a2 h
set_option maxHeartbeats 4000000 in
theorem c_X8_rowFrom {l : Launch} {d : Nat} {F : Nat} {a1 : Int32} {a2 : Int32} {h : AH} {K : Int32 → AH → Prop} (hd : 0 ≤ d) (hM : P_X8_rowFrom F a1 a2 h K) : Ct l yX8_rowFrom cX8_rowFrom 4 (some .int) (rmD d) [.ref 56, .int a1, .int a2] h (Qi K) := by
  refine Ct_ofBW (by decide) rfl (Nat.le_of_ble_eq_true rfl) ⟨rfl, rfl⟩ ?_
  show BW RX8 cX8_rowFrom 4 (some .int) l (rmD d) tb0 3 [.ref 56, .int a1, .int a2, .null] [] 0 h (Qi K)
  unfold P_X8_rowFrom at hM
  refine B_iload_n dX8_rowFrom_0 rfl ?_
  refine B_istore_n dX8_rowFrom_1 (Nat.le_of_ble_eq_true rfl) ?_
  exact B_wk (bw_X8_rowFrom_c2 hd  _ _ _ _ hM) (wk_1 (wk_1 (wk_0 (wk_1 wk_n))))

def P_X8_goesOn (F : Nat) (a1 : Int32) (h : AH) (K : AH → Prop) : Prop := vp_in a1 6 ∧ (P_X8_rowFrom F a1 (h 63 a1.toNatClampNeg) h (fun (r2 : Int32) (h1 : AH) => if ¬ r2 = (-1 : Int32) then (vp_in a1 6 ∧ ((fun (h3 : AH) => vp_in (((nI 45) + ((nI 3) * r2)) + (nI 1)) 441 ∧ (vp_in (((nI 45) + ((nI 3) * r2)) + (nI 2)) 441 ∧ (P_X8_ask F a1 (h3 57 (((nI 45) + ((nI 3) * r2)) + (nI 1)).toNatClampNeg) (h3 57 (((nI 45) + ((nI 3) * r2)) + (nI 2)).toNatClampNeg) h3 (fun (r5 : Int32) (h4 : AH) => K h4)))) (up h1 63 a1.toNatClampNeg (r2 + (nI 1))))) else (P_X8_leavesAll F a1 h1 (fun (r7 : Int32) (h6 : AH) => (fun (h8 : AH) => K h8) (up h6 56 10 ((h6 56 10) ||| ((nI 1) <<< (a1 &&& 31))))))))
set_option maxHeartbeats 4000000 in
theorem c_X8_goesOn {l : Launch} {d : Nat} {F : Nat} {a1 : Int32} {h : AH} {K : AH → Prop} (hd : 9 ≤ d) (hM : P_X8_goesOn F a1 h K) : Ct l yX8_goesOn cX8_goesOn 3 none (rmD d) [.ref 56, .int a1] h (Qv K) := by
  have hk1 : 1 ≤ d := by omega
  have hk_X8_ask : 6 ≤ d - 1 := by omega
  have hk_X8_leavesAll : 8 ≤ d - 1 := by omega
  have hk_X8_rowFrom : 0 ≤ d - 1 := by omega
  refine Ct_ofBW (by decide) rfl (Nat.le_of_ble_eq_true rfl) ⟨rfl, rfl⟩ ?_
  show BW RX8 cX8_goesOn 3 none l (rmD d) tb0 3 [.ref 56, .int a1, .null] [] 0 h (Qv K)
  unfold P_X8_goesOn at hM
  refine B_aload_n dX8_goesOn_0 rfl ?_
  refine B_iload_n dX8_goesOn_1 rfl ?_
  refine B_aload_n dX8_goesOn_2 rfl ?_
  refine B_getR (sc_56) vc_8 (k := 9) (j := 63) rfl (by decide) inG8 ⟨rfl, rfl, rfl⟩ ww_fl_X8_34 dX8_goesOn_3 ?_
  refine B_iload_n dX8_goesOn_6 rfl ?_
  refine B_iald (sc_63) hM dX8_goesOn_7 (fun hM => ?_)
  refine B_cV2i (c_X8_rowFrom (d := d - 1) hk_X8_rowFrom  hM) csV_X8_199 (sc_56) vc_8 rfl hp0 (rm_f hk1) (rm_l hk1 (by decide)) (Nat.le_of_ble_eq_true rfl) dX8_goesOn_8 (fun r2 h1 hM => ?_)
  refine B_istore_n dX8_goesOn_11 (Nat.le_of_ble_eq_true rfl) ?_
  refine B_iload_n dX8_goesOn_12 rfl ?_
  refine B_iconst dX8_goesOn_13 k_ic_m1 ?_
  refine B_icmp_ne dX8_goesOn_14 hM (tgt := 36) rfl (fun hM => ?_) (fun hM => ?_)
  · refine B_aload_n dX8_goesOn_36 rfl ?_
    refine B_getR (sc_56) vc_8 (k := 9) (j := 63) rfl (by decide) inG8 ⟨rfl, rfl, rfl⟩ ww_fl_X8_34 dX8_goesOn_37 ?_
    refine B_iload_n dX8_goesOn_40 rfl ?_
    refine B_iload_n dX8_goesOn_41 rfl ?_
    refine B_iconst dX8_goesOn_42 k_ic_1 ?_
    refine B_iadd dX8_goesOn_43 ?_
    refine B_iast (sc_63) hM dX8_goesOn_44 (fun hM => ?_)
    refine B_aload_n dX8_goesOn_45 rfl ?_
    refine B_iload_n dX8_goesOn_46 rfl ?_
    refine B_aload_n dX8_goesOn_47 rfl ?_
    refine B_getR (sc_56) vc_8 (k := 1) (j := 57) rfl (by decide) inG8 ⟨rfl, rfl, rfl⟩ ww_fl_X8_15 dX8_goesOn_48 ?_
    refine B_bipush dX8_goesOn_51 k_bi_45 ?_
    refine B_iconst dX8_goesOn_53 k_ic_3 ?_
    refine B_iload_n dX8_goesOn_54 rfl ?_
    refine B_imul dX8_goesOn_55 ?_
    refine B_iadd dX8_goesOn_56 ?_
    refine B_iconst dX8_goesOn_57 k_ic_1 ?_
    refine B_iadd dX8_goesOn_58 ?_
    refine B_iald (sc_57) hM dX8_goesOn_59 (fun hM => ?_)
    refine B_aload_n dX8_goesOn_60 rfl ?_
    refine B_getR (sc_56) vc_8 (k := 1) (j := 57) rfl (by decide) inG8 ⟨rfl, rfl, rfl⟩ ww_fl_X8_15 dX8_goesOn_61 ?_
    refine B_bipush dX8_goesOn_64 k_bi_45 ?_
    refine B_iconst dX8_goesOn_66 k_ic_3 ?_
    refine B_iload_n dX8_goesOn_67 rfl ?_
    refine B_imul dX8_goesOn_68 ?_
    refine B_iadd dX8_goesOn_69 ?_
    refine B_iconst dX8_goesOn_70 k_ic_2 ?_
    refine B_iadd dX8_goesOn_71 ?_
    refine B_iald (sc_57) hM dX8_goesOn_72 (fun hM => ?_)
    refine B_cV3i (c_X8_ask (d := d - 1) hk_X8_ask  hM) csV_X8_206 (sc_56) vc_8 rfl hp0 (rm_f hk1) (rm_l hk1 (by decide)) (Nat.le_of_ble_eq_true rfl) dX8_goesOn_73 (fun r5 h4 hM => ?_)
    refine B_popI dX8_goesOn_76 ?_
    exact B_vret ⟨rfl, hM⟩ trivial dX8_goesOn_77
  · refine B_aload_n dX8_goesOn_17 rfl ?_
    refine B_iload_n dX8_goesOn_18 rfl ?_
    refine B_cV1i (c_X8_leavesAll (d := d - 1) hk_X8_leavesAll  hM) csV_X8_159 (sc_56) vc_8 rfl hp0 (rm_f hk1) (rm_l hk1 (by decide)) (Nat.le_of_ble_eq_true rfl) dX8_goesOn_19 (fun r7 h6 hM => ?_)
    refine B_popI dX8_goesOn_22 ?_
    refine B_aload_n dX8_goesOn_23 rfl ?_
    refine B_dupR dX8_goesOn_24 ?_
    refine B_getI (sc_56) vc_8 (k := 10) rfl (by decide) inG8 ⟨rfl, rfl, rfl⟩ ww_fl_X8_203 dX8_goesOn_25 ?_
    refine B_iconst dX8_goesOn_28 k_ic_1 ?_
    refine B_iload_n dX8_goesOn_29 rfl ?_
    refine B_ishl dX8_goesOn_30 ?_
    refine B_ior dX8_goesOn_31 ?_
    refine B_putI (fits_I _) (sc_56) vc_8 (k := 10) rfl (by decide) inG8 ⟨rfl, rfl, rfl⟩ tyX8 tyX8_ok nmX8 rfl rfl ww_fl_X8_203 dX8_goesOn_32 ?_
    exact B_vret ⟨rfl, hM⟩ trivial dX8_goesOn_35

def X8_round_c39 (F : Nat) (rc2 : Int32 → AH → Prop) (K : AH → Prop) (x1 : Int32) (h : AH) : Prop := rc2 (x1 + (nI 1)) h
set_option maxHeartbeats 4000000 in
theorem bw_X8_round_c39 {l : Launch} {d : Nat} {F : Nat} {rc2 : Int32 → AH → Prop} {K : AH → Prop} {x1 : Int32} {h : AH} (hd : 10 ≤ d) (hr2 : ∀ (x1 : Int32) (h : AH), rc2 x1 h → BW RX8 cX8_round 2 none l (rmD d) tb0 3 [.ref 56, .int x1] [] 2 h (Qv K)) (hM : X8_round_c39 F rc2 K x1 h) : BW RX8 cX8_round 2 none l (rmD d) tb0 3 [.ref 56, .int x1] [] 39 h (Qv K) := by
  have hk1 : 1 ≤ d := by omega
  have hk_X8_goesOn : 9 ≤ d - 1 := by omega
  have hk_X8_has : 0 ≤ d - 1 := by omega
  have hk_X8_isInLine : 1 ≤ d - 1 := by omega
  have hk_X8_leastOf : 2 ≤ d - 1 := by omega
  have hk_X8_leavesAll : 8 ≤ d - 1 := by omega
  have hk_X8_ringNow : 8 ≤ d - 1 := by omega
  unfold X8_round_c39 at hM
  refine B_iinc dX8_round_39 rfl k_ic_1 (Nat.le_of_ble_eq_true rfl) ?_
  refine B_goto (tgt := 2) dX8_round_42 rfl ?_
  exact B_wk (hr2 _ _ hM) (wk_1 (wk_1 wk_n))
def X8_round_c2 (F : Nat) (K : AH → Prop) (n : Nat) : Int32 → AH → Prop := Nat.rec (motive := fun _ => Int32 → AH → Prop) (fun _ _ => False) (fun _ rc2 x1 h => if (nI 6) ≤ x1 then (P_X8_ringNow F h (fun (r2 : Int32) (h1 : AH) => P_X8_leastOf F r2 h1 (fun (r4 : Int32) (h3 : AH) => if r4 = (-2 : Int32) then (K h3) else (P_X8_leavesAll F r4 h3 (fun (r6 : Int32) (h5 : AH) => (fun (h7 : AH) => K h7) (up h5 56 12 ((h5 56 12) + (nI 1)))))))) else (P_X8_has F ((h 56 11) &&& ((h 56 10) ^^^ (-1 : Int32))) x1 h (fun (r9 : Int32) (h8 : AH) => if r9 = (nI 0) then (X8_round_c39 F rc2 K x1 h8) else (P_X8_isInLine F x1 h8 (fun (r11 : Int32) (h10 : AH) => if ¬ r11 = (nI 0) then (X8_round_c39 F rc2 K x1 h10) else (P_X8_goesOn F x1 h10 (fun (h12 : AH) => X8_round_c39 F rc2 K x1 h12))))))) n
theorem X8_round_c2_s {F : Nat} {K : AH → Prop} {n : Nat} {x1 : Int32} {h : AH} : X8_round_c2 F K (n + 1) x1 h = (if (nI 6) ≤ x1 then (P_X8_ringNow F h (fun (r2 : Int32) (h1 : AH) => P_X8_leastOf F r2 h1 (fun (r4 : Int32) (h3 : AH) => if r4 = (-2 : Int32) then (K h3) else (P_X8_leavesAll F r4 h3 (fun (r6 : Int32) (h5 : AH) => (fun (h7 : AH) => K h7) (up h5 56 12 ((h5 56 12) + (nI 1)))))))) else (P_X8_has F ((h 56 11) &&& ((h 56 10) ^^^ (-1 : Int32))) x1 h (fun (r9 : Int32) (h8 : AH) => if r9 = (nI 0) then (X8_round_c39 F (X8_round_c2 F K n) K x1 h8) else (P_X8_isInLine F x1 h8 (fun (r11 : Int32) (h10 : AH) => if ¬ r11 = (nI 0) then (X8_round_c39 F (X8_round_c2 F K n) K x1 h10) else (P_X8_goesOn F x1 h10 (fun (h12 : AH) => X8_round_c39 F (X8_round_c2 F K n) K x1 h12))))))) := rfl
set_option maxHeartbeats 4000000 in
theorem bw_X8_round_c2 {l : Launch} {d : Nat} {F : Nat} {K : AH → Prop} (hd : 10 ≤ d) : ∀ (n : Nat) (x1 : Int32) (h : AH), X8_round_c2 F K n x1 h → BW RX8 cX8_round 2 none l (rmD d) tb0 3 [.ref 56, .int x1] [] 2 h (Qv K) := by
  have hk1 : 1 ≤ d := by omega
  have hk_X8_goesOn : 9 ≤ d - 1 := by omega
  have hk_X8_has : 0 ≤ d - 1 := by omega
  have hk_X8_isInLine : 1 ≤ d - 1 := by omega
  have hk_X8_leastOf : 2 ≤ d - 1 := by omega
  have hk_X8_leavesAll : 8 ≤ d - 1 := by omega
  have hk_X8_ringNow : 8 ≤ d - 1 := by omega
  intro n
  induction n with
  | zero =>
    intro x1 h hM
    exact hM.elim
  | succ n hr2 =>
    intro x1 h hM
    rw [X8_round_c2_s] at hM
    refine B_iload_n dX8_round_2 rfl ?_
    refine B_bipush dX8_round_3 k_bi_6 ?_
    refine B_icmp_ge dX8_round_5 hM (tgt := 45) rfl (fun hM => ?_) (fun hM => ?_)
    · refine B_aload_n dX8_round_45 rfl ?_
      refine B_aload_n dX8_round_46 rfl ?_
      refine B_cV0i (c_X8_ringNow (d := d - 1) hk_X8_ringNow  hM) csV_X8_171 (sc_56) vc_8 rfl hp0 (rm_f hk1) (rm_l hk1 (by decide)) (Nat.le_of_ble_eq_true rfl) dX8_round_47 (fun r2 h1 hM => ?_)
      refine B_cV1i (c_X8_leastOf (d := d - 1) hk_X8_leastOf  hM) csV_X8_174 (sc_56) vc_8 rfl hp0 (rm_f hk1) (rm_l hk1 (by decide)) (Nat.le_of_ble_eq_true rfl) dX8_round_50 (fun r4 h3 hM => ?_)
      refine B_istore_n dX8_round_53 (Nat.le_of_ble_eq_true rfl) ?_
      refine B_iload_n dX8_round_54 rfl ?_
      refine B_bipush dX8_round_55 k_bi_m2 ?_
      refine B_icmp_eq dX8_round_57 hM (tgt := 76) rfl (fun hM => ?_) (fun hM => ?_)
      · exact B_vret ⟨rfl, hM⟩ trivial dX8_round_76
      · refine B_aload_n dX8_round_60 rfl ?_
        refine B_iload_n dX8_round_61 rfl ?_
        refine B_cV1i (c_X8_leavesAll (d := d - 1) hk_X8_leavesAll  hM) csV_X8_159 (sc_56) vc_8 rfl hp0 (rm_f hk1) (rm_l hk1 (by decide)) (Nat.le_of_ble_eq_true rfl) dX8_round_62 (fun r6 h5 hM => ?_)
        refine B_popI dX8_round_65 ?_
        refine B_aload_n dX8_round_66 rfl ?_
        refine B_dupR dX8_round_67 ?_
        refine B_getI (sc_56) vc_8 (k := 12) rfl (by decide) inG8 ⟨rfl, rfl, rfl⟩ ww_fl_X8_215 dX8_round_68 ?_
        refine B_iconst dX8_round_71 k_ic_1 ?_
        refine B_iadd dX8_round_72 ?_
        refine B_putI (fits_I _) (sc_56) vc_8 (k := 12) rfl (by decide) inG8 ⟨rfl, rfl, rfl⟩ tyX8 tyX8_ok nmX8 rfl rfl ww_fl_X8_215 dX8_round_73 ?_
        exact B_vret ⟨rfl, hM⟩ trivial dX8_round_76
    · refine B_aload_n dX8_round_8 rfl ?_
      refine B_getI (sc_56) vc_8 (k := 11) rfl (by decide) inG8 ⟨rfl, rfl, rfl⟩ ww_fl_X8_209 dX8_round_9 ?_
      refine B_aload_n dX8_round_12 rfl ?_
      refine B_getI (sc_56) vc_8 (k := 10) rfl (by decide) inG8 ⟨rfl, rfl, rfl⟩ ww_fl_X8_203 dX8_round_13 ?_
      refine B_iconst dX8_round_16 k_ic_m1 ?_
      refine B_ixor dX8_round_17 ?_
      refine B_iand dX8_round_18 ?_
      refine B_iload_n dX8_round_19 rfl ?_
      refine B_cS2i (c_X8_has (d := d - 1) hk_X8_has  hM) csS_X8_80 hp0 (rm_f hk1) (rm_l hk1 (by decide)) (Nat.le_of_ble_eq_true rfl) dX8_round_20 (fun r9 h8 hM => ?_)
      refine B_if_eq dX8_round_23 hM (tgt := 39) rfl (fun hM => ?_) (fun hM => ?_)
      · exact B_wk (bw_X8_round_c39 hd hr2 hM) (wk_1 (wk_1 wk_n))
      · refine B_aload_n dX8_round_26 rfl ?_
        refine B_iload_n dX8_round_27 rfl ?_
        refine B_cV1i (c_X8_isInLine (d := d - 1) hk_X8_isInLine  hM) csV_X8_144 (sc_56) vc_8 rfl hp0 (rm_f hk1) (rm_l hk1 (by decide)) (Nat.le_of_ble_eq_true rfl) dX8_round_28 (fun r11 h10 hM => ?_)
        refine B_if_ne dX8_round_31 hM (tgt := 39) rfl (fun hM => ?_) (fun hM => ?_)
        · exact B_wk (bw_X8_round_c39 hd hr2 hM) (wk_1 (wk_1 wk_n))
        · refine B_aload_n dX8_round_34 rfl ?_
          refine B_iload_n dX8_round_35 rfl ?_
          refine B_cV1v (c_X8_goesOn (d := d - 1) hk_X8_goesOn  hM) csV_X8_212 (sc_56) vc_8 rfl hp0 (rm_f hk1) (rm_l hk1 (by decide)) (Nat.le_of_ble_eq_true rfl) dX8_round_36 (fun h12 hM => ?_)
          exact B_wk (bw_X8_round_c39 hd hr2 hM) (wk_1 (wk_1 wk_n))
def P_X8_round (F : Nat) (h : AH) (K : AH → Prop) : Prop := X8_round_c2 F K F (nI 0) h
set_option maxHeartbeats 4000000 in
theorem c_X8_round {l : Launch} {d : Nat} {F : Nat} {h : AH} {K : AH → Prop} (hd : 10 ≤ d) (hM : P_X8_round F h K) : Ct l yX8_round cX8_round 2 none (rmD d) [.ref 56] h (Qv K) := by
  have hk1 : 1 ≤ d := by omega
  have hk_X8_goesOn : 9 ≤ d - 1 := by omega
  have hk_X8_has : 0 ≤ d - 1 := by omega
  have hk_X8_isInLine : 1 ≤ d - 1 := by omega
  have hk_X8_leastOf : 2 ≤ d - 1 := by omega
  have hk_X8_leavesAll : 8 ≤ d - 1 := by omega
  have hk_X8_ringNow : 8 ≤ d - 1 := by omega
  refine Ct_ofBW (by decide) rfl (Nat.le_of_ble_eq_true rfl) ⟨rfl, rfl⟩ ?_
  show BW RX8 cX8_round 2 none l (rmD d) tb0 3 [.ref 56, .null] [] 0 h (Qv K)
  unfold P_X8_round at hM
  refine B_iconst dX8_round_0 k_ic_0 ?_
  refine B_istore_n dX8_round_1 (Nat.le_of_ble_eq_true rfl) ?_
  exact B_wk (bw_X8_round_c2 hd  _ _ _ hM) (wk_1 (wk_1 wk_n))

def X8_plays_c123 (F : Nat) (K : Int32 → AH → Prop) (x1 : Int32) (s0 : Int32) (h : AH) : Prop := P_X8_laysBack F h (fun (h1 : AH) => if ¬ x1 = (nI 0) then (if ¬ x1 = (nI 1) then (K ((h 56 4) - (h 56 5)) h1) else (K (h1 56 12) h1)) else (K s0 h1))
set_option maxHeartbeats 4000000 in
theorem bw_X8_plays_c123 {l : Launch} {d : Nat} {F : Nat} {K : Int32 → AH → Prop} {x1 : Int32} {s0 : Int32} {h : AH} (hd : 11 ≤ d) (hM : X8_plays_c123 F K x1 s0 h) : BW RX8 cX8_plays 4 (some .int) l (rmD d) tb0 3 [.ref 56, .int x1, .null, .null] [.int s0] 123 h (Qi K) := by
  have hk1 : 1 ≤ d := by omega
  have hk_X8_in : 0 ≤ d - 1 := by omega
  have hk_X8_laysAside : 1 ≤ d - 1 := by omega
  have hk_X8_laysBack : 1 ≤ d - 1 := by omega
  have hk_X8_round : 10 ≤ d - 1 := by omega
  have hk_X8_rowFrom : 0 ≤ d - 1 := by omega
  unfold X8_plays_c123 at hM
  refine B_istore_n dX8_plays_123 (Nat.le_of_ble_eq_true rfl) ?_
  refine B_aload_n dX8_plays_124 rfl ?_
  refine B_getI (sc_56) vc_8 (k := 4) rfl (by decide) inG8 ⟨rfl, rfl, rfl⟩ ww_fl_X8_56 dX8_plays_125 ?_
  refine B_aload_n dX8_plays_128 rfl ?_
  refine B_getI (sc_56) vc_8 (k := 5) rfl (by decide) inG8 ⟨rfl, rfl, rfl⟩ ww_fl_X8_59 dX8_plays_129 ?_
  refine B_isub dX8_plays_132 ?_
  refine B_istore_n dX8_plays_133 (Nat.le_of_ble_eq_true rfl) ?_
  refine B_aload_n dX8_plays_134 rfl ?_
  refine B_cV0v (c_X8_laysBack (d := d - 1) hk_X8_laysBack  hM) csV_X8_189 (sc_56) vc_8 rfl hp0 (rm_f hk1) (rm_l hk1 (by decide)) (Nat.le_of_ble_eq_true rfl) dX8_plays_135 (fun h1 hM => ?_)
  refine B_iload_n dX8_plays_138 rfl ?_
  refine B_if_ne dX8_plays_139 hM (tgt := 146) rfl (fun hM => ?_) (fun hM => ?_)
  · refine B_iload_n dX8_plays_146 rfl ?_
    refine B_iconst dX8_plays_147 k_ic_1 ?_
    refine B_icmp_ne dX8_plays_148 hM (tgt := 158) rfl (fun hM => ?_) (fun hM => ?_)
    · refine B_iload_n dX8_plays_158 rfl ?_
      exact B_iret ⟨_, rfl, hM⟩ trivial dX8_plays_159
    · refine B_aload_n dX8_plays_151 rfl ?_
      refine B_getI (sc_56) vc_8 (k := 12) rfl (by decide) inG8 ⟨rfl, rfl, rfl⟩ ww_fl_X8_215 dX8_plays_152 ?_
      refine B_goto (tgt := 159) dX8_plays_155 rfl ?_
      exact B_iret ⟨_, rfl, hM⟩ trivial dX8_plays_159
  · refine B_iload_n dX8_plays_142 rfl ?_
    refine B_goto (tgt := 159) dX8_plays_143 rfl ?_
    exact B_iret ⟨_, rfl, hM⟩ trivial dX8_plays_159
def X8_plays_c106 (F : Nat) (K : Int32 → AH → Prop) (x1 : Int32) (x2 : Int32) (h : AH) : Prop := if (h 56 10) = (h 56 11) then (X8_plays_c123 F K x1 x2 h) else (X8_plays_c123 F K x1 (nI 41) h)
set_option maxHeartbeats 4000000 in
theorem bw_X8_plays_c106 {l : Launch} {d : Nat} {F : Nat} {K : Int32 → AH → Prop} {x1 : Int32} {x2 : Int32} {h : AH} (hd : 11 ≤ d) (hM : X8_plays_c106 F K x1 x2 h) : BW RX8 cX8_plays 4 (some .int) l (rmD d) tb0 3 [.ref 56, .int x1, .int x2, .null] [] 106 h (Qi K) := by
  have hk1 : 1 ≤ d := by omega
  have hk_X8_in : 0 ≤ d - 1 := by omega
  have hk_X8_laysAside : 1 ≤ d - 1 := by omega
  have hk_X8_laysBack : 1 ≤ d - 1 := by omega
  have hk_X8_round : 10 ≤ d - 1 := by omega
  have hk_X8_rowFrom : 0 ≤ d - 1 := by omega
  unfold X8_plays_c106 at hM
  refine B_aload_n dX8_plays_106 rfl ?_
  refine B_getI (sc_56) vc_8 (k := 10) rfl (by decide) inG8 ⟨rfl, rfl, rfl⟩ ww_fl_X8_203 dX8_plays_107 ?_
  refine B_aload_n dX8_plays_110 rfl ?_
  refine B_getI (sc_56) vc_8 (k := 11) rfl (by decide) inG8 ⟨rfl, rfl, rfl⟩ ww_fl_X8_209 dX8_plays_111 ?_
  refine B_icmp_eq dX8_plays_114 hM (tgt := 122) rfl (fun hM => ?_) (fun hM => ?_)
  · refine B_iload_n dX8_plays_122 rfl ?_
    exact B_wk (bw_X8_plays_c123 hd  hM) (wk_1 (wk_1 (wk_0 (wk_0 wk_n))))
  · refine B_bipush dX8_plays_117 k_bi_41 ?_
    refine B_goto (tgt := 123) dX8_plays_119 rfl ?_
    exact B_wk (bw_X8_plays_c123 hd  hM) (wk_1 (wk_1 (wk_0 (wk_0 wk_n))))
def X8_plays_c79 (F : Nat) (K : Int32 → AH → Prop) (n : Nat) : Int32 → Int32 → AH → Prop := Nat.rec (motive := fun _ => Int32 → Int32 → AH → Prop) (fun _ _ _ => False) (fun _ rc79 x1 x2 h => if (h 56 10) = (h 56 11) then (X8_plays_c106 F K x1 x2 h) else (if (nI 40) ≤ x2 then (X8_plays_c106 F K x1 x2 h) else (P_X8_round F h (fun (h1 : AH) => rc79 x1 (x2 + (nI 1)) h1)))) n
theorem X8_plays_c79_s {F : Nat} {K : Int32 → AH → Prop} {n : Nat} {x1 : Int32} {x2 : Int32} {h : AH} : X8_plays_c79 F K (n + 1) x1 x2 h = (if (h 56 10) = (h 56 11) then (X8_plays_c106 F K x1 x2 h) else (if (nI 40) ≤ x2 then (X8_plays_c106 F K x1 x2 h) else (P_X8_round F h (fun (h1 : AH) => (X8_plays_c79 F K n) x1 (x2 + (nI 1)) h1)))) := rfl
set_option maxHeartbeats 4000000 in
theorem bw_X8_plays_c79 {l : Launch} {d : Nat} {F : Nat} {K : Int32 → AH → Prop} (hd : 11 ≤ d) : ∀ (n : Nat) (x1 : Int32) (x2 : Int32) (h : AH), X8_plays_c79 F K n x1 x2 h → BW RX8 cX8_plays 4 (some .int) l (rmD d) tb0 3 [.ref 56, .int x1, .int x2, .null] [] 79 h (Qi K) := by
  have hk1 : 1 ≤ d := by omega
  have hk_X8_in : 0 ≤ d - 1 := by omega
  have hk_X8_laysAside : 1 ≤ d - 1 := by omega
  have hk_X8_laysBack : 1 ≤ d - 1 := by omega
  have hk_X8_round : 10 ≤ d - 1 := by omega
  have hk_X8_rowFrom : 0 ≤ d - 1 := by omega
  intro n
  induction n with
  | zero =>
    intro x1 x2 h hM
    exact hM.elim
  | succ n hr79 =>
    intro x1 x2 h hM
    rw [X8_plays_c79_s] at hM
    refine B_aload_n dX8_plays_79 rfl ?_
    refine B_getI (sc_56) vc_8 (k := 10) rfl (by decide) inG8 ⟨rfl, rfl, rfl⟩ ww_fl_X8_203 dX8_plays_80 ?_
    refine B_aload_n dX8_plays_83 rfl ?_
    refine B_getI (sc_56) vc_8 (k := 11) rfl (by decide) inG8 ⟨rfl, rfl, rfl⟩ ww_fl_X8_209 dX8_plays_84 ?_
    refine B_icmp_eq dX8_plays_87 hM (tgt := 106) rfl (fun hM => ?_) (fun hM => ?_)
    · exact B_wk (bw_X8_plays_c106 hd  hM) (wk_1 (wk_1 (wk_1 (wk_0 wk_n))))
    · refine B_iload_n dX8_plays_90 rfl ?_
      refine B_bipush dX8_plays_91 k_bi_40 ?_
      refine B_icmp_ge dX8_plays_93 hM (tgt := 106) rfl (fun hM => ?_) (fun hM => ?_)
      · exact B_wk (bw_X8_plays_c106 hd  hM) (wk_1 (wk_1 (wk_1 (wk_0 wk_n))))
      · refine B_aload_n dX8_plays_96 rfl ?_
        refine B_cV0v (c_X8_round (d := d - 1) hk_X8_round  hM) csV_X8_218 (sc_56) vc_8 rfl hp0 (rm_f hk1) (rm_l hk1 (by decide)) (Nat.le_of_ble_eq_true rfl) dX8_plays_97 (fun h1 hM => ?_)
        refine B_iinc dX8_plays_100 rfl k_ic_1 (Nat.le_of_ble_eq_true rfl) ?_
        refine B_goto (tgt := 79) dX8_plays_103 rfl ?_
        exact B_wk (hr79 _ _ _ hM) (wk_1 (wk_1 (wk_1 (wk_0 wk_n))))
def X8_plays_c67 (F : Nat) (rc32 : Int32 → Int32 → AH → Prop) (K : Int32 → AH → Prop) (x1 : Int32) (x2 : Int32) (s1 : Int32) (s2 : Int32) (h : AH) : Prop := (fun (h1 : AH) => rc32 x1 (x2 + (nI 1)) h1) (up h 56 11 (s1 ||| s2))
set_option maxHeartbeats 4000000 in
theorem bw_X8_plays_c67 {l : Launch} {d : Nat} {F : Nat} {rc32 : Int32 → Int32 → AH → Prop} {K : Int32 → AH → Prop} {x1 : Int32} {x2 : Int32} {s1 : Int32} {s2 : Int32} {h : AH} (hd : 11 ≤ d) (hr32 : ∀ (x1 : Int32) (x2 : Int32) (h : AH), rc32 x1 x2 h → BW RX8 cX8_plays 4 (some .int) l (rmD d) tb0 3 [.ref 56, .int x1, .int x2, .null] [] 32 h (Qi K)) (hM : X8_plays_c67 F rc32 K x1 x2 s1 s2 h) : BW RX8 cX8_plays 4 (some .int) l (rmD d) tb0 3 [.ref 56, .int x1, .int x2, .null] [.int s2, .int s1, .ref 56] 67 h (Qi K) := by
  have hk1 : 1 ≤ d := by omega
  have hk_X8_in : 0 ≤ d - 1 := by omega
  have hk_X8_laysAside : 1 ≤ d - 1 := by omega
  have hk_X8_laysBack : 1 ≤ d - 1 := by omega
  have hk_X8_round : 10 ≤ d - 1 := by omega
  have hk_X8_rowFrom : 0 ≤ d - 1 := by omega
  unfold X8_plays_c67 at hM
  refine B_ior dX8_plays_67 ?_
  refine B_putI (fits_I _) (sc_56) vc_8 (k := 11) rfl (by decide) inG8 ⟨rfl, rfl, rfl⟩ tyX8 tyX8_ok nmX8 rfl rfl ww_fl_X8_209 dX8_plays_68 ?_
  refine B_iinc dX8_plays_71 rfl k_ic_1 (Nat.le_of_ble_eq_true rfl) ?_
  refine B_goto (tgt := 32) dX8_plays_74 rfl ?_
  exact B_wk (hr32 _ _ _ hM) (wk_1 (wk_1 (wk_1 (wk_0 wk_n))))
def X8_plays_c32 (F : Nat) (K : Int32 → AH → Prop) (n : Nat) : Int32 → Int32 → AH → Prop := Nat.rec (motive := fun _ => Int32 → Int32 → AH → Prop) (fun _ _ _ => False) (fun _ rc32 x1 x2 h => if (nI 6) ≤ x2 then (X8_plays_c79 F K F x1 (nI 0) h) else (vp_in x2 6 ∧ ((fun (h1 : AH) => P_X8_rowFrom F x2 (nI 0) h1 (fun (r3 : Int32) (h2 : AH) => if r3 = (-1 : Int32) then (X8_plays_c67 F rc32 K x1 x2 (h1 56 11) (nI 0) h2) else (X8_plays_c67 F rc32 K x1 x2 (h1 56 11) ((nI 1) <<< (x2 &&& 31)) h2))) (up h 63 x2.toNatClampNeg (nI 0))))) n
theorem X8_plays_c32_s {F : Nat} {K : Int32 → AH → Prop} {n : Nat} {x1 : Int32} {x2 : Int32} {h : AH} : X8_plays_c32 F K (n + 1) x1 x2 h = (if (nI 6) ≤ x2 then (X8_plays_c79 F K F x1 (nI 0) h) else (vp_in x2 6 ∧ ((fun (h1 : AH) => P_X8_rowFrom F x2 (nI 0) h1 (fun (r3 : Int32) (h2 : AH) => if r3 = (-1 : Int32) then (X8_plays_c67 F (X8_plays_c32 F K n) K x1 x2 (h1 56 11) (nI 0) h2) else (X8_plays_c67 F (X8_plays_c32 F K n) K x1 x2 (h1 56 11) ((nI 1) <<< (x2 &&& 31)) h2))) (up h 63 x2.toNatClampNeg (nI 0))))) := rfl
set_option maxHeartbeats 4000000 in
theorem bw_X8_plays_c32 {l : Launch} {d : Nat} {F : Nat} {K : Int32 → AH → Prop} (hd : 11 ≤ d) : ∀ (n : Nat) (x1 : Int32) (x2 : Int32) (h : AH), X8_plays_c32 F K n x1 x2 h → BW RX8 cX8_plays 4 (some .int) l (rmD d) tb0 3 [.ref 56, .int x1, .int x2, .null] [] 32 h (Qi K) := by
  have hk1 : 1 ≤ d := by omega
  have hk_X8_in : 0 ≤ d - 1 := by omega
  have hk_X8_laysAside : 1 ≤ d - 1 := by omega
  have hk_X8_laysBack : 1 ≤ d - 1 := by omega
  have hk_X8_round : 10 ≤ d - 1 := by omega
  have hk_X8_rowFrom : 0 ≤ d - 1 := by omega
  intro n
  induction n with
  | zero =>
    intro x1 x2 h hM
    exact hM.elim
  | succ n hr32 =>
    intro x1 x2 h hM
    rw [X8_plays_c32_s] at hM
    refine B_iload_n dX8_plays_32 rfl ?_
    refine B_bipush dX8_plays_33 k_bi_6 ?_
    refine B_icmp_ge dX8_plays_35 hM (tgt := 77) rfl (fun hM => ?_) (fun hM => ?_)
    · refine B_iconst dX8_plays_77 k_ic_0 ?_
      refine B_istore_n dX8_plays_78 (Nat.le_of_ble_eq_true rfl) ?_
      exact B_wk (bw_X8_plays_c79 hd  _ _ _ _ hM) (wk_1 (wk_1 (wk_1 (wk_0 wk_n))))
    · refine B_aload_n dX8_plays_38 rfl ?_
      refine B_getR (sc_56) vc_8 (k := 9) (j := 63) rfl (by decide) inG8 ⟨rfl, rfl, rfl⟩ ww_fl_X8_34 dX8_plays_39 ?_
      refine B_iload_n dX8_plays_42 rfl ?_
      refine B_iconst dX8_plays_43 k_ic_0 ?_
      refine B_iast (sc_63) hM dX8_plays_44 (fun hM => ?_)
      refine B_aload_n dX8_plays_45 rfl ?_
      refine B_dupR dX8_plays_46 ?_
      refine B_getI (sc_56) vc_8 (k := 11) rfl (by decide) inG8 ⟨rfl, rfl, rfl⟩ ww_fl_X8_209 dX8_plays_47 ?_
      refine B_aload_n dX8_plays_50 rfl ?_
      refine B_iload_n dX8_plays_51 rfl ?_
      refine B_iconst dX8_plays_52 k_ic_0 ?_
      refine B_cV2i (c_X8_rowFrom (d := d - 1) hk_X8_rowFrom  hM) csV_X8_199 (sc_56) vc_8 rfl hp0 (rm_f hk1) (rm_l hk1 (by decide)) (Nat.le_of_ble_eq_true rfl) dX8_plays_53 (fun r3 h2 hM => ?_)
      refine B_iconst dX8_plays_56 k_ic_m1 ?_
      refine B_icmp_eq dX8_plays_57 hM (tgt := 66) rfl (fun hM => ?_) (fun hM => ?_)
      · refine B_iconst dX8_plays_66 k_ic_0 ?_
        exact B_wk (bw_X8_plays_c67 hd hr32 hM) (wk_1 (wk_1 (wk_1 (wk_0 wk_n))))
      · refine B_iconst dX8_plays_60 k_ic_1 ?_
        refine B_iload_n dX8_plays_61 rfl ?_
        refine B_ishl dX8_plays_62 ?_
        refine B_goto (tgt := 67) dX8_plays_63 rfl ?_
        exact B_wk (bw_X8_plays_c67 hd hr32 hM) (wk_1 (wk_1 (wk_1 (wk_0 wk_n))))
def P_X8_plays (F : Nat) (a1 : Int32) (h : AH) (K : Int32 → AH → Prop) : Prop := P_X8_in F a1 (nI 0) (nI 2) h (fun (r2 : Int32) (h1 : AH) => if ¬ r2 = (nI 0) then (P_X8_laysAside F h1 (fun (h3 : AH) => (fun (h4 : AH) => (fun (h5 : AH) => (fun (h6 : AH) => X8_plays_c32 F K F a1 (nI 0) h6) (up h5 56 12 (nI 0))) (up h4 56 11 (nI 0))) (up h3 56 10 (nI 0)))) else (K (-1 : Int32) h1))
set_option maxHeartbeats 4000000 in
theorem c_X8_plays {l : Launch} {d : Nat} {F : Nat} {a1 : Int32} {h : AH} {K : Int32 → AH → Prop} (hd : 11 ≤ d) (hM : P_X8_plays F a1 h K) : Ct l yX8_plays cX8_plays 4 (some .int) (rmD d) [.ref 56, .int a1] h (Qi K) := by
  have hk1 : 1 ≤ d := by omega
  have hk_X8_in : 0 ≤ d - 1 := by omega
  have hk_X8_laysAside : 1 ≤ d - 1 := by omega
  have hk_X8_laysBack : 1 ≤ d - 1 := by omega
  have hk_X8_round : 10 ≤ d - 1 := by omega
  have hk_X8_rowFrom : 0 ≤ d - 1 := by omega
  refine Ct_ofBW (by decide) rfl (Nat.le_of_ble_eq_true rfl) ⟨rfl, rfl⟩ ?_
  show BW RX8 cX8_plays 4 (some .int) l (rmD d) tb0 3 [.ref 56, .int a1, .null, .null] [] 0 h (Qi K)
  unfold P_X8_plays at hM
  refine B_iload_n dX8_plays_0 rfl ?_
  refine B_iconst dX8_plays_1 k_ic_0 ?_
  refine B_iconst dX8_plays_2 k_ic_2 ?_
  refine B_cS3i (c_X8_in (d := d - 1) hk_X8_in  hM) csS_X8_62 hp0 (rm_f hk1) (rm_l hk1 (by decide)) (Nat.le_of_ble_eq_true rfl) dX8_plays_3 (fun r2 h1 hM => ?_)
  refine B_if_ne dX8_plays_6 hM (tgt := 11) rfl (fun hM => ?_) (fun hM => ?_)
  · refine B_aload_n dX8_plays_11 rfl ?_
    refine B_cV0v (c_X8_laysAside (d := d - 1) hk_X8_laysAside  hM) csV_X8_186 (sc_56) vc_8 rfl hp0 (rm_f hk1) (rm_l hk1 (by decide)) (Nat.le_of_ble_eq_true rfl) dX8_plays_12 (fun h3 hM => ?_)
    refine B_aload_n dX8_plays_15 rfl ?_
    refine B_iconst dX8_plays_16 k_ic_0 ?_
    refine B_putI (fits_I _) (sc_56) vc_8 (k := 10) rfl (by decide) inG8 ⟨rfl, rfl, rfl⟩ tyX8 tyX8_ok nmX8 rfl rfl ww_fl_X8_203 dX8_plays_17 ?_
    refine B_aload_n dX8_plays_20 rfl ?_
    refine B_iconst dX8_plays_21 k_ic_0 ?_
    refine B_putI (fits_I _) (sc_56) vc_8 (k := 11) rfl (by decide) inG8 ⟨rfl, rfl, rfl⟩ tyX8 tyX8_ok nmX8 rfl rfl ww_fl_X8_209 dX8_plays_22 ?_
    refine B_aload_n dX8_plays_25 rfl ?_
    refine B_iconst dX8_plays_26 k_ic_0 ?_
    refine B_putI (fits_I _) (sc_56) vc_8 (k := 12) rfl (by decide) inG8 ⟨rfl, rfl, rfl⟩ tyX8 tyX8_ok nmX8 rfl rfl ww_fl_X8_215 dX8_plays_27 ?_
    refine B_iconst dX8_plays_30 k_ic_0 ?_
    refine B_istore_n dX8_plays_31 (Nat.le_of_ble_eq_true rfl) ?_
    exact B_wk (bw_X8_plays_c32 hd  _ _ _ _ hM) (wk_1 (wk_1 (wk_1 (wk_0 wk_n))))
  · refine B_iconst dX8_plays_9 k_ic_m1 ?_
    exact B_iret ⟨_, rfl, hM⟩ trivial dX8_plays_10

def P_X8_draw (F : Nat) (a1 : Int32) (h : AH) (K : Int32 → AH → Prop) : Prop := (fun (h1 : AH) => ¬ (nI 65536) = 0 ∧ (¬ a1 = 0 ∧ (K ((((h1 56 13) &&& (nI 2147483647)) / (nI 65536)) - (((h1 56 13) &&& (nI 2147483647)) / (nI 65536)) / a1 * a1) h1))) (up h 56 13 (((h 56 13) * (nI 1103515245)) + (nI 12345)))
set_option maxHeartbeats 4000000 in
theorem c_X8_draw {l : Launch} {d : Nat} {F : Nat} {a1 : Int32} {h : AH} {K : Int32 → AH → Prop} (hd : 0 ≤ d) (hM : P_X8_draw F a1 h K) : Ct l yX8_draw cX8_draw 2 (some .int) (rmD d) [.ref 56, .int a1] h (Qi K) := by
  refine Ct_ofBW (by decide) rfl (Nat.le_of_ble_eq_true rfl) ⟨rfl, rfl⟩ ?_
  show BW RX8 cX8_draw 2 (some .int) l (rmD d) tb0 3 [.ref 56, .int a1] [] 0 h (Qi K)
  unfold P_X8_draw at hM
  refine B_aload_n dX8_draw_0 rfl ?_
  refine B_aload_n dX8_draw_1 rfl ?_
  refine B_getI (sc_56) vc_8 (k := 13) rfl (by decide) inG8 ⟨rfl, rfl, rfl⟩ ww_fl_X8_221 dX8_draw_2 ?_
  refine B_ldc dX8_draw_5 ww_cst_X8_224 ?_
  refine B_imul dX8_draw_7 ?_
  refine B_sipush dX8_draw_8 k_si_12345 ?_
  refine B_iadd dX8_draw_11 ?_
  refine B_putI (fits_I _) (sc_56) vc_8 (k := 13) rfl (by decide) inG8 ⟨rfl, rfl, rfl⟩ tyX8 tyX8_ok nmX8 rfl rfl ww_fl_X8_221 dX8_draw_12 ?_
  refine B_aload_n dX8_draw_15 rfl ?_
  refine B_getI (sc_56) vc_8 (k := 13) rfl (by decide) inG8 ⟨rfl, rfl, rfl⟩ ww_fl_X8_221 dX8_draw_16 ?_
  refine B_ldc dX8_draw_19 ww_cst_X8_225 ?_
  refine B_iand dX8_draw_21 ?_
  refine B_ldc dX8_draw_22 ww_cst_X8_226 ?_
  refine B_idiv dX8_draw_24 hM (fun hM => ?_)
  refine B_iload_n dX8_draw_25 rfl ?_
  refine B_irem dX8_draw_26 hM (fun hM => ?_)
  exact B_iret ⟨_, rfl, hM⟩ trivial dX8_draw_27

def P_X8_modeOf (F : Nat) (a1 : Int32) (h : AH) (K : Int32 → AH → Prop) : Prop := if ¬ a1 = (nI 0) then (if ¬ a1 = (nI 1) then (K (nI 5) h) else (K (nI 4) h)) else (K (nI 2) h)
set_option maxHeartbeats 4000000 in
theorem c_X8_modeOf {l : Launch} {d : Nat} {F : Nat} {a1 : Int32} {h : AH} {K : Int32 → AH → Prop} (hd : 0 ≤ d) (hM : P_X8_modeOf F a1 h K) : Ct l yX8_modeOf cX8_modeOf 1 (some .int) (rmD d) [.int a1] h (Qi K) := by
  refine Ct_ofBW (by decide) rfl (Nat.le_of_ble_eq_true rfl) ⟨rfl, rfl⟩ ?_
  show BW RX8 cX8_modeOf 1 (some .int) l (rmD d) tb0 3 [.int a1] [] 0 h (Qi K)
  unfold P_X8_modeOf at hM
  refine B_iload_n dX8_modeOf_0 rfl ?_
  refine B_if_ne dX8_modeOf_1 hM (tgt := 8) rfl (fun hM => ?_) (fun hM => ?_)
  · refine B_iload_n dX8_modeOf_8 rfl ?_
    refine B_iconst dX8_modeOf_9 k_ic_1 ?_
    refine B_icmp_ne dX8_modeOf_10 hM (tgt := 17) rfl (fun hM => ?_) (fun hM => ?_)
    · refine B_iconst dX8_modeOf_17 k_ic_5 ?_
      exact B_iret ⟨_, rfl, hM⟩ trivial dX8_modeOf_18
    · refine B_iconst dX8_modeOf_13 k_ic_4 ?_
      refine B_goto (tgt := 18) dX8_modeOf_14 rfl ?_
      exact B_iret ⟨_, rfl, hM⟩ trivial dX8_modeOf_18
  · refine B_iconst dX8_modeOf_4 k_ic_2 ?_
    refine B_goto (tgt := 18) dX8_modeOf_5 rfl ?_
    exact B_iret ⟨_, rfl, hM⟩ trivial dX8_modeOf_18

def X8_lots_c120 (F : Nat) (rc48 : Int32 → Int32 → Int32 → Int32 → AH → Prop) (K : Int32 → AH → Prop) (x1 : Int32) (x3 : Int32) (x4 : Int32) (x5 : Int32) (h : AH) : Prop := rc48 x1 x3 x4 (x5 + (nI 1)) h
set_option maxHeartbeats 4000000 in
theorem bw_X8_lots_c120 {l : Launch} {d : Nat} {F : Nat} {rc48 : Int32 → Int32 → Int32 → Int32 → AH → Prop} {K : Int32 → AH → Prop} {x1 : Int32} {x3 : Int32} {x4 : Int32} {x5 : Int32} {h : AH} (hd : 7 ≤ d) (hr48 : ∀ (x1 : Int32) (x3 : Int32) (x4 : Int32) (x5 : Int32) (h : AH), rc48 x1 x3 x4 x5 h → BW RX8 cX8_lots 9 (some .int) l (rmD d) tb0 3 [.ref 56, .int x1, .null, .int x3, .int x4, .int x5, .null, .null, .null] [] 48 h (Qi K)) (hM : X8_lots_c120 F rc48 K x1 x3 x4 x5 h) : BW RX8 cX8_lots 9 (some .int) l (rmD d) tb0 3 [.ref 56, .int x1, .null, .int x3, .int x4, .int x5, .null, .null, .null] [] 120 h (Qi K) := by
  have hk1 : 1 ≤ d := by omega
  have hk_X8_ask : 6 ≤ d - 1 := by omega
  have hk_X8_draw : 0 ≤ d - 1 := by omega
  have hk_X8_in : 0 ≤ d - 1 := by omega
  have hk_X8_isInLine : 1 ≤ d - 1 := by omega
  have hk_X8_laysAside : 1 ≤ d - 1 := by omega
  have hk_X8_laysBack : 1 ≤ d - 1 := by omega
  have hk_X8_modeOf : 0 ≤ d - 1 := by omega
  unfold X8_lots_c120 at hM
  refine B_iinc dX8_lots_120 rfl k_ic_1 (Nat.le_of_ble_eq_true rfl) ?_
  refine B_goto (tgt := 48) dX8_lots_123 rfl ?_
  exact B_wk (hr48 _ _ _ _ _ hM) (wk_1 (wk_1 (wk_0 (wk_1 (wk_1 (wk_1 (wk_0 (wk_0 (wk_0 wk_n)))))))))
def X8_lots_c117 (F : Nat) (rc48 : Int32 → Int32 → Int32 → Int32 → AH → Prop) (K : Int32 → AH → Prop) (x1 : Int32) (x3 : Int32) (x5 : Int32) (s0 : Int32) (s1 : Int32) (h : AH) : Prop := X8_lots_c120 F rc48 K x1 x3 (s0 + s1) x5 h
set_option maxHeartbeats 4000000 in
theorem bw_X8_lots_c117 {l : Launch} {d : Nat} {F : Nat} {rc48 : Int32 → Int32 → Int32 → Int32 → AH → Prop} {K : Int32 → AH → Prop} {x1 : Int32} {x3 : Int32} {x5 : Int32} {s0 : Int32} {s1 : Int32} {h : AH} (hd : 7 ≤ d) (hr48 : ∀ (x1 : Int32) (x3 : Int32) (x4 : Int32) (x5 : Int32) (h : AH), rc48 x1 x3 x4 x5 h → BW RX8 cX8_lots 9 (some .int) l (rmD d) tb0 3 [.ref 56, .int x1, .null, .int x3, .int x4, .int x5, .null, .null, .null] [] 48 h (Qi K)) (hM : X8_lots_c117 F rc48 K x1 x3 x5 s0 s1 h) : BW RX8 cX8_lots 9 (some .int) l (rmD d) tb0 3 [.ref 56, .int x1, .null, .int x3, .null, .int x5, .null, .null, .null] [.int s1, .int s0] 117 h (Qi K) := by
  have hk1 : 1 ≤ d := by omega
  have hk_X8_ask : 6 ≤ d - 1 := by omega
  have hk_X8_draw : 0 ≤ d - 1 := by omega
  have hk_X8_in : 0 ≤ d - 1 := by omega
  have hk_X8_isInLine : 1 ≤ d - 1 := by omega
  have hk_X8_laysAside : 1 ≤ d - 1 := by omega
  have hk_X8_laysBack : 1 ≤ d - 1 := by omega
  have hk_X8_modeOf : 0 ≤ d - 1 := by omega
  unfold X8_lots_c117 at hM
  refine B_iadd dX8_lots_117 ?_
  refine B_istore dX8_lots_118 (Nat.le_of_ble_eq_true rfl) ?_
  exact B_wk (bw_X8_lots_c120 hd hr48 hM) (wk_1 (wk_1 (wk_0 (wk_1 (wk_1 (wk_1 (wk_0 (wk_0 (wk_0 wk_n)))))))))
def X8_lots_c48 (F : Nat) (K : Int32 → AH → Prop) (n : Nat) : Int32 → Int32 → Int32 → Int32 → AH → Prop := Nat.rec (motive := fun _ => Int32 → Int32 → Int32 → Int32 → AH → Prop) (fun _ _ _ _ _ => False) (fun _ rc48 x1 x3 x4 x5 h => if x1 ≤ x5 then (vp_in (nI 25) 441 ∧ (P_X8_laysBack F h (fun (h1 : AH) => if ¬ x3 = (nI 0) then (K (h 57 (nI 25).toNatClampNeg) h1) else (K x4 h1)))) else (P_X8_draw F (nI 6) h (fun (r3 : Int32) (h2 : AH) => P_X8_isInLine F r3 h2 (fun (r5 : Int32) (h4 : AH) => if r5 = (nI 0) then (vp_in (nI 0) 441 ∧ (P_X8_draw F (h4 57 (nI 0).toNatClampNeg) h4 (fun (r7 : Int32) (h6 : AH) => P_X8_draw F (nI 3) h6 (fun (r9 : Int32) (h8 : AH) => P_X8_modeOf F r9 h8 (fun (r11 : Int32) (h10 : AH) => P_X8_ask F r3 r7 r11 h10 (fun (r13 : Int32) (h12 : AH) => if ¬ r13 = (nI 1) then (X8_lots_c117 F rc48 K x1 x3 x5 x4 (nI 0) h12) else (X8_lots_c117 F rc48 K x1 x3 x5 x4 (nI 1) h12))))))) else (X8_lots_c120 F rc48 K x1 x3 x4 x5 h4))))) n
theorem X8_lots_c48_s {F : Nat} {K : Int32 → AH → Prop} {n : Nat} {x1 : Int32} {x3 : Int32} {x4 : Int32} {x5 : Int32} {h : AH} : X8_lots_c48 F K (n + 1) x1 x3 x4 x5 h = (if x1 ≤ x5 then (vp_in (nI 25) 441 ∧ (P_X8_laysBack F h (fun (h1 : AH) => if ¬ x3 = (nI 0) then (K (h 57 (nI 25).toNatClampNeg) h1) else (K x4 h1)))) else (P_X8_draw F (nI 6) h (fun (r3 : Int32) (h2 : AH) => P_X8_isInLine F r3 h2 (fun (r5 : Int32) (h4 : AH) => if r5 = (nI 0) then (vp_in (nI 0) 441 ∧ (P_X8_draw F (h4 57 (nI 0).toNatClampNeg) h4 (fun (r7 : Int32) (h6 : AH) => P_X8_draw F (nI 3) h6 (fun (r9 : Int32) (h8 : AH) => P_X8_modeOf F r9 h8 (fun (r11 : Int32) (h10 : AH) => P_X8_ask F r3 r7 r11 h10 (fun (r13 : Int32) (h12 : AH) => if ¬ r13 = (nI 1) then (X8_lots_c117 F (X8_lots_c48 F K n) K x1 x3 x5 x4 (nI 0) h12) else (X8_lots_c117 F (X8_lots_c48 F K n) K x1 x3 x5 x4 (nI 1) h12))))))) else (X8_lots_c120 F (X8_lots_c48 F K n) K x1 x3 x4 x5 h4))))) := rfl
set_option maxHeartbeats 4000000 in
theorem bw_X8_lots_c48 {l : Launch} {d : Nat} {F : Nat} {K : Int32 → AH → Prop} (hd : 7 ≤ d) : ∀ (n : Nat) (x1 : Int32) (x3 : Int32) (x4 : Int32) (x5 : Int32) (h : AH), X8_lots_c48 F K n x1 x3 x4 x5 h → BW RX8 cX8_lots 9 (some .int) l (rmD d) tb0 3 [.ref 56, .int x1, .null, .int x3, .int x4, .int x5, .null, .null, .null] [] 48 h (Qi K) := by
  have hk1 : 1 ≤ d := by omega
  have hk_X8_ask : 6 ≤ d - 1 := by omega
  have hk_X8_draw : 0 ≤ d - 1 := by omega
  have hk_X8_in : 0 ≤ d - 1 := by omega
  have hk_X8_isInLine : 1 ≤ d - 1 := by omega
  have hk_X8_laysAside : 1 ≤ d - 1 := by omega
  have hk_X8_laysBack : 1 ≤ d - 1 := by omega
  have hk_X8_modeOf : 0 ≤ d - 1 := by omega
  intro n
  induction n with
  | zero =>
    intro x1 x3 x4 x5 h hM
    exact hM.elim
  | succ n hr48 =>
    intro x1 x3 x4 x5 h hM
    rw [X8_lots_c48_s] at hM
    refine B_iload dX8_lots_48 rfl ?_
    refine B_iload_n dX8_lots_50 rfl ?_
    refine B_icmp_ge dX8_lots_51 hM (tgt := 126) rfl (fun hM => ?_) (fun hM => ?_)
    · refine B_aload_n dX8_lots_126 rfl ?_
      refine B_getR (sc_56) vc_8 (k := 1) (j := 57) rfl (by decide) inG8 ⟨rfl, rfl, rfl⟩ ww_fl_X8_15 dX8_lots_127 ?_
      refine B_bipush dX8_lots_130 k_bi_25 ?_
      refine B_iald (sc_57) hM dX8_lots_132 (fun hM => ?_)
      refine B_istore dX8_lots_133 (Nat.le_of_ble_eq_true rfl) ?_
      refine B_aload_n dX8_lots_135 rfl ?_
      refine B_cV0v (c_X8_laysBack (d := d - 1) hk_X8_laysBack  hM) csV_X8_189 (sc_56) vc_8 rfl hp0 (rm_f hk1) (rm_l hk1 (by decide)) (Nat.le_of_ble_eq_true rfl) dX8_lots_136 (fun h1 hM => ?_)
      refine B_iload_n dX8_lots_139 rfl ?_
      refine B_if_ne dX8_lots_140 hM (tgt := 148) rfl (fun hM => ?_) (fun hM => ?_)
      · refine B_iload dX8_lots_148 rfl ?_
        exact B_iret ⟨_, rfl, hM⟩ trivial dX8_lots_150
      · refine B_iload dX8_lots_143 rfl ?_
        refine B_goto (tgt := 150) dX8_lots_145 rfl ?_
        exact B_iret ⟨_, rfl, hM⟩ trivial dX8_lots_150
    · refine B_aload_n dX8_lots_54 rfl ?_
      refine B_bipush dX8_lots_55 k_bi_6 ?_
      refine B_cV1i (c_X8_draw (d := d - 1) hk_X8_draw  hM) csV_X8_227 (sc_56) vc_8 rfl hp0 (rm_f hk1) (rm_l hk1 (by decide)) (Nat.le_of_ble_eq_true rfl) dX8_lots_57 (fun r3 h2 hM => ?_)
      refine B_istore dX8_lots_60 (Nat.le_of_ble_eq_true rfl) ?_
      refine B_aload_n dX8_lots_62 rfl ?_
      refine B_iload dX8_lots_63 rfl ?_
      refine B_cV1i (c_X8_isInLine (d := d - 1) hk_X8_isInLine  hM) csV_X8_144 (sc_56) vc_8 rfl hp0 (rm_f hk1) (rm_l hk1 (by decide)) (Nat.le_of_ble_eq_true rfl) dX8_lots_65 (fun r5 h4 hM => ?_)
      refine B_if_eq dX8_lots_68 hM (tgt := 74) rfl (fun hM => ?_) (fun hM => ?_)
      · refine B_aload_n dX8_lots_74 rfl ?_
        refine B_aload_n dX8_lots_75 rfl ?_
        refine B_getR (sc_56) vc_8 (k := 1) (j := 57) rfl (by decide) inG8 ⟨rfl, rfl, rfl⟩ ww_fl_X8_15 dX8_lots_76 ?_
        refine B_iconst dX8_lots_79 k_ic_0 ?_
        refine B_iald (sc_57) hM dX8_lots_80 (fun hM => ?_)
        refine B_cV1i (c_X8_draw (d := d - 1) hk_X8_draw  hM) csV_X8_227 (sc_56) vc_8 rfl hp0 (rm_f hk1) (rm_l hk1 (by decide)) (Nat.le_of_ble_eq_true rfl) dX8_lots_81 (fun r7 h6 hM => ?_)
        refine B_istore dX8_lots_84 (Nat.le_of_ble_eq_true rfl) ?_
        refine B_aload_n dX8_lots_86 rfl ?_
        refine B_iconst dX8_lots_87 k_ic_3 ?_
        refine B_cV1i (c_X8_draw (d := d - 1) hk_X8_draw  hM) csV_X8_227 (sc_56) vc_8 rfl hp0 (rm_f hk1) (rm_l hk1 (by decide)) (Nat.le_of_ble_eq_true rfl) dX8_lots_88 (fun r9 h8 hM => ?_)
        refine B_cS1i (c_X8_modeOf (d := d - 1) hk_X8_modeOf  hM) csS_X8_230 hp0 (rm_f hk1) (rm_l hk1 (by decide)) (Nat.le_of_ble_eq_true rfl) dX8_lots_91 (fun r11 h10 hM => ?_)
        refine B_istore dX8_lots_94 (Nat.le_of_ble_eq_true rfl) ?_
        refine B_iload dX8_lots_96 rfl ?_
        refine B_aload_n dX8_lots_98 rfl ?_
        refine B_iload dX8_lots_99 rfl ?_
        refine B_iload dX8_lots_101 rfl ?_
        refine B_iload dX8_lots_103 rfl ?_
        refine B_cV3i (c_X8_ask (d := d - 1) hk_X8_ask  hM) csV_X8_206 (sc_56) vc_8 rfl hp0 (rm_f hk1) (rm_l hk1 (by decide)) (Nat.le_of_ble_eq_true rfl) dX8_lots_105 (fun r13 h12 hM => ?_)
        refine B_iconst dX8_lots_108 k_ic_1 ?_
        refine B_icmp_ne dX8_lots_109 hM (tgt := 116) rfl (fun hM => ?_) (fun hM => ?_)
        · refine B_iconst dX8_lots_116 k_ic_0 ?_
          exact B_wk (bw_X8_lots_c117 hd hr48 hM) (wk_1 (wk_1 (wk_0 (wk_1 (wk_0 (wk_1 (wk_0 (wk_0 (wk_0 wk_n)))))))))
        · refine B_iconst dX8_lots_112 k_ic_1 ?_
          refine B_goto (tgt := 117) dX8_lots_113 rfl ?_
          exact B_wk (bw_X8_lots_c117 hd hr48 hM) (wk_1 (wk_1 (wk_0 (wk_1 (wk_0 (wk_1 (wk_0 (wk_0 (wk_0 wk_n)))))))))
      · refine B_goto (tgt := 120) dX8_lots_71 rfl ?_
        exact B_wk (bw_X8_lots_c120 hd hr48 hM) (wk_1 (wk_1 (wk_0 (wk_1 (wk_1 (wk_1 (wk_0 (wk_0 (wk_0 wk_n)))))))))
def P_X8_lots (F : Nat) (a1 : Int32) (a2 : Int32) (a3 : Int32) (h : AH) (K : Int32 → AH → Prop) : Prop := P_X8_in F a1 (nI 1) (nI 60) h (fun (r2 : Int32) (h1 : AH) => if r2 = (nI 0) then (K (-1 : Int32) h1) else (P_X8_in F a3 (nI 0) (nI 1) h1 (fun (r4 : Int32) (h3 : AH) => if ¬ r4 = (nI 0) then (vp_in (nI 0) 441 ∧ (if ¬ (h3 57 (nI 0).toNatClampNeg) = (nI 0) then (P_X8_laysAside F h3 (fun (h5 : AH) => (fun (h6 : AH) => X8_lots_c48 F K F a1 a3 (nI 0) (nI 0) h6) (up h5 56 13 a2))) else (K (-5 : Int32) h3))) else (K (-1 : Int32) h3))))
set_option maxHeartbeats 4000000 in
theorem c_X8_lots {l : Launch} {d : Nat} {F : Nat} {a1 : Int32} {a2 : Int32} {a3 : Int32} {h : AH} {K : Int32 → AH → Prop} (hd : 7 ≤ d) (hM : P_X8_lots F a1 a2 a3 h K) : Ct l yX8_lots cX8_lots 9 (some .int) (rmD d) [.ref 56, .int a1, .int a2, .int a3] h (Qi K) := by
  have hk1 : 1 ≤ d := by omega
  have hk_X8_ask : 6 ≤ d - 1 := by omega
  have hk_X8_draw : 0 ≤ d - 1 := by omega
  have hk_X8_in : 0 ≤ d - 1 := by omega
  have hk_X8_isInLine : 1 ≤ d - 1 := by omega
  have hk_X8_laysAside : 1 ≤ d - 1 := by omega
  have hk_X8_laysBack : 1 ≤ d - 1 := by omega
  have hk_X8_modeOf : 0 ≤ d - 1 := by omega
  refine Ct_ofBW (by decide) rfl (Nat.le_of_ble_eq_true rfl) ⟨rfl, rfl⟩ ?_
  show BW RX8 cX8_lots 9 (some .int) l (rmD d) tb0 3 [.ref 56, .int a1, .int a2, .int a3, .null, .null, .null, .null, .null] [] 0 h (Qi K)
  unfold P_X8_lots at hM
  refine B_iload_n dX8_lots_0 rfl ?_
  refine B_iconst dX8_lots_1 k_ic_1 ?_
  refine B_bipush dX8_lots_2 k_bi_60 ?_
  refine B_cS3i (c_X8_in (d := d - 1) hk_X8_in  hM) csS_X8_62 hp0 (rm_f hk1) (rm_l hk1 (by decide)) (Nat.le_of_ble_eq_true rfl) dX8_lots_4 (fun r2 h1 hM => ?_)
  refine B_if_eq dX8_lots_7 hM (tgt := 19) rfl (fun hM => ?_) (fun hM => ?_)
  · refine B_iconst dX8_lots_19 k_ic_m1 ?_
    exact B_iret ⟨_, rfl, hM⟩ trivial dX8_lots_20
  · refine B_iload_n dX8_lots_10 rfl ?_
    refine B_iconst dX8_lots_11 k_ic_0 ?_
    refine B_iconst dX8_lots_12 k_ic_1 ?_
    refine B_cS3i (c_X8_in (d := d - 1) hk_X8_in  hM) csS_X8_62 hp0 (rm_f hk1) (rm_l hk1 (by decide)) (Nat.le_of_ble_eq_true rfl) dX8_lots_13 (fun r4 h3 hM => ?_)
    refine B_if_ne dX8_lots_16 hM (tgt := 21) rfl (fun hM => ?_) (fun hM => ?_)
    · refine B_aload_n dX8_lots_21 rfl ?_
      refine B_getR (sc_56) vc_8 (k := 1) (j := 57) rfl (by decide) inG8 ⟨rfl, rfl, rfl⟩ ww_fl_X8_15 dX8_lots_22 ?_
      refine B_iconst dX8_lots_25 k_ic_0 ?_
      refine B_iald (sc_57) hM dX8_lots_26 (fun hM => ?_)
      refine B_if_ne dX8_lots_27 hM (tgt := 33) rfl (fun hM => ?_) (fun hM => ?_)
      · refine B_aload_n dX8_lots_33 rfl ?_
        refine B_cV0v (c_X8_laysAside (d := d - 1) hk_X8_laysAside  hM) csV_X8_186 (sc_56) vc_8 rfl hp0 (rm_f hk1) (rm_l hk1 (by decide)) (Nat.le_of_ble_eq_true rfl) dX8_lots_34 (fun h5 hM => ?_)
        refine B_aload_n dX8_lots_37 rfl ?_
        refine B_iload_n dX8_lots_38 rfl ?_
        refine B_putI (fits_I _) (sc_56) vc_8 (k := 13) rfl (by decide) inG8 ⟨rfl, rfl, rfl⟩ tyX8 tyX8_ok nmX8 rfl rfl ww_fl_X8_221 dX8_lots_39 ?_
        refine B_iconst dX8_lots_42 k_ic_0 ?_
        refine B_istore dX8_lots_43 (Nat.le_of_ble_eq_true rfl) ?_
        refine B_iconst dX8_lots_45 k_ic_0 ?_
        refine B_istore dX8_lots_46 (Nat.le_of_ble_eq_true rfl) ?_
        exact B_wk (bw_X8_lots_c48 hd  _ _ _ _ _ _ hM) (wk_1 (wk_1 (wk_0 (wk_1 (wk_1 (wk_1 (wk_0 (wk_0 (wk_0 wk_n)))))))))
      · refine B_bipush dX8_lots_30 k_bi_m5 ?_
        exact B_iret ⟨_, rfl, hM⟩ trivial dX8_lots_32
    · refine B_iconst dX8_lots_19 k_ic_m1 ?_
      exact B_iret ⟨_, rfl, hM⟩ trivial dX8_lots_20

def P_X8_goesInto (F : Nat) (a1 : Int32) (h : AH) (K : AH → Prop) : Prop := vp_in a1 12 ∧ (vp_in a1 12 ∧ ((fun (h1 : AH) => vp_in a1 12 ∧ (vp_in a1 12 ∧ ((fun (h2 : AH) => vp_in a1 12 ∧ (vp_in a1 12 ∧ (vp_in a1 12 ∧ ((fun (h3 : AH) => K h3) (up h2 61 a1.toNatClampNeg (if (h2 61 a1.toNatClampNeg) < (h2 62 a1.toNatClampNeg) then (h2 62 a1.toNatClampNeg) else (h2 61 a1.toNatClampNeg))))))) (up h1 62 a1.toNatClampNeg ((h1 62 a1.toNatClampNeg) + (nI 1)))))) (up h 60 a1.toNatClampNeg ((h 60 a1.toNatClampNeg) + (nI 1)))))
set_option maxHeartbeats 4000000 in
theorem c_X8_goesInto {l : Launch} {d : Nat} {F : Nat} {a1 : Int32} {h : AH} {K : AH → Prop} (hd : 1 ≤ d) (hM : P_X8_goesInto F a1 h K) : Ct l yX8_goesInto cX8_goesInto 2 none (rmD d) [.ref 56, .int a1] h (Qv K) := by
  have hk1 : 1 ≤ d := by omega
  refine Ct_ofBW (by decide) rfl (Nat.le_of_ble_eq_true rfl) ⟨rfl, rfl⟩ ?_
  show BW RX8 cX8_goesInto 2 none l (rmD d) tb0 3 [.ref 56, .int a1] [] 0 h (Qv K)
  unfold P_X8_goesInto at hM
  refine B_aload_n dX8_goesInto_0 rfl ?_
  refine B_getR (sc_56) vc_8 (k := 6) (j := 60) rfl (by decide) inG8 ⟨rfl, rfl, rfl⟩ ww_fl_X8_25 dX8_goesInto_1 ?_
  refine B_iload_n dX8_goesInto_4 rfl ?_
  refine B_dup2 dX8_goesInto_5 ?_
  refine B_iald (sc_60) hM dX8_goesInto_6 (fun hM => ?_)
  refine B_iconst dX8_goesInto_7 k_ic_1 ?_
  refine B_iadd dX8_goesInto_8 ?_
  refine B_iast (sc_60) hM dX8_goesInto_9 (fun hM => ?_)
  refine B_aload_n dX8_goesInto_10 rfl ?_
  refine B_getR (sc_56) vc_8 (k := 8) (j := 62) rfl (by decide) inG8 ⟨rfl, rfl, rfl⟩ ww_fl_X8_31 dX8_goesInto_11 ?_
  refine B_iload_n dX8_goesInto_14 rfl ?_
  refine B_dup2 dX8_goesInto_15 ?_
  refine B_iald (sc_62) hM dX8_goesInto_16 (fun hM => ?_)
  refine B_iconst dX8_goesInto_17 k_ic_1 ?_
  refine B_iadd dX8_goesInto_18 ?_
  refine B_iast (sc_62) hM dX8_goesInto_19 (fun hM => ?_)
  refine B_aload_n dX8_goesInto_20 rfl ?_
  refine B_getR (sc_56) vc_8 (k := 7) (j := 61) rfl (by decide) inG8 ⟨rfl, rfl, rfl⟩ ww_fl_X8_28 dX8_goesInto_21 ?_
  refine B_iload_n dX8_goesInto_24 rfl ?_
  refine B_aload_n dX8_goesInto_25 rfl ?_
  refine B_getR (sc_56) vc_8 (k := 7) (j := 61) rfl (by decide) inG8 ⟨rfl, rfl, rfl⟩ ww_fl_X8_28 dX8_goesInto_26 ?_
  refine B_iload_n dX8_goesInto_29 rfl ?_
  refine B_iald (sc_61) hM dX8_goesInto_30 (fun hM => ?_)
  refine B_aload_n dX8_goesInto_31 rfl ?_
  refine B_getR (sc_56) vc_8 (k := 8) (j := 62) rfl (by decide) inG8 ⟨rfl, rfl, rfl⟩ ww_fl_X8_31 dX8_goesInto_32 ?_
  refine B_iload_n dX8_goesInto_35 rfl ?_
  refine B_iald (sc_62) hM dX8_goesInto_36 (fun hM => ?_)
  refine B_max ⟨ww_ml_X8_233, ww_mx_s, ww_mx_i, ww_mx_c⟩ hk1 (rm_n hk1 (Nat.le_of_ble_eq_true rfl)) dX8_goesInto_37 ?_
  refine B_iast (sc_61) hM dX8_goesInto_40 (fun hM => ?_)
  exact B_vret ⟨rfl, hM⟩ trivial dX8_goesInto_41

def X8_weighsFrom_c106 (F : Nat) (self : Int32 → Int32 → AH → (Int32 → AH → Prop) → Prop) (rc9 : Int32 → Int32 → Int32 → Int32 → AH → Prop) (K : Int32 → AH → Prop) (x1 : Int32) (x2 : Int32) (x3 : Int32) (x4 : Int32) (h : AH) : Prop := rc9 x1 x2 x3 (x4 + (nI 1)) h
set_option maxHeartbeats 4000000 in
theorem bw_X8_weighsFrom_c106 {l : Launch} {d : Nat} {F : Nat} {self : Int32 → Int32 → AH → (Int32 → AH → Prop) → Prop} {rc9 : Int32 → Int32 → Int32 → Int32 → AH → Prop} {K : Int32 → AH → Prop} {x1 : Int32} {x2 : Int32} {x3 : Int32} {x4 : Int32} {h : AH} (hd : 2 ≤ d) (hs : ∀ (q0 : Int32) (q1 : Int32) (h : AH) (K : Int32 → AH → Prop), self q0 q1 h K → Ct l yX8_weighsFrom cX8_weighsFrom 5 (some .int) (rmD (d - 1)) [.ref 56, .int q0, .int q1] h (Qi K)) (hr9 : ∀ (x1 : Int32) (x2 : Int32) (x3 : Int32) (x4 : Int32) (h : AH), rc9 x1 x2 x3 x4 h → BW RX8 cX8_weighsFrom 5 (some .int) l (rmD d) tb0 3 [.ref 56, .int x1, .int x2, .int x3, .int x4] [] 9 h (Qi K)) (hM : X8_weighsFrom_c106 F self rc9 K x1 x2 x3 x4 h) : BW RX8 cX8_weighsFrom 5 (some .int) l (rmD d) tb0 3 [.ref 56, .int x1, .int x2, .int x3, .int x4] [] 106 h (Qi K) := by
  have hk1 : 1 ≤ d := by omega
  have hk_X8_countsAt : 1 ≤ d - 1 := by omega
  have hk_X8_goesInto : 1 ≤ d - 1 := by omega
  unfold X8_weighsFrom_c106 at hM
  refine B_iinc dX8_weighsFrom_106 rfl k_ic_1 (Nat.le_of_ble_eq_true rfl) ?_
  refine B_goto (tgt := 9) dX8_weighsFrom_109 rfl ?_
  exact B_wk (hr9 _ _ _ _ _ hM) (wk_1 (wk_1 (wk_1 (wk_1 (wk_1 wk_n)))))
def X8_weighsFrom_c9 (F : Nat) (self : Int32 → Int32 → AH → (Int32 → AH → Prop) → Prop) (K : Int32 → AH → Prop) (n : Nat) : Int32 → Int32 → Int32 → Int32 → AH → Prop := Nat.rec (motive := fun _ => Int32 → Int32 → Int32 → Int32 → AH → Prop) (fun _ _ _ _ _ => False) (fun _ rc9 x1 x2 x3 x4 h => vp_in (nI 0) 441 ∧ (if (h 57 (nI 0).toNatClampNeg) ≤ x4 then (K x3 h) else (if ¬ (h 56 14) = (nI 0) then (K x3 h) else (vp_in ((nI 1) + x4) 441 ∧ (if (h 57 ((nI 1) + x4).toNatClampNeg) = x1 then (vp_in ((nI 13) + x4) 441 ∧ (if ¬ (h 57 ((nI 13) + x4).toNatClampNeg) = (nI 1) then (P_X8_goesInto F x4 h (fun (h1 : AH) => P_X8_goesInto F x2 h1 (fun (h2 : AH) => self x4 x2 h2 (fun (r4 : Int32) (h3 : AH) => vp_in x4 12 ∧ (vp_in x4 12 ∧ ((fun (h5 : AH) => vp_in x2 12 ∧ (vp_in x2 12 ∧ ((fun (h6 : AH) => X8_weighsFrom_c106 F self rc9 K x1 x2 (x3 + r4) x4 h6) (up h5 62 x2.toNatClampNeg ((h5 62 x2.toNatClampNeg) - (nI 1)))))) (up h3 62 x4.toNatClampNeg ((h3 62 x4.toNatClampNeg) - (nI 1))))))))) else ((fun (h7 : AH) => K x3 h7) (up h 56 14 (nI 1))))) else (X8_weighsFrom_c106 F self rc9 K x1 x2 x3 x4 h)))))) n
theorem X8_weighsFrom_c9_s {F : Nat} {self : Int32 → Int32 → AH → (Int32 → AH → Prop) → Prop} {K : Int32 → AH → Prop} {n : Nat} {x1 : Int32} {x2 : Int32} {x3 : Int32} {x4 : Int32} {h : AH} : X8_weighsFrom_c9 F self K (n + 1) x1 x2 x3 x4 h = (vp_in (nI 0) 441 ∧ (if (h 57 (nI 0).toNatClampNeg) ≤ x4 then (K x3 h) else (if ¬ (h 56 14) = (nI 0) then (K x3 h) else (vp_in ((nI 1) + x4) 441 ∧ (if (h 57 ((nI 1) + x4).toNatClampNeg) = x1 then (vp_in ((nI 13) + x4) 441 ∧ (if ¬ (h 57 ((nI 13) + x4).toNatClampNeg) = (nI 1) then (P_X8_goesInto F x4 h (fun (h1 : AH) => P_X8_goesInto F x2 h1 (fun (h2 : AH) => self x4 x2 h2 (fun (r4 : Int32) (h3 : AH) => vp_in x4 12 ∧ (vp_in x4 12 ∧ ((fun (h5 : AH) => vp_in x2 12 ∧ (vp_in x2 12 ∧ ((fun (h6 : AH) => X8_weighsFrom_c106 F self (X8_weighsFrom_c9 F self K n) K x1 x2 (x3 + r4) x4 h6) (up h5 62 x2.toNatClampNeg ((h5 62 x2.toNatClampNeg) - (nI 1)))))) (up h3 62 x4.toNatClampNeg ((h3 62 x4.toNatClampNeg) - (nI 1))))))))) else ((fun (h7 : AH) => K x3 h7) (up h 56 14 (nI 1))))) else (X8_weighsFrom_c106 F self (X8_weighsFrom_c9 F self K n) K x1 x2 x3 x4 h)))))) := rfl
set_option maxHeartbeats 4000000 in
theorem bw_X8_weighsFrom_c9 {l : Launch} {d : Nat} {F : Nat} {self : Int32 → Int32 → AH → (Int32 → AH → Prop) → Prop} {K : Int32 → AH → Prop} (hd : 2 ≤ d) (hs : ∀ (q0 : Int32) (q1 : Int32) (h : AH) (K : Int32 → AH → Prop), self q0 q1 h K → Ct l yX8_weighsFrom cX8_weighsFrom 5 (some .int) (rmD (d - 1)) [.ref 56, .int q0, .int q1] h (Qi K)) : ∀ (n : Nat) (x1 : Int32) (x2 : Int32) (x3 : Int32) (x4 : Int32) (h : AH), X8_weighsFrom_c9 F self K n x1 x2 x3 x4 h → BW RX8 cX8_weighsFrom 5 (some .int) l (rmD d) tb0 3 [.ref 56, .int x1, .int x2, .int x3, .int x4] [] 9 h (Qi K) := by
  have hk1 : 1 ≤ d := by omega
  have hk_X8_countsAt : 1 ≤ d - 1 := by omega
  have hk_X8_goesInto : 1 ≤ d - 1 := by omega
  intro n
  induction n with
  | zero =>
    intro x1 x2 x3 x4 h hM
    exact hM.elim
  | succ n hr9 =>
    intro x1 x2 x3 x4 h hM
    rw [X8_weighsFrom_c9_s] at hM
    refine B_iload dX8_weighsFrom_9 rfl ?_
    refine B_aload_n dX8_weighsFrom_11 rfl ?_
    refine B_getR (sc_56) vc_8 (k := 1) (j := 57) rfl (by decide) inG8 ⟨rfl, rfl, rfl⟩ ww_fl_X8_15 dX8_weighsFrom_12 ?_
    refine B_iconst dX8_weighsFrom_15 k_ic_0 ?_
    refine B_iald (sc_57) hM dX8_weighsFrom_16 (fun hM => ?_)
    refine B_icmp_ge dX8_weighsFrom_17 hM (tgt := 112) rfl (fun hM => ?_) (fun hM => ?_)
    · refine B_iload_n dX8_weighsFrom_112 rfl ?_
      exact B_iret ⟨_, rfl, hM⟩ trivial dX8_weighsFrom_113
    · refine B_aload_n dX8_weighsFrom_20 rfl ?_
      refine B_getI (sc_56) vc_8 (k := 14) rfl (by decide) inG8 ⟨rfl, rfl, rfl⟩ ww_fl_X8_238 dX8_weighsFrom_21 ?_
      refine B_if_ne dX8_weighsFrom_24 hM (tgt := 112) rfl (fun hM => ?_) (fun hM => ?_)
      · refine B_iload_n dX8_weighsFrom_112 rfl ?_
        exact B_iret ⟨_, rfl, hM⟩ trivial dX8_weighsFrom_113
      · refine B_aload_n dX8_weighsFrom_27 rfl ?_
        refine B_getR (sc_56) vc_8 (k := 1) (j := 57) rfl (by decide) inG8 ⟨rfl, rfl, rfl⟩ ww_fl_X8_15 dX8_weighsFrom_28 ?_
        refine B_iconst dX8_weighsFrom_31 k_ic_1 ?_
        refine B_iload dX8_weighsFrom_32 rfl ?_
        refine B_iadd dX8_weighsFrom_34 ?_
        refine B_iald (sc_57) hM dX8_weighsFrom_35 (fun hM => ?_)
        refine B_iload_n dX8_weighsFrom_36 rfl ?_
        refine B_icmp_eq dX8_weighsFrom_37 hM (tgt := 43) rfl (fun hM => ?_) (fun hM => ?_)
        · refine B_aload_n dX8_weighsFrom_43 rfl ?_
          refine B_getR (sc_56) vc_8 (k := 1) (j := 57) rfl (by decide) inG8 ⟨rfl, rfl, rfl⟩ ww_fl_X8_15 dX8_weighsFrom_44 ?_
          refine B_bipush dX8_weighsFrom_47 k_bi_13 ?_
          refine B_iload dX8_weighsFrom_49 rfl ?_
          refine B_iadd dX8_weighsFrom_51 ?_
          refine B_iald (sc_57) hM dX8_weighsFrom_52 (fun hM => ?_)
          refine B_iconst dX8_weighsFrom_53 k_ic_1 ?_
          refine B_icmp_ne dX8_weighsFrom_54 hM (tgt := 64) rfl (fun hM => ?_) (fun hM => ?_)
          · refine B_aload_n dX8_weighsFrom_64 rfl ?_
            refine B_iload dX8_weighsFrom_65 rfl ?_
            refine B_cV1v (c_X8_goesInto (d := d - 1) hk_X8_goesInto  hM) csV_X8_242 (sc_56) vc_8 rfl hp0 (rm_f hk1) (rm_l hk1 (by decide)) (Nat.le_of_ble_eq_true rfl) dX8_weighsFrom_67 (fun h1 hM => ?_)
            refine B_aload_n dX8_weighsFrom_70 rfl ?_
            refine B_iload_n dX8_weighsFrom_71 rfl ?_
            refine B_cV1v (c_X8_goesInto (d := d - 1) hk_X8_goesInto  hM) csV_X8_242 (sc_56) vc_8 rfl hp0 (rm_f hk1) (rm_l hk1 (by decide)) (Nat.le_of_ble_eq_true rfl) dX8_weighsFrom_72 (fun h2 hM => ?_)
            refine B_iload_n dX8_weighsFrom_75 rfl ?_
            refine B_aload_n dX8_weighsFrom_76 rfl ?_
            refine B_iload dX8_weighsFrom_77 rfl ?_
            refine B_iload_n dX8_weighsFrom_79 rfl ?_
            refine B_cV2i (hs _ _ _ _  hM) csV_X8_245 (sc_56) vc_8 rfl hp0 (rm_f hk1) (rm_l hk1 (by decide)) (Nat.le_of_ble_eq_true rfl) dX8_weighsFrom_80 (fun r4 h3 hM => ?_)
            refine B_iadd dX8_weighsFrom_83 ?_
            refine B_istore_n dX8_weighsFrom_84 (Nat.le_of_ble_eq_true rfl) ?_
            refine B_aload_n dX8_weighsFrom_85 rfl ?_
            refine B_getR (sc_56) vc_8 (k := 8) (j := 62) rfl (by decide) inG8 ⟨rfl, rfl, rfl⟩ ww_fl_X8_31 dX8_weighsFrom_86 ?_
            refine B_iload dX8_weighsFrom_89 rfl ?_
            refine B_dup2 dX8_weighsFrom_91 ?_
            refine B_iald (sc_62) hM dX8_weighsFrom_92 (fun hM => ?_)
            refine B_iconst dX8_weighsFrom_93 k_ic_1 ?_
            refine B_isub dX8_weighsFrom_94 ?_
            refine B_iast (sc_62) hM dX8_weighsFrom_95 (fun hM => ?_)
            refine B_aload_n dX8_weighsFrom_96 rfl ?_
            refine B_getR (sc_56) vc_8 (k := 8) (j := 62) rfl (by decide) inG8 ⟨rfl, rfl, rfl⟩ ww_fl_X8_31 dX8_weighsFrom_97 ?_
            refine B_iload_n dX8_weighsFrom_100 rfl ?_
            refine B_dup2 dX8_weighsFrom_101 ?_
            refine B_iald (sc_62) hM dX8_weighsFrom_102 (fun hM => ?_)
            refine B_iconst dX8_weighsFrom_103 k_ic_1 ?_
            refine B_isub dX8_weighsFrom_104 ?_
            refine B_iast (sc_62) hM dX8_weighsFrom_105 (fun hM => ?_)
            exact B_wk (bw_X8_weighsFrom_c106 hd hs hr9 hM) (wk_1 (wk_1 (wk_1 (wk_1 (wk_1 wk_n)))))
          · refine B_aload_n dX8_weighsFrom_57 rfl ?_
            refine B_iconst dX8_weighsFrom_58 k_ic_1 ?_
            refine B_putI (fits_Z zB_1) (sc_56) vc_8 (k := 14) rfl (by decide) inG8 ⟨rfl, rfl, rfl⟩ tyX8 tyX8_ok nmX8 rfl rfl ww_fl_X8_238 dX8_weighsFrom_59 ?_
            refine B_iload_n dX8_weighsFrom_62 rfl ?_
            exact B_iret ⟨_, rfl, hM⟩ trivial dX8_weighsFrom_63
        · refine B_goto (tgt := 106) dX8_weighsFrom_40 rfl ?_
          exact B_wk (bw_X8_weighsFrom_c106 hd hs hr9 hM) (wk_1 (wk_1 (wk_1 (wk_1 (wk_1 wk_n)))))
def Pb_X8_weighsFrom (F : Nat) (self : Int32 → Int32 → AH → (Int32 → AH → Prop) → Prop) (a1 : Int32) (a2 : Int32) (h : AH) (K : Int32 → AH → Prop) : Prop := P_X8_countsAt F a1 h (fun (r2 : Int32) (h1 : AH) => X8_weighsFrom_c9 F self K F a1 a2 r2 (nI 0) h1)
set_option maxHeartbeats 4000000 in
theorem cb_X8_weighsFrom {l : Launch} {d : Nat} {F : Nat} {self : Int32 → Int32 → AH → (Int32 → AH → Prop) → Prop} {a1 : Int32} {a2 : Int32} {h : AH} {K : Int32 → AH → Prop} (hd : 2 ≤ d) (hs : ∀ (q0 : Int32) (q1 : Int32) (h : AH) (K : Int32 → AH → Prop), self q0 q1 h K → Ct l yX8_weighsFrom cX8_weighsFrom 5 (some .int) (rmD (d - 1)) [.ref 56, .int q0, .int q1] h (Qi K)) (hM : Pb_X8_weighsFrom F self a1 a2 h K) : Ct l yX8_weighsFrom cX8_weighsFrom 5 (some .int) (rmD d) [.ref 56, .int a1, .int a2] h (Qi K) := by
  have hk1 : 1 ≤ d := by omega
  have hk_X8_countsAt : 1 ≤ d - 1 := by omega
  have hk_X8_goesInto : 1 ≤ d - 1 := by omega
  refine Ct_ofBW (by decide) rfl (Nat.le_of_ble_eq_true rfl) ⟨rfl, rfl⟩ ?_
  show BW RX8 cX8_weighsFrom 5 (some .int) l (rmD d) tb0 3 [.ref 56, .int a1, .int a2, .null, .null] [] 0 h (Qi K)
  unfold Pb_X8_weighsFrom at hM
  refine B_aload_n dX8_weighsFrom_0 rfl ?_
  refine B_iload_n dX8_weighsFrom_1 rfl ?_
  refine B_cV1i (c_X8_countsAt (d := d - 1) hk_X8_countsAt  hM) csV_X8_94 (sc_56) vc_8 rfl hp0 (rm_f hk1) (rm_l hk1 (by decide)) (Nat.le_of_ble_eq_true rfl) dX8_weighsFrom_2 (fun r2 h1 hM => ?_)
  refine B_istore_n dX8_weighsFrom_5 (Nat.le_of_ble_eq_true rfl) ?_
  refine B_iconst dX8_weighsFrom_6 k_ic_0 ?_
  refine B_istore dX8_weighsFrom_7 (Nat.le_of_ble_eq_true rfl) ?_
  exact B_wk (bw_X8_weighsFrom_c9 hd hs  _ _ _ _ _ _ hM) (wk_1 (wk_1 (wk_1 (wk_1 (wk_1 wk_n)))))
def PR_X8_weighsFrom (F n : Nat) : Int32 → Int32 → AH → (Int32 → AH → Prop) → Prop := Nat.rec (motive := fun _ => Int32 → Int32 → AH → (Int32 → AH → Prop) → Prop) (fun _ _ _ _ => False) (fun _ ih => Pb_X8_weighsFrom F ih) n
theorem PR_X8_weighsFrom_s {F n : Nat} {a1 : Int32} {a2 : Int32} {h : AH} {K : Int32 → AH → Prop} : PR_X8_weighsFrom F (n + 1) a1 a2 h K = Pb_X8_weighsFrom F (PR_X8_weighsFrom F n) a1 a2 h K := rfl
theorem cr_X8_weighsFrom {l : Launch} {F : Nat} : ∀ (n d : Nat) (a1 : Int32) (a2 : Int32) (h : AH) (K : Int32 → AH → Prop) (_ : 2 + n ≤ d), PR_X8_weighsFrom F n a1 a2 h K → Ct l yX8_weighsFrom cX8_weighsFrom 5 (some .int) (rmD d) [.ref 56, .int a1, .int a2] h (Qi K) := by
  intro n
  induction n with
  | zero =>
    intro d a1 a2 h K hd hM
    exact hM.elim
  | succ n ih =>
    intro d a1 a2 h K hd hM
    rw [PR_X8_weighsFrom_s] at hM
    exact cb_X8_weighsFrom (by omega) (fun q0 q1 h K hM => ih (d - 1) q0 q1 h K (by omega) hM) hM
def P_X8_weighsFrom (F : Nat) (a1 : Int32) (a2 : Int32) (h : AH) (K : Int32 → AH → Prop) : Prop := PR_X8_weighsFrom F 16 a1 a2 h K
theorem c_X8_weighsFrom {l : Launch} {d F : Nat} {a1 : Int32} {a2 : Int32} {h : AH} {K : Int32 → AH → Prop} (hd : 2 + 16 ≤ d) (hM : P_X8_weighsFrom F a1 a2 h K) : Ct l yX8_weighsFrom cX8_weighsFrom 5 (some .int) (rmD d) [.ref 56, .int a1, .int a2] h (Qi K) := cr_X8_weighsFrom 16 d a1 a2 h K hd  hM

def P_X8_isBare (F : Nat) (a1 : Int32) (h : AH) (K : Int32 → AH → Prop) : Prop := vp_in ((nI 13) + a1) 441 ∧ (if ¬ (h 57 ((nI 13) + a1).toNatClampNeg) = (nI 1) then (K (nI 0) h) else (K (nI 1) h))
set_option maxHeartbeats 4000000 in
theorem c_X8_isBare {l : Launch} {d : Nat} {F : Nat} {a1 : Int32} {h : AH} {K : Int32 → AH → Prop} (hd : 0 ≤ d) (hM : P_X8_isBare F a1 h K) : Ct l yX8_isBare cX8_isBare 2 (some .boolean) (rmD d) [.ref 56, .int a1] h (Qi K) := by
  refine Ct_ofBW (by decide) rfl (Nat.le_of_ble_eq_true rfl) ⟨rfl, rfl⟩ ?_
  show BW RX8 cX8_isBare 2 (some .boolean) l (rmD d) tb0 3 [.ref 56, .int a1] [] 0 h (Qi K)
  unfold P_X8_isBare at hM
  refine B_aload_n dX8_isBare_0 rfl ?_
  refine B_getR (sc_56) vc_8 (k := 1) (j := 57) rfl (by decide) inG8 ⟨rfl, rfl, rfl⟩ ww_fl_X8_15 dX8_isBare_1 ?_
  refine B_bipush dX8_isBare_4 k_bi_13 ?_
  refine B_iload_n dX8_isBare_6 rfl ?_
  refine B_iadd dX8_isBare_7 ?_
  refine B_iald (sc_57) hM dX8_isBare_8 (fun hM => ?_)
  refine B_iconst dX8_isBare_9 k_ic_1 ?_
  refine B_icmp_ne dX8_isBare_10 hM (tgt := 17) rfl (fun hM => ?_) (fun hM => ?_)
  · refine B_iconst dX8_isBare_17 k_ic_0 ?_
    exact B_iret ⟨_, rfl, hM⟩ zB_0 dX8_isBare_18
  · refine B_iconst dX8_isBare_13 k_ic_1 ?_
    refine B_goto (tgt := 18) dX8_isBare_14 rfl ?_
    exact B_iret ⟨_, rfl, hM⟩ zB_1 dX8_isBare_18

def P_X8_weighs (F : Nat) (a1 : Int32) (h : AH) (K : Int32 → AH → Prop) : Prop := P_X8_isThing F a1 h (fun (r2 : Int32) (h1 : AH) => if ¬ r2 = (nI 0) then (P_X8_isBare F a1 h1 (fun (r4 : Int32) (h3 : AH) => if r4 = (nI 0) then ((fun (h5 : AH) => P_X8_goesInto F a1 h5 (fun (h6 : AH) => P_X8_weighsFrom F a1 a1 h6 (fun (r8 : Int32) (h7 : AH) => vp_in a1 12 ∧ (vp_in a1 12 ∧ ((fun (h9 : AH) => if (h9 56 14) = (nI 0) then (K r8 h9) else (K (-11 : Int32) h9)) (up h7 62 a1.toNatClampNeg ((h7 62 a1.toNatClampNeg) - (nI 1)))))))) (up h3 56 14 (nI 0))) else (K (-11 : Int32) h3))) else (K (-1 : Int32) h1))
set_option maxHeartbeats 4000000 in
theorem c_X8_weighs {l : Launch} {d : Nat} {F : Nat} {a1 : Int32} {h : AH} {K : Int32 → AH → Prop} (hd : 19 ≤ d) (hM : P_X8_weighs F a1 h K) : Ct l yX8_weighs cX8_weighs 3 (some .int) (rmD d) [.ref 56, .int a1] h (Qi K) := by
  have hk1 : 1 ≤ d := by omega
  have hk_X8_goesInto : 1 ≤ d - 1 := by omega
  have hk_X8_isBare : 0 ≤ d - 1 := by omega
  have hk_X8_isThing : 1 ≤ d - 1 := by omega
  have hk_X8_weighsFrom : 18 ≤ d - 1 := by omega
  refine Ct_ofBW (by decide) rfl (Nat.le_of_ble_eq_true rfl) ⟨rfl, rfl⟩ ?_
  show BW RX8 cX8_weighs 3 (some .int) l (rmD d) tb0 3 [.ref 56, .int a1, .null] [] 0 h (Qi K)
  unfold P_X8_weighs at hM
  refine B_aload_n dX8_weighs_0 rfl ?_
  refine B_iload_n dX8_weighs_1 rfl ?_
  refine B_cV1i (c_X8_isThing (d := d - 1) hk_X8_isThing  hM) csV_X8_70 (sc_56) vc_8 rfl hp0 (rm_f hk1) (rm_l hk1 (by decide)) (Nat.le_of_ble_eq_true rfl) dX8_weighs_2 (fun r2 h1 hM => ?_)
  refine B_if_ne dX8_weighs_5 hM (tgt := 10) rfl (fun hM => ?_) (fun hM => ?_)
  · refine B_aload_n dX8_weighs_10 rfl ?_
    refine B_iload_n dX8_weighs_11 rfl ?_
    refine B_cV1i (c_X8_isBare (d := d - 1) hk_X8_isBare  hM) csV_X8_248 (sc_56) vc_8 rfl hp0 (rm_f hk1) (rm_l hk1 (by decide)) (Nat.le_of_ble_eq_true rfl) dX8_weighs_12 (fun r4 h3 hM => ?_)
    refine B_if_eq dX8_weighs_15 hM (tgt := 21) rfl (fun hM => ?_) (fun hM => ?_)
    · refine B_aload_n dX8_weighs_21 rfl ?_
      refine B_iconst dX8_weighs_22 k_ic_0 ?_
      refine B_putI (fits_Z zB_0) (sc_56) vc_8 (k := 14) rfl (by decide) inG8 ⟨rfl, rfl, rfl⟩ tyX8 tyX8_ok nmX8 rfl rfl ww_fl_X8_238 dX8_weighs_23 ?_
      refine B_aload_n dX8_weighs_26 rfl ?_
      refine B_iload_n dX8_weighs_27 rfl ?_
      refine B_cV1v (c_X8_goesInto (d := d - 1) hk_X8_goesInto  hM) csV_X8_242 (sc_56) vc_8 rfl hp0 (rm_f hk1) (rm_l hk1 (by decide)) (Nat.le_of_ble_eq_true rfl) dX8_weighs_28 (fun h6 hM => ?_)
      refine B_aload_n dX8_weighs_31 rfl ?_
      refine B_iload_n dX8_weighs_32 rfl ?_
      refine B_iload_n dX8_weighs_33 rfl ?_
      refine B_cV2i (c_X8_weighsFrom (d := d - 1) hk_X8_weighsFrom  hM) csV_X8_245 (sc_56) vc_8 rfl hp0 (rm_f hk1) (rm_l hk1 (by decide)) (Nat.le_of_ble_eq_true rfl) dX8_weighs_34 (fun r8 h7 hM => ?_)
      refine B_istore_n dX8_weighs_37 (Nat.le_of_ble_eq_true rfl) ?_
      refine B_aload_n dX8_weighs_38 rfl ?_
      refine B_getR (sc_56) vc_8 (k := 8) (j := 62) rfl (by decide) inG8 ⟨rfl, rfl, rfl⟩ ww_fl_X8_31 dX8_weighs_39 ?_
      refine B_iload_n dX8_weighs_42 rfl ?_
      refine B_dup2 dX8_weighs_43 ?_
      refine B_iald (sc_62) hM dX8_weighs_44 (fun hM => ?_)
      refine B_iconst dX8_weighs_45 k_ic_1 ?_
      refine B_isub dX8_weighs_46 ?_
      refine B_iast (sc_62) hM dX8_weighs_47 (fun hM => ?_)
      refine B_aload_n dX8_weighs_48 rfl ?_
      refine B_getI (sc_56) vc_8 (k := 14) rfl (by decide) inG8 ⟨rfl, rfl, rfl⟩ ww_fl_X8_238 dX8_weighs_49 ?_
      refine B_if_eq dX8_weighs_52 hM (tgt := 60) rfl (fun hM => ?_) (fun hM => ?_)
      · refine B_iload_n dX8_weighs_60 rfl ?_
        exact B_iret ⟨_, rfl, hM⟩ trivial dX8_weighs_61
      · refine B_bipush dX8_weighs_55 k_bi_m11 ?_
        refine B_goto (tgt := 61) dX8_weighs_57 rfl ?_
        exact B_iret ⟨_, rfl, hM⟩ trivial dX8_weighs_61
    · refine B_bipush dX8_weighs_18 k_bi_m11 ?_
      exact B_iret ⟨_, rfl, hM⟩ trivial dX8_weighs_20
  · refine B_iconst dX8_weighs_8 k_ic_m1 ?_
    exact B_iret ⟨_, rfl, hM⟩ trivial dX8_weighs_9

def X8_plunges_c54 (F : Nat) (K : Int32 → AH → Prop) (n : Nat) : Int32 → Int32 → Int32 → AH → Prop := Nat.rec (motive := fun _ => Int32 → Int32 → Int32 → AH → Prop) (fun _ _ _ _ => False) (fun _ rc54 x1 x4 x5 h => if x4 ≤ x5 then (vp_in x1 12 ∧ ((fun (h1 : AH) => K x4 h1) (up h 62 x1.toNatClampNeg (nI 0)))) else (P_X8_goesInto F x1 h (fun (h2 : AH) => rc54 x1 x4 (x5 + (nI 1)) h2))) n
theorem X8_plunges_c54_s {F : Nat} {K : Int32 → AH → Prop} {n : Nat} {x1 : Int32} {x4 : Int32} {x5 : Int32} {h : AH} : X8_plunges_c54 F K (n + 1) x1 x4 x5 h = (if x4 ≤ x5 then (vp_in x1 12 ∧ ((fun (h1 : AH) => K x4 h1) (up h 62 x1.toNatClampNeg (nI 0)))) else (P_X8_goesInto F x1 h (fun (h2 : AH) => (X8_plunges_c54 F K n) x1 x4 (x5 + (nI 1)) h2))) := rfl
set_option maxHeartbeats 4000000 in
theorem bw_X8_plunges_c54 {l : Launch} {d : Nat} {F : Nat} {K : Int32 → AH → Prop} (hd : 2 ≤ d) : ∀ (n : Nat) (x1 : Int32) (x4 : Int32) (x5 : Int32) (h : AH), X8_plunges_c54 F K n x1 x4 x5 h → BW RX8 cX8_plunges 6 (some .int) l (rmD d) tb0 3 [.ref 56, .int x1, .null, .null, .int x4, .int x5] [] 54 h (Qi K) := by
  have hk1 : 1 ≤ d := by omega
  have hk_X8_goesInto : 1 ≤ d - 1 := by omega
  have hk_X8_in : 0 ≤ d - 1 := by omega
  have hk_X8_isBare : 0 ≤ d - 1 := by omega
  have hk_X8_isThing : 1 ≤ d - 1 := by omega
  intro n
  induction n with
  | zero =>
    intro x1 x4 x5 h hM
    exact hM.elim
  | succ n hr54 =>
    intro x1 x4 x5 h hM
    rw [X8_plunges_c54_s] at hM
    refine B_iload dX8_plunges_54 rfl ?_
    refine B_iload dX8_plunges_56 rfl ?_
    refine B_icmp_ge dX8_plunges_58 hM (tgt := 72) rfl (fun hM => ?_) (fun hM => ?_)
    · refine B_aload_n dX8_plunges_72 rfl ?_
      refine B_getR (sc_56) vc_8 (k := 8) (j := 62) rfl (by decide) inG8 ⟨rfl, rfl, rfl⟩ ww_fl_X8_31 dX8_plunges_73 ?_
      refine B_iload_n dX8_plunges_76 rfl ?_
      refine B_iconst dX8_plunges_77 k_ic_0 ?_
      refine B_iast (sc_62) hM dX8_plunges_78 (fun hM => ?_)
      refine B_iload dX8_plunges_79 rfl ?_
      exact B_iret ⟨_, rfl, hM⟩ trivial dX8_plunges_81
    · refine B_aload_n dX8_plunges_61 rfl ?_
      refine B_iload_n dX8_plunges_62 rfl ?_
      refine B_cV1v (c_X8_goesInto (d := d - 1) hk_X8_goesInto  hM) csV_X8_242 (sc_56) vc_8 rfl hp0 (rm_f hk1) (rm_l hk1 (by decide)) (Nat.le_of_ble_eq_true rfl) dX8_plunges_63 (fun h2 hM => ?_)
      refine B_iinc dX8_plunges_66 rfl k_ic_1 (Nat.le_of_ble_eq_true rfl) ?_
      refine B_goto (tgt := 54) dX8_plunges_69 rfl ?_
      exact B_wk (hr54 _ _ _ _ hM) (wk_1 (wk_1 (wk_0 (wk_0 (wk_1 (wk_1 wk_n))))))
def X8_plunges_c49 (F : Nat) (K : Int32 → AH → Prop) (x1 : Int32) (s0 : Int32) (h : AH) : Prop := X8_plunges_c54 F K F x1 s0 (nI 0) h
set_option maxHeartbeats 4000000 in
theorem bw_X8_plunges_c49 {l : Launch} {d : Nat} {F : Nat} {K : Int32 → AH → Prop} {x1 : Int32} {s0 : Int32} {h : AH} (hd : 2 ≤ d) (hM : X8_plunges_c49 F K x1 s0 h) : BW RX8 cX8_plunges 6 (some .int) l (rmD d) tb0 3 [.ref 56, .int x1, .null, .null, .null, .null] [.int s0] 49 h (Qi K) := by
  have hk1 : 1 ≤ d := by omega
  have hk_X8_goesInto : 1 ≤ d - 1 := by omega
  have hk_X8_in : 0 ≤ d - 1 := by omega
  have hk_X8_isBare : 0 ≤ d - 1 := by omega
  have hk_X8_isThing : 1 ≤ d - 1 := by omega
  unfold X8_plunges_c49 at hM
  refine B_istore dX8_plunges_49 (Nat.le_of_ble_eq_true rfl) ?_
  refine B_iconst dX8_plunges_51 k_ic_0 ?_
  refine B_istore dX8_plunges_52 (Nat.le_of_ble_eq_true rfl) ?_
  exact B_wk (bw_X8_plunges_c54 hd  _ _ _ _ _ hM) (wk_1 (wk_1 (wk_0 (wk_0 (wk_1 (wk_1 wk_n))))))
def P_X8_plunges (F : Nat) (a1 : Int32) (a2 : Int32) (a3 : Int32) (h : AH) (K : Int32 → AH → Prop) : Prop := P_X8_isThing F a1 h (fun (r2 : Int32) (h1 : AH) => if r2 = (nI 0) then (K (-1 : Int32) h1) else (P_X8_in F a2 (nI 1) (nI 30) h1 (fun (r4 : Int32) (h3 : AH) => if r4 = (nI 0) then (K (-1 : Int32) h3) else (P_X8_in F a3 (nI 0) a2 h3 (fun (r6 : Int32) (h5 : AH) => if ¬ r6 = (nI 0) then (P_X8_isBare F a1 h5 (fun (r8 : Int32) (h7 : AH) => if r8 = (nI 0) then (if ¬ a3 = (nI 0) then (X8_plunges_c49 F K a1 a3 h7) else (X8_plunges_c49 F K a1 a2 h7)) else (K (-11 : Int32) h7))) else (K (-1 : Int32) h5))))))
set_option maxHeartbeats 4000000 in
theorem c_X8_plunges {l : Launch} {d : Nat} {F : Nat} {a1 : Int32} {a2 : Int32} {a3 : Int32} {h : AH} {K : Int32 → AH → Prop} (hd : 2 ≤ d) (hM : P_X8_plunges F a1 a2 a3 h K) : Ct l yX8_plunges cX8_plunges 6 (some .int) (rmD d) [.ref 56, .int a1, .int a2, .int a3] h (Qi K) := by
  have hk1 : 1 ≤ d := by omega
  have hk_X8_goesInto : 1 ≤ d - 1 := by omega
  have hk_X8_in : 0 ≤ d - 1 := by omega
  have hk_X8_isBare : 0 ≤ d - 1 := by omega
  have hk_X8_isThing : 1 ≤ d - 1 := by omega
  refine Ct_ofBW (by decide) rfl (Nat.le_of_ble_eq_true rfl) ⟨rfl, rfl⟩ ?_
  show BW RX8 cX8_plunges 6 (some .int) l (rmD d) tb0 3 [.ref 56, .int a1, .int a2, .int a3, .null, .null] [] 0 h (Qi K)
  unfold P_X8_plunges at hM
  refine B_aload_n dX8_plunges_0 rfl ?_
  refine B_iload_n dX8_plunges_1 rfl ?_
  refine B_cV1i (c_X8_isThing (d := d - 1) hk_X8_isThing  hM) csV_X8_70 (sc_56) vc_8 rfl hp0 (rm_f hk1) (rm_l hk1 (by decide)) (Nat.le_of_ble_eq_true rfl) dX8_plunges_2 (fun r2 h1 hM => ?_)
  refine B_if_eq dX8_plunges_5 hM (tgt := 27) rfl (fun hM => ?_) (fun hM => ?_)
  · refine B_iconst dX8_plunges_27 k_ic_m1 ?_
    exact B_iret ⟨_, rfl, hM⟩ trivial dX8_plunges_28
  · refine B_iload_n dX8_plunges_8 rfl ?_
    refine B_iconst dX8_plunges_9 k_ic_1 ?_
    refine B_bipush dX8_plunges_10 k_bi_30 ?_
    refine B_cS3i (c_X8_in (d := d - 1) hk_X8_in  hM) csS_X8_62 hp0 (rm_f hk1) (rm_l hk1 (by decide)) (Nat.le_of_ble_eq_true rfl) dX8_plunges_12 (fun r4 h3 hM => ?_)
    refine B_if_eq dX8_plunges_15 hM (tgt := 27) rfl (fun hM => ?_) (fun hM => ?_)
    · refine B_iconst dX8_plunges_27 k_ic_m1 ?_
      exact B_iret ⟨_, rfl, hM⟩ trivial dX8_plunges_28
    · refine B_iload_n dX8_plunges_18 rfl ?_
      refine B_iconst dX8_plunges_19 k_ic_0 ?_
      refine B_iload_n dX8_plunges_20 rfl ?_
      refine B_cS3i (c_X8_in (d := d - 1) hk_X8_in  hM) csS_X8_62 hp0 (rm_f hk1) (rm_l hk1 (by decide)) (Nat.le_of_ble_eq_true rfl) dX8_plunges_21 (fun r6 h5 hM => ?_)
      refine B_if_ne dX8_plunges_24 hM (tgt := 29) rfl (fun hM => ?_) (fun hM => ?_)
      · refine B_aload_n dX8_plunges_29 rfl ?_
        refine B_iload_n dX8_plunges_30 rfl ?_
        refine B_cV1i (c_X8_isBare (d := d - 1) hk_X8_isBare  hM) csV_X8_248 (sc_56) vc_8 rfl hp0 (rm_f hk1) (rm_l hk1 (by decide)) (Nat.le_of_ble_eq_true rfl) dX8_plunges_31 (fun r8 h7 hM => ?_)
        refine B_if_eq dX8_plunges_34 hM (tgt := 40) rfl (fun hM => ?_) (fun hM => ?_)
        · refine B_iload_n dX8_plunges_40 rfl ?_
          refine B_if_ne dX8_plunges_41 hM (tgt := 48) rfl (fun hM => ?_) (fun hM => ?_)
          · refine B_iload_n dX8_plunges_48 rfl ?_
            exact B_wk (bw_X8_plunges_c49 hd  hM) (wk_1 (wk_1 (wk_0 (wk_0 (wk_0 (wk_0 wk_n))))))
          · refine B_iload_n dX8_plunges_44 rfl ?_
            refine B_goto (tgt := 49) dX8_plunges_45 rfl ?_
            exact B_wk (bw_X8_plunges_c49 hd  hM) (wk_1 (wk_1 (wk_0 (wk_0 (wk_0 (wk_0 wk_n))))))
        · refine B_bipush dX8_plunges_37 k_bi_m11 ?_
          exact B_iret ⟨_, rfl, hM⟩ trivial dX8_plunges_39
      · refine B_iconst dX8_plunges_27 k_ic_m1 ?_
        exact B_iret ⟨_, rfl, hM⟩ trivial dX8_plunges_28

def P_X8_bell (F : Nat) (a1 : Int32) (a2 : Int32) (h : AH) (K : Int32 → AH → Prop) : Prop := P_X8_isThing F a1 h (fun (r2 : Int32) (h1 : AH) => if r2 = (nI 0) then (K (-1 : Int32) h1) else (P_X8_in F a2 (nI 0) (nI 3) h1 (fun (r4 : Int32) (h3 : AH) => if ¬ r4 = (nI 0) then (P_X8_isBare F a1 h3 (fun (r6 : Int32) (h5 : AH) => if r6 = (nI 0) then (if a2 ≤ (nI 1) then (P_X8_goesInto F a1 h5 (fun (h7 : AH) => vp_in a1 12 ∧ (vp_in a1 12 ∧ ((fun (h8 : AH) => K (nI 1) h8) (up h7 62 a1.toNatClampNeg ((h7 62 a1.toNatClampNeg) - (nI 1))))))) else (K (-12 : Int32) h5)) else (K (-11 : Int32) h5))) else (K (-1 : Int32) h3))))
set_option maxHeartbeats 4000000 in
theorem c_X8_bell {l : Launch} {d : Nat} {F : Nat} {a1 : Int32} {a2 : Int32} {h : AH} {K : Int32 → AH → Prop} (hd : 2 ≤ d) (hM : P_X8_bell F a1 a2 h K) : Ct l yX8_bell cX8_bell 3 (some .int) (rmD d) [.ref 56, .int a1, .int a2] h (Qi K) := by
  have hk1 : 1 ≤ d := by omega
  have hk_X8_goesInto : 1 ≤ d - 1 := by omega
  have hk_X8_in : 0 ≤ d - 1 := by omega
  have hk_X8_isBare : 0 ≤ d - 1 := by omega
  have hk_X8_isThing : 1 ≤ d - 1 := by omega
  refine Ct_ofBW (by decide) rfl (Nat.le_of_ble_eq_true rfl) ⟨rfl, rfl⟩ ?_
  show BW RX8 cX8_bell 3 (some .int) l (rmD d) tb0 3 [.ref 56, .int a1, .int a2] [] 0 h (Qi K)
  unfold P_X8_bell at hM
  refine B_aload_n dX8_bell_0 rfl ?_
  refine B_iload_n dX8_bell_1 rfl ?_
  refine B_cV1i (c_X8_isThing (d := d - 1) hk_X8_isThing  hM) csV_X8_70 (sc_56) vc_8 rfl hp0 (rm_f hk1) (rm_l hk1 (by decide)) (Nat.le_of_ble_eq_true rfl) dX8_bell_2 (fun r2 h1 hM => ?_)
  refine B_if_eq dX8_bell_5 hM (tgt := 17) rfl (fun hM => ?_) (fun hM => ?_)
  · refine B_iconst dX8_bell_17 k_ic_m1 ?_
    exact B_iret ⟨_, rfl, hM⟩ trivial dX8_bell_18
  · refine B_iload_n dX8_bell_8 rfl ?_
    refine B_iconst dX8_bell_9 k_ic_0 ?_
    refine B_iconst dX8_bell_10 k_ic_3 ?_
    refine B_cS3i (c_X8_in (d := d - 1) hk_X8_in  hM) csS_X8_62 hp0 (rm_f hk1) (rm_l hk1 (by decide)) (Nat.le_of_ble_eq_true rfl) dX8_bell_11 (fun r4 h3 hM => ?_)
    refine B_if_ne dX8_bell_14 hM (tgt := 19) rfl (fun hM => ?_) (fun hM => ?_)
    · refine B_aload_n dX8_bell_19 rfl ?_
      refine B_iload_n dX8_bell_20 rfl ?_
      refine B_cV1i (c_X8_isBare (d := d - 1) hk_X8_isBare  hM) csV_X8_248 (sc_56) vc_8 rfl hp0 (rm_f hk1) (rm_l hk1 (by decide)) (Nat.le_of_ble_eq_true rfl) dX8_bell_21 (fun r6 h5 hM => ?_)
      refine B_if_eq dX8_bell_24 hM (tgt := 30) rfl (fun hM => ?_) (fun hM => ?_)
      · refine B_iload_n dX8_bell_30 rfl ?_
        refine B_iconst dX8_bell_31 k_ic_1 ?_
        refine B_icmp_le dX8_bell_32 hM (tgt := 38) rfl (fun hM => ?_) (fun hM => ?_)
        · refine B_aload_n dX8_bell_38 rfl ?_
          refine B_iload_n dX8_bell_39 rfl ?_
          refine B_cV1v (c_X8_goesInto (d := d - 1) hk_X8_goesInto  hM) csV_X8_242 (sc_56) vc_8 rfl hp0 (rm_f hk1) (rm_l hk1 (by decide)) (Nat.le_of_ble_eq_true rfl) dX8_bell_40 (fun h7 hM => ?_)
          refine B_aload_n dX8_bell_43 rfl ?_
          refine B_getR (sc_56) vc_8 (k := 8) (j := 62) rfl (by decide) inG8 ⟨rfl, rfl, rfl⟩ ww_fl_X8_31 dX8_bell_44 ?_
          refine B_iload_n dX8_bell_47 rfl ?_
          refine B_dup2 dX8_bell_48 ?_
          refine B_iald (sc_62) hM dX8_bell_49 (fun hM => ?_)
          refine B_iconst dX8_bell_50 k_ic_1 ?_
          refine B_isub dX8_bell_51 ?_
          refine B_iast (sc_62) hM dX8_bell_52 (fun hM => ?_)
          refine B_iconst dX8_bell_53 k_ic_1 ?_
          exact B_iret ⟨_, rfl, hM⟩ trivial dX8_bell_54
        · refine B_bipush dX8_bell_35 k_bi_m12 ?_
          exact B_iret ⟨_, rfl, hM⟩ trivial dX8_bell_37
      · refine B_bipush dX8_bell_27 k_bi_m11 ?_
        exact B_iret ⟨_, rfl, hM⟩ trivial dX8_bell_29
    · refine B_iconst dX8_bell_17 k_ic_m1 ?_
      exact B_iret ⟨_, rfl, hM⟩ trivial dX8_bell_18
