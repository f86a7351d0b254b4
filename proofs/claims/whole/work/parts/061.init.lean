theorem ww_ml_X0_3 : Cond.methodLink RX0 3 Lib.objectInit ∈ lw_g := lwm 189 (by decide +kernel) rfl
theorem ww_obi : Cond.instanceMethod Lib.objectInit ∈ lw_g := lwm 81 (by decide +kernel) rfl
theorem ww_obc : Cond.code Lib.objectInit ⟨#[0xb1]⟩ 1 none ∈ lw_g := lwm 82 (by decide +kernel) rfl
theorem ww_ar_int : Cond.arrayClass .int ∈ lw_g := lwm 150 (by decide +kernel) rfl
theorem ww_ml_X1_3 : Cond.methodLink RX1 3 Lib.objectInit ∈ lw_g := lwm 257 (by decide +kernel) rfl
theorem ww_ml_X2_1 : Cond.methodLink RX2 1 Lib.objectInit ∈ lw_g := lwm 178 (by decide +kernel) rfl
theorem ww_ml_X3_3 : Cond.methodLink RX3 3 Lib.objectInit ∈ lw_g := lwm 242 (by decide +kernel) rfl
theorem ww_ar_byte : Cond.arrayClass .byte ∈ lw_g := lwm 236 (by decide +kernel) rfl
theorem ww_ml_X4_3 : Cond.methodLink RX4 3 Lib.objectInit ∈ lw_g := lwm 156 (by decide +kernel) rfl
theorem ww_ml_X5_3 : Cond.methodLink RX5 3 Lib.objectInit ∈ lw_g := lwm 88 (by decide +kernel) rfl
theorem ww_ml_X6_3 : Cond.methodLink RX6 3 Lib.objectInit ∈ lw_g := lwm 208 (by decide +kernel) rfl
theorem ww_ml_X7_3 : Cond.methodLink RX7 3 Lib.objectInit ∈ lw_g := lwm 80 (by decide +kernel) rfl
theorem ww_cl_X7_9 : Cond.classLink RX7 9 RX5 ∈ lw_g := lwm 83 (by decide +kernel) rfl
theorem ww_ins_RX5 : Cond.instantiable RX5 15 ∈ lw_g := lwm 84 (by decide +kernel) rfl
theorem ww_code_yX5_init : Cond.code yX5_init cX5_init 1 none ∈ lw_g := lwm 87 (by decide +kernel) rfl
theorem ww_instanceMethod_yX5_init : Cond.instanceMethod yX5_init ∈ lw_g := lwm 86 (by decide +kernel) rfl
theorem ww_cl_X7_28 : Cond.classLink RX7 28 RX4 ∈ lw_g := lwm 151 (by decide +kernel) rfl
theorem ww_ins_RX4 : Cond.instantiable RX4 4 ∈ lw_g := lwm 152 (by decide +kernel) rfl
theorem ww_code_yX4_init : Cond.code yX4_init cX4_init 1 none ∈ lw_g := lwm 155 (by decide +kernel) rfl
theorem ww_instanceMethod_yX4_init : Cond.instanceMethod yX4_init ∈ lw_g := lwm 154 (by decide +kernel) rfl
theorem ww_cl_X7_35 : Cond.classLink RX7 35 RX2 ∈ lw_g := lwm 173 (by decide +kernel) rfl
theorem ww_ins_RX2 : Cond.instantiable RX2 1 ∈ lw_g := lwm 174 (by decide +kernel) rfl
theorem ww_code_yX2_init : Cond.code yX2_init cX2_init 1 none ∈ lw_g := lwm 177 (by decide +kernel) rfl
theorem ww_instanceMethod_yX2_init : Cond.instanceMethod yX2_init ∈ lw_g := lwm 176 (by decide +kernel) rfl
theorem ww_cl_X7_42 : Cond.classLink RX7 42 RX0 ∈ lw_g := lwm 184 (by decide +kernel) rfl
theorem ww_ins_RX0 : Cond.instantiable RX0 3 ∈ lw_g := lwm 185 (by decide +kernel) rfl
theorem ww_code_yX0_init : Cond.code yX0_init cX0_init 1 none ∈ lw_g := lwm 188 (by decide +kernel) rfl
theorem ww_instanceMethod_yX0_init : Cond.instanceMethod yX0_init ∈ lw_g := lwm 187 (by decide +kernel) rfl
theorem ww_cl_X7_49 : Cond.classLink RX7 49 RX6 ∈ lw_g := lwm 203 (by decide +kernel) rfl
theorem ww_ins_RX6 : Cond.instantiable RX6 8 ∈ lw_g := lwm 204 (by decide +kernel) rfl
theorem ww_code_yX6_init : Cond.code yX6_init cX6_init 1 none ∈ lw_g := lwm 207 (by decide +kernel) rfl
theorem ww_instanceMethod_yX6_init : Cond.instanceMethod yX6_init ∈ lw_g := lwm 206 (by decide +kernel) rfl
theorem ww_cl_X7_56 : Cond.classLink RX7 56 RX3 ∈ lw_g := lwm 237 (by decide +kernel) rfl
theorem ww_ins_RX3 : Cond.instantiable RX3 2 ∈ lw_g := lwm 238 (by decide +kernel) rfl
theorem ww_code_yX3_init : Cond.code yX3_init cX3_init 1 none ∈ lw_g := lwm 241 (by decide +kernel) rfl
theorem ww_instanceMethod_yX3_init : Cond.instanceMethod yX3_init ∈ lw_g := lwm 240 (by decide +kernel) rfl
theorem ww_cl_X7_63 : Cond.classLink RX7 63 RX1 ∈ lw_g := lwm 252 (by decide +kernel) rfl
theorem ww_ins_RX1 : Cond.instantiable RX1 2 ∈ lw_g := lwm 253 (by decide +kernel) rfl
theorem ww_code_yX1_init : Cond.code yX1_init cX1_init 1 none ∈ lw_g := lwm 256 (by decide +kernel) rfl
theorem ww_instanceMethod_yX1_init : Cond.instanceMethod yX1_init ∈ lw_g := lwm 255 (by decide +kernel) rfl
theorem ww_ml_X8_9 : Cond.methodLink RX8 9 Lib.objectInit ∈ lw_g := lwm 731 (by decide +kernel) rfl
theorem k_si_6000 : (Int16.ofInt 6000).toInt32 = (nI 6000) := by decide
abbrev bl_X0 : List Value := [.null, .null, .null]
theorem bl_ok_X0 : ∀ j, j < 3 → defaultValue (tyX0 j) = vp_V bl_X0 j := by
  intro j hj
  rcases (show j = 0 ∨ j = 1 ∨ j = 2 by omega) with rfl | rfl | rfl <;> rfl
abbrev bl_X1 : List Value := [.null, .null]
theorem bl_ok_X1 : ∀ j, j < 2 → defaultValue (tyX1 j) = vp_V bl_X1 j := by
  intro j hj
  rcases (show j = 0 ∨ j = 1 by omega) with rfl | rfl <;> rfl
abbrev bl_X2 : List Value := [.int 0]
theorem bl_ok_X2 : ∀ j, j < 1 → defaultValue (tyX2 j) = vp_V bl_X2 j := by
  intro j hj
  rcases (show j = 0 by omega) with rfl <;> rfl
abbrev bl_X3 : List Value := [.int 0, .null]
theorem bl_ok_X3 : ∀ j, j < 2 → defaultValue (tyX3 j) = vp_V bl_X3 j := by
  intro j hj
  rcases (show j = 0 ∨ j = 1 by omega) with rfl | rfl <;> rfl
abbrev bl_X4 : List Value := [.null, .int 0, .int 0, .int 0]
theorem bl_ok_X4 : ∀ j, j < 4 → defaultValue (tyX4 j) = vp_V bl_X4 j := by
  intro j hj
  rcases (show j = 0 ∨ j = 1 ∨ j = 2 ∨ j = 3 by omega) with rfl | rfl | rfl | rfl <;> rfl
abbrev bl_X5 : List Value := [.int 0, .null, .null, .null, .null, .int 0, .null, .null, .null, .int 0, .null, .null, .null, .int 0, .null]
theorem bl_ok_X5 : ∀ j, j < 15 → defaultValue (tyX5 j) = vp_V bl_X5 j := by
  intro j hj
  rcases (show j = 0 ∨ j = 1 ∨ j = 2 ∨ j = 3 ∨ j = 4 ∨ j = 5 ∨ j = 6 ∨ j = 7 ∨ j = 8 ∨ j = 9 ∨ j = 10 ∨ j = 11 ∨ j = 12 ∨ j = 13 ∨ j = 14 by omega) with rfl | rfl | rfl | rfl | rfl | rfl | rfl | rfl | rfl | rfl | rfl | rfl | rfl | rfl | rfl <;> rfl
abbrev bl_X6 : List Value := [.int 0, .null, .int 0, .null, .null, .null, .null, .null]
theorem bl_ok_X6 : ∀ j, j < 8 → defaultValue (tyX6 j) = vp_V bl_X6 j := by
  intro j hj
  rcases (show j = 0 ∨ j = 1 ∨ j = 2 ∨ j = 3 ∨ j = 4 ∨ j = 5 ∨ j = 6 ∨ j = 7 by omega) with rfl | rfl | rfl | rfl | rfl | rfl | rfl | rfl <;> rfl
abbrev bl_X7 : List Value := [.null, .null, .null, .int 0, .null, .null, .null, .null, .null, .null]
theorem bl_ok_X7 : ∀ j, j < 10 → defaultValue (tyX7 j) = vp_V bl_X7 j := by
  intro j hj
  rcases (show j = 0 ∨ j = 1 ∨ j = 2 ∨ j = 3 ∨ j = 4 ∨ j = 5 ∨ j = 6 ∨ j = 7 ∨ j = 8 ∨ j = 9 by omega) with rfl | rfl | rfl | rfl | rfl | rfl | rfl | rfl | rfl | rfl <;> rfl
abbrev bl_X8 : List Value := [.int 0, .null, .null, .null, .int 0, .int 0, .null, .null, .null, .null, .int 0, .int 0, .int 0, .int 0, .int 0, .null, .int 0, .int 0, .int 0, .int 0, .int 0, .int 0, .int 0, .null, .int 0, .null, .null, .null, .int 0]
theorem bl_ok_X8 : ∀ j, j < 29 → defaultValue (tyX8 j) = vp_V bl_X8 j := by
  intro j hj
  rcases (show j = 0 ∨ j = 1 ∨ j = 2 ∨ j = 3 ∨ j = 4 ∨ j = 5 ∨ j = 6 ∨ j = 7 ∨ j = 8 ∨ j = 9 ∨ j = 10 ∨ j = 11 ∨ j = 12 ∨ j = 13 ∨ j = 14 ∨ j = 15 ∨ j = 16 ∨ j = 17 ∨ j = 18 ∨ j = 19 ∨ j = 20 ∨ j = 21 ∨ j = 22 ∨ j = 23 ∨ j = 24 ∨ j = 25 ∨ j = 26 ∨ j = 27 ∨ j = 28 by omega) with rfl | rfl | rfl | rfl | rfl | rfl | rfl | rfl | rfl | rfl | rfl | rfl | rfl | rfl | rfl | rfl | rfl | rfl | rfl | rfl | rfl | rfl | rfl | rfl | rfl | rfl | rfl | rfl | rfl <;> rfl
abbrev szI : Nat → Int32 := upd (upd (upd (fun _ => 0) 0 (-1)) 1 (-1)) 2 (-1)
def wd_X0 (f : Nat → Nat) (cA : Bool → ClassId) : va_W := [(f 0, .inr (0, [.ref (f 1), .ref (f 2), .ref (f 3)])), (f 1, .inl (cA false, 12, .inl (fun _ => 0))), (f 2, .inl (cA false, 12, .inl (fun _ => 0))), (f 3, .inl (cA false, 12, .inl (fun _ => 0)))]
set_option maxRecDepth 20000 in
set_option maxHeartbeats 4000000 in
theorem c_X0_init (l : Launch) : CtA l yX0_init cX0_init 1 { frames := 1, cells := 3, slots := 36, locals := 40 * 1 } 0 bl_X0 3 36 (fun cA a ws => ∃ f : Nat → Nat, f 0 = a ∧ ws = wd_X0 f cA) := by
  refine CtA_ofAW (by decide) (by decide) rfl (fun D cA a => ?_)
  show AW RX0 cX0_init 1 l _ D cA true [(a, .inr (0, bl_X0))] [.ref a] [] 0 0 0 _
  refine A_aload_n dX0_init_0 rfl ?_
  refine A_obj ⟨ww_ml_X0_3, ww_obi, ww_obc⟩ dX0_init_1 (Nat.le_of_ble_eq_true rfl) (Nat.le_of_ble_eq_true rfl) ?_
  refine A_aload_n dX0_init_4 rfl ?_
  refine A_bipush dX0_init_5 k_bi_12 ?_
  refine A_newa_int (N := 12) ww_ar_int dX0_init_7 (by decide) (by decide) (Nat.le_of_ble_eq_true rfl) (Nat.le_of_ble_eq_true rfl) (Nat.le_of_ble_eq_true rfl) (fun q1 => ?_)
  refine A_putF rfl vc_0 (j := 0) (by decide) inG0 ⟨rfl, rfl, rfl⟩ tyX0 tyX0_ok nmX0 rfl rfl rfl ⟨rfl, rfl⟩ (Nat.le_of_ble_eq_true rfl) ww_fl_X0_9 dX0_init_9 ?_
  refine A_aload_n dX0_init_12 rfl ?_
  refine A_bipush dX0_init_13 k_bi_12 ?_
  refine A_newa_int (N := 12) ww_ar_int dX0_init_15 (by decide) (by decide) (Nat.le_of_ble_eq_true rfl) (Nat.le_of_ble_eq_true rfl) (Nat.le_of_ble_eq_true rfl) (fun q2 => ?_)
  refine A_putF rfl vc_0 (j := 1) (by decide) inG0 ⟨rfl, rfl, rfl⟩ tyX0 tyX0_ok nmX0 rfl rfl rfl ⟨rfl, rfl⟩ (Nat.le_of_ble_eq_true rfl) ww_fl_X0_15 dX0_init_17 ?_
  refine A_aload_n dX0_init_20 rfl ?_
  refine A_bipush dX0_init_21 k_bi_12 ?_
  refine A_newa_int (N := 12) ww_ar_int dX0_init_23 (by decide) (by decide) (Nat.le_of_ble_eq_true rfl) (Nat.le_of_ble_eq_true rfl) (Nat.le_of_ble_eq_true rfl) (fun q3 => ?_)
  refine A_putF rfl vc_0 (j := 2) (by decide) inG0 ⟨rfl, rfl, rfl⟩ tyX0 tyX0_ok nmX0 rfl rfl rfl ⟨rfl, rfl⟩ (Nat.le_of_ble_eq_true rfl) ww_fl_X0_18 dX0_init_25 ?_
  exact A_exit ⟨dX0_init_28, ⟨(fun i => match i with | 1 => q1 | 2 => q2 | 3 => q3 | _ => a), rfl, rfl⟩, Nat.le_of_ble_eq_true rfl, Nat.le_of_ble_eq_true rfl⟩
def wd_X1 (f : Nat → Nat) (cA : Bool → ClassId) : va_W := [(f 0, .inr (1, [.ref (f 1), .ref (f 2)])), (f 1, .inl (cA false, 108, .inl (fun _ => 0))), (f 2, .inl (cA false, 3, .inl szI))]
set_option maxRecDepth 20000 in
set_option maxHeartbeats 4000000 in
theorem c_X1_init (l : Launch) : CtA l yX1_init cX1_init 1 { frames := 1, cells := 2, slots := 111, locals := 40 * 1 } 1 bl_X1 2 111 (fun cA a ws => ∃ f : Nat → Nat, f 0 = a ∧ ws = wd_X1 f cA) := by
  refine CtA_ofAW (by decide) (by decide) rfl (fun D cA a => ?_)
  show AW RX1 cX1_init 1 l _ D cA true [(a, .inr (1, bl_X1))] [.ref a] [] 0 0 0 _
  refine A_aload_n dX1_init_0 rfl ?_
  refine A_obj ⟨ww_ml_X1_3, ww_obi, ww_obc⟩ dX1_init_1 (Nat.le_of_ble_eq_true rfl) (Nat.le_of_ble_eq_true rfl) ?_
  refine A_aload_n dX1_init_4 rfl ?_
  refine A_bipush dX1_init_5 k_bi_108 ?_
  refine A_newa_int (N := 108) ww_ar_int dX1_init_7 (by decide) (by decide) (Nat.le_of_ble_eq_true rfl) (Nat.le_of_ble_eq_true rfl) (Nat.le_of_ble_eq_true rfl) (fun q1 => ?_)
  refine A_putF rfl vc_1 (j := 0) (by decide) inG1 ⟨rfl, rfl, rfl⟩ tyX1 tyX1_ok nmX1 rfl rfl rfl ⟨rfl, rfl⟩ (Nat.le_of_ble_eq_true rfl) ww_fl_X1_9 dX1_init_9 ?_
  refine A_aload_n dX1_init_12 rfl ?_
  refine A_iconst dX1_init_13 k_ic_3 ?_
  refine A_newa_int (N := 3) ww_ar_int dX1_init_14 (by decide) (by decide) (Nat.le_of_ble_eq_true rfl) (Nat.le_of_ble_eq_true rfl) (Nat.le_of_ble_eq_true rfl) (fun q2 => ?_)
  refine A_dup dX1_init_16 ?_
  refine A_iconst dX1_init_17 k_ic_0 ?_
  refine A_iconst dX1_init_18 k_ic_m1 ?_
  refine A_iast (i := 2) rfl (by unfold vp_in; decide) rfl dX1_init_19 ?_
  refine A_dup dX1_init_20 ?_
  refine A_iconst dX1_init_21 k_ic_1 ?_
  refine A_iconst dX1_init_22 k_ic_m1 ?_
  refine A_iast (i := 2) rfl (by unfold vp_in; decide) rfl dX1_init_23 ?_
  refine A_dup dX1_init_24 ?_
  refine A_iconst dX1_init_25 k_ic_2 ?_
  refine A_iconst dX1_init_26 k_ic_m1 ?_
  refine A_iast (i := 2) rfl (by unfold vp_in; decide) rfl dX1_init_27 ?_
  refine A_putF rfl vc_1 (j := 1) (by decide) inG1 ⟨rfl, rfl, rfl⟩ tyX1 tyX1_ok nmX1 rfl rfl rfl ⟨rfl, rfl⟩ (Nat.le_of_ble_eq_true rfl) ww_fl_X1_15 dX1_init_28 ?_
  exact A_exit ⟨dX1_init_31, ⟨(fun i => match i with | 1 => q1 | 2 => q2 | _ => a), rfl, rfl⟩, Nat.le_of_ble_eq_true rfl, Nat.le_of_ble_eq_true rfl⟩
def wd_X2 (f : Nat → Nat) (cA : Bool → ClassId) : va_W := [(f 0, .inr (2, [.int 0]))]
set_option maxRecDepth 20000 in
set_option maxHeartbeats 4000000 in
theorem c_X2_init (l : Launch) : CtA l yX2_init cX2_init 1 { frames := 1, cells := 0, slots := 0, locals := 40 * 1 } 2 bl_X2 0 0 (fun cA a ws => ∃ f : Nat → Nat, f 0 = a ∧ ws = wd_X2 f cA) := by
  refine CtA_ofAW (by decide) (by decide) rfl (fun D cA a => ?_)
  show AW RX2 cX2_init 1 l _ D cA true [(a, .inr (2, bl_X2))] [.ref a] [] 0 0 0 _
  refine A_aload_n dX2_init_0 rfl ?_
  refine A_obj ⟨ww_ml_X2_1, ww_obi, ww_obc⟩ dX2_init_1 (Nat.le_of_ble_eq_true rfl) (Nat.le_of_ble_eq_true rfl) ?_
  refine A_aload_n dX2_init_4 rfl ?_
  refine A_iconst dX2_init_5 k_ic_0 ?_
  refine A_putI (fits_I _) vc_2 (j := 0) (by decide) inG2 ⟨rfl, rfl, rfl⟩ tyX2 tyX2_ok nmX2 rfl rfl (Nat.le_of_ble_eq_true rfl) ww_fl_X2_7 dX2_init_6 ?_
  exact A_exit ⟨dX2_init_9, ⟨(fun i => match i with  | _ => a), rfl, rfl⟩, Nat.le_of_ble_eq_true rfl, Nat.le_of_ble_eq_true rfl⟩
def wd_X3 (f : Nat → Nat) (cA : Bool → ClassId) : va_W := [(f 0, .inr (3, [.int 0, .ref (f 1)])), (f 1, .inl (cA true, 3960, .inl (fun _ => 0)))]
set_option maxRecDepth 20000 in
set_option maxHeartbeats 4000000 in
theorem c_X3_init (l : Launch) : CtA l yX3_init cX3_init 1 { frames := 1, cells := 1, slots := 3960, locals := 40 * 1 } 3 bl_X3 1 3960 (fun cA a ws => ∃ f : Nat → Nat, f 0 = a ∧ ws = wd_X3 f cA) := by
  refine CtA_ofAW (by decide) (by decide) rfl (fun D cA a => ?_)
  show AW RX3 cX3_init 1 l _ D cA true [(a, .inr (3, bl_X3))] [.ref a] [] 0 0 0 _
  refine A_aload_n dX3_init_0 rfl ?_
  refine A_obj ⟨ww_ml_X3_3, ww_obi, ww_obc⟩ dX3_init_1 (Nat.le_of_ble_eq_true rfl) (Nat.le_of_ble_eq_true rfl) ?_
  refine A_aload_n dX3_init_4 rfl ?_
  refine A_iconst dX3_init_5 k_ic_0 ?_
  refine A_putI (fits_I _) vc_3 (j := 0) (by decide) inG3 ⟨rfl, rfl, rfl⟩ tyX3 tyX3_ok nmX3 rfl rfl (Nat.le_of_ble_eq_true rfl) ww_fl_X3_9 dX3_init_6 ?_
  refine A_aload_n dX3_init_9 rfl ?_
  refine A_sipush dX3_init_10 k_si_3960 ?_
  refine A_newa_byte (N := 3960) ww_ar_byte dX3_init_13 (by decide) (by decide) (Nat.le_of_ble_eq_true rfl) (Nat.le_of_ble_eq_true rfl) (Nat.le_of_ble_eq_true rfl) (fun q1 => ?_)
  refine A_putF rfl vc_3 (j := 1) (by decide) inG3 ⟨rfl, rfl, rfl⟩ tyX3 tyX3_ok nmX3 rfl rfl rfl ⟨rfl, rfl⟩ (Nat.le_of_ble_eq_true rfl) ww_fl_X3_15 dX3_init_15 ?_
  exact A_exit ⟨dX3_init_18, ⟨(fun i => match i with | 1 => q1 | _ => a), rfl, rfl⟩, Nat.le_of_ble_eq_true rfl, Nat.le_of_ble_eq_true rfl⟩
def wd_X4 (f : Nat → Nat) (cA : Bool → ClassId) : va_W := [(f 0, .inr (4, [.ref (f 1), .int 0, .int 0, .int 0])), (f 1, .inl (cA false, 6, .inl (fun _ => 0)))]
set_option maxRecDepth 20000 in
set_option maxHeartbeats 4000000 in
theorem c_X4_init (l : Launch) : CtA l yX4_init cX4_init 1 { frames := 1, cells := 1, slots := 6, locals := 40 * 1 } 4 bl_X4 1 6 (fun cA a ws => ∃ f : Nat → Nat, f 0 = a ∧ ws = wd_X4 f cA) := by
  refine CtA_ofAW (by decide) (by decide) rfl (fun D cA a => ?_)
  show AW RX4 cX4_init 1 l _ D cA true [(a, .inr (4, bl_X4))] [.ref a] [] 0 0 0 _
  refine A_aload_n dX4_init_0 rfl ?_
  refine A_obj ⟨ww_ml_X4_3, ww_obi, ww_obc⟩ dX4_init_1 (Nat.le_of_ble_eq_true rfl) (Nat.le_of_ble_eq_true rfl) ?_
  refine A_aload_n dX4_init_4 rfl ?_
  refine A_bipush dX4_init_5 k_bi_6 ?_
  refine A_newa_int (N := 6) ww_ar_int dX4_init_7 (by decide) (by decide) (Nat.le_of_ble_eq_true rfl) (Nat.le_of_ble_eq_true rfl) (Nat.le_of_ble_eq_true rfl) (fun q1 => ?_)
  refine A_putF rfl vc_4 (j := 0) (by decide) inG4 ⟨rfl, rfl, rfl⟩ tyX4 tyX4_ok nmX4 rfl rfl rfl ⟨rfl, rfl⟩ (Nat.le_of_ble_eq_true rfl) ww_fl_X4_9 dX4_init_9 ?_
  refine A_aload_n dX4_init_12 rfl ?_
  refine A_iconst dX4_init_13 k_ic_0 ?_
  refine A_putI (fits_I _) vc_4 (j := 1) (by decide) inG4 ⟨rfl, rfl, rfl⟩ tyX4 tyX4_ok nmX4 rfl rfl (Nat.le_of_ble_eq_true rfl) ww_fl_X4_15 dX4_init_14 ?_
  refine A_aload_n dX4_init_17 rfl ?_
  refine A_iconst dX4_init_18 k_ic_0 ?_
  refine A_putI (fits_I _) vc_4 (j := 2) (by decide) inG4 ⟨rfl, rfl, rfl⟩ tyX4 tyX4_ok nmX4 rfl rfl (Nat.le_of_ble_eq_true rfl) ww_fl_X4_19 dX4_init_19 ?_
  refine A_aload_n dX4_init_22 rfl ?_
  refine A_iconst dX4_init_23 k_ic_0 ?_
  refine A_putI (fits_I _) vc_4 (j := 3) (by decide) inG4 ⟨rfl, rfl, rfl⟩ tyX4 tyX4_ok nmX4 rfl rfl (Nat.le_of_ble_eq_true rfl) ww_fl_X4_22 dX4_init_24 ?_
  exact A_exit ⟨dX4_init_27, ⟨(fun i => match i with | 1 => q1 | _ => a), rfl, rfl⟩, Nat.le_of_ble_eq_true rfl, Nat.le_of_ble_eq_true rfl⟩
def wd_X5 (f : Nat → Nat) (cA : Bool → ClassId) : va_W := [(f 0, .inr (5, [.int 0, .ref (f 1), .ref (f 2), .ref (f 3), .ref (f 4), .int 0, .ref (f 5), .ref (f 6), .ref (f 7), .int 0, .ref (f 8), .ref (f 9), .ref (f 10), .int 0, .ref (f 11)])), (f 1, .inl (cA false, 12, .inl (fun _ => 0))), (f 2, .inl (cA false, 12, .inl (fun _ => 0))), (f 3, .inl (cA false, 360, .inl (fun _ => 0))), (f 4, .inl (cA false, 60, .inl (fun _ => 0))), (f 5, .inl (cA false, 6, .inl (fun _ => 0))), (f 6, .inl (cA false, 6, .inl (fun _ => 0))), (f 7, .inl (cA false, 6, .inl (fun _ => 0))), (f 8, .inl (cA false, 12, .inl (fun _ => 0))), (f 9, .inl (cA false, 12, .inl (fun _ => 0))), (f 10, .inl (cA false, 12, .inl (fun _ => 0))), (f 11, .inl (cA false, 6, .inl (fun _ => 0)))]
set_option maxRecDepth 20000 in
set_option maxHeartbeats 4000000 in
theorem c_X5_init (l : Launch) : CtA l yX5_init cX5_init 1 { frames := 1, cells := 11, slots := 504, locals := 40 * 1 } 5 bl_X5 11 504 (fun cA a ws => ∃ f : Nat → Nat, f 0 = a ∧ ws = wd_X5 f cA) := by
  refine CtA_ofAW (by decide) (by decide) rfl (fun D cA a => ?_)
  show AW RX5 cX5_init 1 l _ D cA true [(a, .inr (5, bl_X5))] [.ref a] [] 0 0 0 _
  refine A_aload_n dX5_init_0 rfl ?_
  refine A_obj ⟨ww_ml_X5_3, ww_obi, ww_obc⟩ dX5_init_1 (Nat.le_of_ble_eq_true rfl) (Nat.le_of_ble_eq_true rfl) ?_
  refine A_aload_n dX5_init_4 rfl ?_
  refine A_iconst dX5_init_5 k_ic_0 ?_
  refine A_putI (fits_I _) vc_5 (j := 0) (by decide) inG5 ⟨rfl, rfl, rfl⟩ tyX5 tyX5_ok nmX5 rfl rfl (Nat.le_of_ble_eq_true rfl) ww_fl_X5_9 dX5_init_6 ?_
  refine A_aload_n dX5_init_9 rfl ?_
  refine A_bipush dX5_init_10 k_bi_12 ?_
  refine A_newa_int (N := 12) ww_ar_int dX5_init_12 (by decide) (by decide) (Nat.le_of_ble_eq_true rfl) (Nat.le_of_ble_eq_true rfl) (Nat.le_of_ble_eq_true rfl) (fun q1 => ?_)
  refine A_putF rfl vc_5 (j := 1) (by decide) inG5 ⟨rfl, rfl, rfl⟩ tyX5 tyX5_ok nmX5 rfl rfl rfl ⟨rfl, rfl⟩ (Nat.le_of_ble_eq_true rfl) ww_fl_X5_15 dX5_init_14 ?_
  refine A_aload_n dX5_init_17 rfl ?_
  refine A_bipush dX5_init_18 k_bi_12 ?_
  refine A_newa_int (N := 12) ww_ar_int dX5_init_20 (by decide) (by decide) (Nat.le_of_ble_eq_true rfl) (Nat.le_of_ble_eq_true rfl) (Nat.le_of_ble_eq_true rfl) (fun q2 => ?_)
  refine A_putF rfl vc_5 (j := 2) (by decide) inG5 ⟨rfl, rfl, rfl⟩ tyX5 tyX5_ok nmX5 rfl rfl rfl ⟨rfl, rfl⟩ (Nat.le_of_ble_eq_true rfl) ww_fl_X5_19 dX5_init_22 ?_
  refine A_aload_n dX5_init_25 rfl ?_
  refine A_sipush dX5_init_26 k_si_360 ?_
  refine A_newa_int (N := 360) ww_ar_int dX5_init_29 (by decide) (by decide) (Nat.le_of_ble_eq_true rfl) (Nat.le_of_ble_eq_true rfl) (Nat.le_of_ble_eq_true rfl) (fun q3 => ?_)
  refine A_putF rfl vc_5 (j := 3) (by decide) inG5 ⟨rfl, rfl, rfl⟩ tyX5 tyX5_ok nmX5 rfl rfl rfl ⟨rfl, rfl⟩ (Nat.le_of_ble_eq_true rfl) ww_fl_X5_22 dX5_init_31 ?_
  refine A_aload_n dX5_init_34 rfl ?_
  refine A_bipush dX5_init_35 k_bi_60 ?_
  refine A_newa_int (N := 60) ww_ar_int dX5_init_37 (by decide) (by decide) (Nat.le_of_ble_eq_true rfl) (Nat.le_of_ble_eq_true rfl) (Nat.le_of_ble_eq_true rfl) (fun q4 => ?_)
  refine A_putF rfl vc_5 (j := 4) (by decide) inG5 ⟨rfl, rfl, rfl⟩ tyX5 tyX5_ok nmX5 rfl rfl rfl ⟨rfl, rfl⟩ (Nat.le_of_ble_eq_true rfl) ww_fl_X5_25 dX5_init_39 ?_
  refine A_aload_n dX5_init_42 rfl ?_
  refine A_iconst dX5_init_43 k_ic_0 ?_
  refine A_putI (fits_I _) vc_5 (j := 5) (by decide) inG5 ⟨rfl, rfl, rfl⟩ tyX5 tyX5_ok nmX5 rfl rfl (Nat.le_of_ble_eq_true rfl) ww_fl_X5_28 dX5_init_44 ?_
  refine A_aload_n dX5_init_47 rfl ?_
  refine A_bipush dX5_init_48 k_bi_6 ?_
  refine A_newa_int (N := 6) ww_ar_int dX5_init_50 (by decide) (by decide) (Nat.le_of_ble_eq_true rfl) (Nat.le_of_ble_eq_true rfl) (Nat.le_of_ble_eq_true rfl) (fun q5 => ?_)
  refine A_putF rfl vc_5 (j := 6) (by decide) inG5 ⟨rfl, rfl, rfl⟩ tyX5 tyX5_ok nmX5 rfl rfl rfl ⟨rfl, rfl⟩ (Nat.le_of_ble_eq_true rfl) ww_fl_X5_31 dX5_init_52 ?_
  refine A_aload_n dX5_init_55 rfl ?_
  refine A_bipush dX5_init_56 k_bi_6 ?_
  refine A_newa_int (N := 6) ww_ar_int dX5_init_58 (by decide) (by decide) (Nat.le_of_ble_eq_true rfl) (Nat.le_of_ble_eq_true rfl) (Nat.le_of_ble_eq_true rfl) (fun q6 => ?_)
  refine A_putF rfl vc_5 (j := 7) (by decide) inG5 ⟨rfl, rfl, rfl⟩ tyX5 tyX5_ok nmX5 rfl rfl rfl ⟨rfl, rfl⟩ (Nat.le_of_ble_eq_true rfl) ww_fl_X5_34 dX5_init_60 ?_
  refine A_aload_n dX5_init_63 rfl ?_
  refine A_bipush dX5_init_64 k_bi_6 ?_
  refine A_newa_int (N := 6) ww_ar_int dX5_init_66 (by decide) (by decide) (Nat.le_of_ble_eq_true rfl) (Nat.le_of_ble_eq_true rfl) (Nat.le_of_ble_eq_true rfl) (fun q7 => ?_)
  refine A_putF rfl vc_5 (j := 8) (by decide) inG5 ⟨rfl, rfl, rfl⟩ tyX5 tyX5_ok nmX5 rfl rfl rfl ⟨rfl, rfl⟩ (Nat.le_of_ble_eq_true rfl) ww_fl_X5_37 dX5_init_68 ?_
  refine A_aload_n dX5_init_71 rfl ?_
  refine A_iconst dX5_init_72 k_ic_0 ?_
  refine A_putI (fits_I _) vc_5 (j := 9) (by decide) inG5 ⟨rfl, rfl, rfl⟩ tyX5 tyX5_ok nmX5 rfl rfl (Nat.le_of_ble_eq_true rfl) ww_fl_X5_40 dX5_init_73 ?_
  refine A_aload_n dX5_init_76 rfl ?_
  refine A_bipush dX5_init_77 k_bi_12 ?_
  refine A_newa_int (N := 12) ww_ar_int dX5_init_79 (by decide) (by decide) (Nat.le_of_ble_eq_true rfl) (Nat.le_of_ble_eq_true rfl) (Nat.le_of_ble_eq_true rfl) (fun q8 => ?_)
  refine A_putF rfl vc_5 (j := 10) (by decide) inG5 ⟨rfl, rfl, rfl⟩ tyX5 tyX5_ok nmX5 rfl rfl rfl ⟨rfl, rfl⟩ (Nat.le_of_ble_eq_true rfl) ww_fl_X5_43 dX5_init_81 ?_
  refine A_aload_n dX5_init_84 rfl ?_
  refine A_bipush dX5_init_85 k_bi_12 ?_
  refine A_newa_int (N := 12) ww_ar_int dX5_init_87 (by decide) (by decide) (Nat.le_of_ble_eq_true rfl) (Nat.le_of_ble_eq_true rfl) (Nat.le_of_ble_eq_true rfl) (fun q9 => ?_)
  refine A_putF rfl vc_5 (j := 11) (by decide) inG5 ⟨rfl, rfl, rfl⟩ tyX5 tyX5_ok nmX5 rfl rfl rfl ⟨rfl, rfl⟩ (Nat.le_of_ble_eq_true rfl) ww_fl_X5_46 dX5_init_89 ?_
  refine A_aload_n dX5_init_92 rfl ?_
  refine A_bipush dX5_init_93 k_bi_12 ?_
  refine A_newa_int (N := 12) ww_ar_int dX5_init_95 (by decide) (by decide) (Nat.le_of_ble_eq_true rfl) (Nat.le_of_ble_eq_true rfl) (Nat.le_of_ble_eq_true rfl) (fun q10 => ?_)
  refine A_putF rfl vc_5 (j := 12) (by decide) inG5 ⟨rfl, rfl, rfl⟩ tyX5 tyX5_ok nmX5 rfl rfl rfl ⟨rfl, rfl⟩ (Nat.le_of_ble_eq_true rfl) ww_fl_X5_49 dX5_init_97 ?_
  refine A_aload_n dX5_init_100 rfl ?_
  refine A_iconst dX5_init_101 k_ic_0 ?_
  refine A_putI (fits_I _) vc_5 (j := 13) (by decide) inG5 ⟨rfl, rfl, rfl⟩ tyX5 tyX5_ok nmX5 rfl rfl (Nat.le_of_ble_eq_true rfl) ww_fl_X5_52 dX5_init_102 ?_
  refine A_aload_n dX5_init_105 rfl ?_
  refine A_bipush dX5_init_106 k_bi_6 ?_
  refine A_newa_int (N := 6) ww_ar_int dX5_init_108 (by decide) (by decide) (Nat.le_of_ble_eq_true rfl) (Nat.le_of_ble_eq_true rfl) (Nat.le_of_ble_eq_true rfl) (fun q11 => ?_)
  refine A_putF rfl vc_5 (j := 14) (by decide) inG5 ⟨rfl, rfl, rfl⟩ tyX5 tyX5_ok nmX5 rfl rfl rfl ⟨rfl, rfl⟩ (Nat.le_of_ble_eq_true rfl) ww_fl_X5_55 dX5_init_110 ?_
  exact A_exit ⟨dX5_init_113, ⟨(fun i => match i with | 1 => q1 | 2 => q2 | 3 => q3 | 4 => q4 | 5 => q5 | 6 => q6 | 7 => q7 | 8 => q8 | 9 => q9 | 10 => q10 | 11 => q11 | _ => a), rfl, rfl⟩, Nat.le_of_ble_eq_true rfl, Nat.le_of_ble_eq_true rfl⟩
def wd_X6 (f : Nat → Nat) (cA : Bool → ClassId) : va_W := [(f 0, .inr (6, [.int 0, .ref (f 1), .int 0, .ref (f 2), .ref (f 3), .ref (f 4), .ref (f 5), .ref (f 6)])), (f 1, .inl (cA true, 120, .inl (fun _ => 0))), (f 2, .inl (cA false, 61, .inl (fun _ => 0))), (f 3, .inl (cA false, 61, .inl (fun _ => 0))), (f 4, .inl (cA false, 61, .inl (fun _ => 0))), (f 5, .inl (cA false, 61, .inl (fun _ => 0))), (f 6, .inl (cA false, 61, .inl (fun _ => 0)))]
set_option maxRecDepth 20000 in
set_option maxHeartbeats 4000000 in
theorem c_X6_init (l : Launch) : CtA l yX6_init cX6_init 1 { frames := 1, cells := 6, slots := 425, locals := 40 * 1 } 6 bl_X6 6 425 (fun cA a ws => ∃ f : Nat → Nat, f 0 = a ∧ ws = wd_X6 f cA) := by
  refine CtA_ofAW (by decide) (by decide) rfl (fun D cA a => ?_)
  show AW RX6 cX6_init 1 l _ D cA true [(a, .inr (6, bl_X6))] [.ref a] [] 0 0 0 _
  refine A_aload_n dX6_init_0 rfl ?_
  refine A_obj ⟨ww_ml_X6_3, ww_obi, ww_obc⟩ dX6_init_1 (Nat.le_of_ble_eq_true rfl) (Nat.le_of_ble_eq_true rfl) ?_
  refine A_aload_n dX6_init_4 rfl ?_
  refine A_iconst dX6_init_5 k_ic_0 ?_
  refine A_putI (fits_I _) vc_6 (j := 0) (by decide) inG6 ⟨rfl, rfl, rfl⟩ tyX6 tyX6_ok nmX6 rfl rfl (Nat.le_of_ble_eq_true rfl) ww_fl_X6_9 dX6_init_6 ?_
  refine A_aload_n dX6_init_9 rfl ?_
  refine A_bipush dX6_init_10 k_bi_120 ?_
  refine A_newa_byte (N := 120) ww_ar_byte dX6_init_12 (by decide) (by decide) (Nat.le_of_ble_eq_true rfl) (Nat.le_of_ble_eq_true rfl) (Nat.le_of_ble_eq_true rfl) (fun q1 => ?_)
  refine A_putF rfl vc_6 (j := 1) (by decide) inG6 ⟨rfl, rfl, rfl⟩ tyX6 tyX6_ok nmX6 rfl rfl rfl ⟨rfl, rfl⟩ (Nat.le_of_ble_eq_true rfl) ww_fl_X6_15 dX6_init_14 ?_
  refine A_aload_n dX6_init_17 rfl ?_
  refine A_iconst dX6_init_18 k_ic_0 ?_
  refine A_putI (fits_I _) vc_6 (j := 2) (by decide) inG6 ⟨rfl, rfl, rfl⟩ tyX6 tyX6_ok nmX6 rfl rfl (Nat.le_of_ble_eq_true rfl) ww_fl_X6_19 dX6_init_19 ?_
  refine A_aload_n dX6_init_22 rfl ?_
  refine A_bipush dX6_init_23 k_bi_61 ?_
  refine A_newa_int (N := 61) ww_ar_int dX6_init_25 (by decide) (by decide) (Nat.le_of_ble_eq_true rfl) (Nat.le_of_ble_eq_true rfl) (Nat.le_of_ble_eq_true rfl) (fun q2 => ?_)
  refine A_putF rfl vc_6 (j := 3) (by decide) inG6 ⟨rfl, rfl, rfl⟩ tyX6 tyX6_ok nmX6 rfl rfl rfl ⟨rfl, rfl⟩ (Nat.le_of_ble_eq_true rfl) ww_fl_X6_22 dX6_init_27 ?_
  refine A_aload_n dX6_init_30 rfl ?_
  refine A_bipush dX6_init_31 k_bi_61 ?_
  refine A_newa_int (N := 61) ww_ar_int dX6_init_33 (by decide) (by decide) (Nat.le_of_ble_eq_true rfl) (Nat.le_of_ble_eq_true rfl) (Nat.le_of_ble_eq_true rfl) (fun q3 => ?_)
  refine A_putF rfl vc_6 (j := 4) (by decide) inG6 ⟨rfl, rfl, rfl⟩ tyX6 tyX6_ok nmX6 rfl rfl rfl ⟨rfl, rfl⟩ (Nat.le_of_ble_eq_true rfl) ww_fl_X6_26 dX6_init_35 ?_
  refine A_aload_n dX6_init_38 rfl ?_
  refine A_bipush dX6_init_39 k_bi_61 ?_
  refine A_newa_int (N := 61) ww_ar_int dX6_init_41 (by decide) (by decide) (Nat.le_of_ble_eq_true rfl) (Nat.le_of_ble_eq_true rfl) (Nat.le_of_ble_eq_true rfl) (fun q4 => ?_)
  refine A_putF rfl vc_6 (j := 5) (by decide) inG6 ⟨rfl, rfl, rfl⟩ tyX6 tyX6_ok nmX6 rfl rfl rfl ⟨rfl, rfl⟩ (Nat.le_of_ble_eq_true rfl) ww_fl_X6_29 dX6_init_43 ?_
  refine A_aload_n dX6_init_46 rfl ?_
  refine A_bipush dX6_init_47 k_bi_61 ?_
  refine A_newa_int (N := 61) ww_ar_int dX6_init_49 (by decide) (by decide) (Nat.le_of_ble_eq_true rfl) (Nat.le_of_ble_eq_true rfl) (Nat.le_of_ble_eq_true rfl) (fun q5 => ?_)
  refine A_putF rfl vc_6 (j := 6) (by decide) inG6 ⟨rfl, rfl, rfl⟩ tyX6 tyX6_ok nmX6 rfl rfl rfl ⟨rfl, rfl⟩ (Nat.le_of_ble_eq_true rfl) ww_fl_X6_32 dX6_init_51 ?_
  refine A_aload_n dX6_init_54 rfl ?_
  refine A_bipush dX6_init_55 k_bi_61 ?_
  refine A_newa_int (N := 61) ww_ar_int dX6_init_57 (by decide) (by decide) (Nat.le_of_ble_eq_true rfl) (Nat.le_of_ble_eq_true rfl) (Nat.le_of_ble_eq_true rfl) (fun q6 => ?_)
  refine A_putF rfl vc_6 (j := 7) (by decide) inG6 ⟨rfl, rfl, rfl⟩ tyX6 tyX6_ok nmX6 rfl rfl rfl ⟨rfl, rfl⟩ (Nat.le_of_ble_eq_true rfl) ww_fl_X6_35 dX6_init_59 ?_
  exact A_exit ⟨dX6_init_62, ⟨(fun i => match i with | 1 => q1 | 2 => q2 | 3 => q3 | 4 => q4 | 5 => q5 | 6 => q6 | _ => a), rfl, rfl⟩, Nat.le_of_ble_eq_true rfl, Nat.le_of_ble_eq_true rfl⟩
def wd_X7 (f : Nat → Nat) (cA : Bool → ClassId) : va_W := [(f 0, .inr (7, [.ref (f 1), .ref (f 13), .ref (f 25), .int 0, .ref (f 37), .ref (f 39), .ref (f 40), .ref (f 44), .ref (f 51), .ref (f 53)]))] ++ wd_X5 (fun i => f (1 + i)) cA ++ wd_X5 (fun i => f (13 + i)) cA ++ wd_X5 (fun i => f (25 + i)) cA ++ wd_X4 (fun i => f (37 + i)) cA ++ wd_X2 (fun i => f (39 + i)) cA ++ wd_X0 (fun i => f (40 + i)) cA ++ wd_X6 (fun i => f (44 + i)) cA ++ wd_X3 (fun i => f (51 + i)) cA ++ wd_X1 (fun i => f (53 + i)) cA
set_option maxRecDepth 20000 in
set_option maxHeartbeats 4000000 in
theorem c_X7_init (l : Launch) : CtA l yX7_init cX7_init 1 { frames := 2, cells := 55, slots := 6115, locals := 40 * 2 } 7 bl_X7 55 6115 (fun cA a ws => ∃ f : Nat → Nat, f 0 = a ∧ ws = wd_X7 f cA) := by
  refine CtA_ofAW (by decide) (by decide) rfl (fun D cA a => ?_)
  show AW RX7 cX7_init 1 l _ D cA true [(a, .inr (7, bl_X7))] [.ref a] [] 0 0 0 _
  refine A_aload_n dX7_init_0 rfl ?_
  refine A_obj ⟨ww_ml_X7_3, ww_obi, ww_obc⟩ dX7_init_1 (Nat.le_of_ble_eq_true rfl) (Nat.le_of_ble_eq_true rfl) ?_
  refine A_aload_n dX7_init_4 rfl ?_
  refine A_new tyX5 tyX5_ok inG5 ⟨ww_cl_X7_9, ww_ins_RX5, ww_ini_RX5⟩ vc_5 (fs := bl_X5) (bl_ok_X5) dX7_init_5 (Nat.le_of_ble_eq_true rfl) (Nat.le_of_ble_eq_true rfl) (fun q1 => ?_)
  refine A_dup dX7_init_8 ?_
  refine A_callN (c_X5_init l) ⟨by unfold nwM; simp, trivial, ww_ini_RX5, ww_code_yX5_init, ww_instanceMethod_yX5_init⟩ (by decide +kernel) rfl (Nat.le_of_ble_eq_true rfl) (Nat.le_of_ble_eq_true rfl) (Nat.le_of_ble_eq_true rfl) ⟨Nat.le_of_ble_eq_true rfl, Nat.le_of_ble_eq_true rfl⟩ dX7_init_9 (fun w1 hw1 => ?_)
  obtain ⟨f1, e1, rfl⟩ := hw1
  subst e1
  refine A_putF rfl vc_7 (j := 0) (by decide) inG7 ⟨rfl, rfl, rfl⟩ tyX7 tyX7_ok nmX7 rfl rfl rfl ⟨rfl, rfl⟩ (Nat.le_of_ble_eq_true rfl) ww_fl_X7_12 dX7_init_12 ?_
  refine A_aload_n dX7_init_15 rfl ?_
  refine A_new tyX5 tyX5_ok inG5 ⟨ww_cl_X7_9, ww_ins_RX5, ww_ini_RX5⟩ vc_5 (fs := bl_X5) (bl_ok_X5) dX7_init_16 (Nat.le_of_ble_eq_true rfl) (Nat.le_of_ble_eq_true rfl) (fun q2 => ?_)
  refine A_dup dX7_init_19 ?_
  refine A_callN (c_X5_init l) ⟨by unfold nwM; simp, trivial, ww_ini_RX5, ww_code_yX5_init, ww_instanceMethod_yX5_init⟩ (by decide +kernel) rfl (Nat.le_of_ble_eq_true rfl) (Nat.le_of_ble_eq_true rfl) (Nat.le_of_ble_eq_true rfl) ⟨Nat.le_of_ble_eq_true rfl, Nat.le_of_ble_eq_true rfl⟩ dX7_init_20 (fun w2 hw2 => ?_)
  obtain ⟨f2, e2, rfl⟩ := hw2
  subst e2
  refine A_putF rfl vc_7 (j := 1) (by decide) inG7 ⟨rfl, rfl, rfl⟩ tyX7 tyX7_ok nmX7 rfl rfl rfl ⟨rfl, rfl⟩ (Nat.le_of_ble_eq_true rfl) ww_fl_X7_18 dX7_init_23 ?_
  refine A_aload_n dX7_init_26 rfl ?_
  refine A_new tyX5 tyX5_ok inG5 ⟨ww_cl_X7_9, ww_ins_RX5, ww_ini_RX5⟩ vc_5 (fs := bl_X5) (bl_ok_X5) dX7_init_27 (Nat.le_of_ble_eq_true rfl) (Nat.le_of_ble_eq_true rfl) (fun q3 => ?_)
  refine A_dup dX7_init_30 ?_
  refine A_callN (c_X5_init l) ⟨by unfold nwM; simp, trivial, ww_ini_RX5, ww_code_yX5_init, ww_instanceMethod_yX5_init⟩ (by decide +kernel) rfl (Nat.le_of_ble_eq_true rfl) (Nat.le_of_ble_eq_true rfl) (Nat.le_of_ble_eq_true rfl) ⟨Nat.le_of_ble_eq_true rfl, Nat.le_of_ble_eq_true rfl⟩ dX7_init_31 (fun w3 hw3 => ?_)
  obtain ⟨f3, e3, rfl⟩ := hw3
  subst e3
  refine A_putF rfl vc_7 (j := 2) (by decide) inG7 ⟨rfl, rfl, rfl⟩ tyX7 tyX7_ok nmX7 rfl rfl rfl ⟨rfl, rfl⟩ (Nat.le_of_ble_eq_true rfl) ww_fl_X7_21 dX7_init_34 ?_
  refine A_aload_n dX7_init_37 rfl ?_
  refine A_iconst dX7_init_38 k_ic_0 ?_
  refine A_putI (fits_Z zB_0) vc_7 (j := 3) (by decide) inG7 ⟨rfl, rfl, rfl⟩ tyX7 tyX7_ok nmX7 rfl rfl (Nat.le_of_ble_eq_true rfl) ww_fl_X7_24 dX7_init_39 ?_
  refine A_aload_n dX7_init_42 rfl ?_
  refine A_new tyX4 tyX4_ok inG4 ⟨ww_cl_X7_28, ww_ins_RX4, ww_ini_RX4⟩ vc_4 (fs := bl_X4) (bl_ok_X4) dX7_init_43 (Nat.le_of_ble_eq_true rfl) (Nat.le_of_ble_eq_true rfl) (fun q4 => ?_)
  refine A_dup dX7_init_46 ?_
  refine A_callN (c_X4_init l) ⟨by unfold nwM; simp, trivial, ww_ini_RX4, ww_code_yX4_init, ww_instanceMethod_yX4_init⟩ (by decide +kernel) rfl (Nat.le_of_ble_eq_true rfl) (Nat.le_of_ble_eq_true rfl) (Nat.le_of_ble_eq_true rfl) ⟨Nat.le_of_ble_eq_true rfl, Nat.le_of_ble_eq_true rfl⟩ dX7_init_47 (fun w4 hw4 => ?_)
  obtain ⟨f4, e4, rfl⟩ := hw4
  subst e4
  refine A_putF rfl vc_7 (j := 4) (by decide) inG7 ⟨rfl, rfl, rfl⟩ tyX7 tyX7_ok nmX7 rfl rfl rfl ⟨rfl, rfl⟩ (Nat.le_of_ble_eq_true rfl) ww_fl_X7_31 dX7_init_50 ?_
  refine A_aload_n dX7_init_53 rfl ?_
  refine A_new tyX2 tyX2_ok inG2 ⟨ww_cl_X7_35, ww_ins_RX2, ww_ini_RX2⟩ vc_2 (fs := bl_X2) (bl_ok_X2) dX7_init_54 (Nat.le_of_ble_eq_true rfl) (Nat.le_of_ble_eq_true rfl) (fun q5 => ?_)
  refine A_dup dX7_init_57 ?_
  refine A_callN (c_X2_init l) ⟨by unfold nwM; simp, trivial, ww_ini_RX2, ww_code_yX2_init, ww_instanceMethod_yX2_init⟩ (by decide +kernel) rfl (Nat.le_of_ble_eq_true rfl) (Nat.le_of_ble_eq_true rfl) (Nat.le_of_ble_eq_true rfl) ⟨Nat.le_of_ble_eq_true rfl, Nat.le_of_ble_eq_true rfl⟩ dX7_init_58 (fun w5 hw5 => ?_)
  obtain ⟨f5, e5, rfl⟩ := hw5
  subst e5
  refine A_putF rfl vc_7 (j := 5) (by decide) inG7 ⟨rfl, rfl, rfl⟩ tyX7 tyX7_ok nmX7 rfl rfl rfl ⟨rfl, rfl⟩ (Nat.le_of_ble_eq_true rfl) ww_fl_X7_38 dX7_init_61 ?_
  refine A_aload_n dX7_init_64 rfl ?_
  refine A_new tyX0 tyX0_ok inG0 ⟨ww_cl_X7_42, ww_ins_RX0, ww_ini_RX0⟩ vc_0 (fs := bl_X0) (bl_ok_X0) dX7_init_65 (Nat.le_of_ble_eq_true rfl) (Nat.le_of_ble_eq_true rfl) (fun q6 => ?_)
  refine A_dup dX7_init_68 ?_
  refine A_callN (c_X0_init l) ⟨by unfold nwM; simp, trivial, ww_ini_RX0, ww_code_yX0_init, ww_instanceMethod_yX0_init⟩ (by decide +kernel) rfl (Nat.le_of_ble_eq_true rfl) (Nat.le_of_ble_eq_true rfl) (Nat.le_of_ble_eq_true rfl) ⟨Nat.le_of_ble_eq_true rfl, Nat.le_of_ble_eq_true rfl⟩ dX7_init_69 (fun w6 hw6 => ?_)
  obtain ⟨f6, e6, rfl⟩ := hw6
  subst e6
  refine A_putF rfl vc_7 (j := 6) (by decide) inG7 ⟨rfl, rfl, rfl⟩ tyX7 tyX7_ok nmX7 rfl rfl rfl ⟨rfl, rfl⟩ (Nat.le_of_ble_eq_true rfl) ww_fl_X7_45 dX7_init_72 ?_
  refine A_aload_n dX7_init_75 rfl ?_
  refine A_new tyX6 tyX6_ok inG6 ⟨ww_cl_X7_49, ww_ins_RX6, ww_ini_RX6⟩ vc_6 (fs := bl_X6) (bl_ok_X6) dX7_init_76 (Nat.le_of_ble_eq_true rfl) (Nat.le_of_ble_eq_true rfl) (fun q7 => ?_)
  refine A_dup dX7_init_79 ?_
  refine A_callN (c_X6_init l) ⟨by unfold nwM; simp, trivial, ww_ini_RX6, ww_code_yX6_init, ww_instanceMethod_yX6_init⟩ (by decide +kernel) rfl (Nat.le_of_ble_eq_true rfl) (Nat.le_of_ble_eq_true rfl) (Nat.le_of_ble_eq_true rfl) ⟨Nat.le_of_ble_eq_true rfl, Nat.le_of_ble_eq_true rfl⟩ dX7_init_80 (fun w7 hw7 => ?_)
  obtain ⟨f7, e7, rfl⟩ := hw7
  subst e7
  refine A_putF rfl vc_7 (j := 7) (by decide) inG7 ⟨rfl, rfl, rfl⟩ tyX7 tyX7_ok nmX7 rfl rfl rfl ⟨rfl, rfl⟩ (Nat.le_of_ble_eq_true rfl) ww_fl_X7_52 dX7_init_83 ?_
  refine A_aload_n dX7_init_86 rfl ?_
  refine A_new tyX3 tyX3_ok inG3 ⟨ww_cl_X7_56, ww_ins_RX3, ww_ini_RX3⟩ vc_3 (fs := bl_X3) (bl_ok_X3) dX7_init_87 (Nat.le_of_ble_eq_true rfl) (Nat.le_of_ble_eq_true rfl) (fun q8 => ?_)
  refine A_dup dX7_init_90 ?_
  refine A_callN (c_X3_init l) ⟨by unfold nwM; simp, trivial, ww_ini_RX3, ww_code_yX3_init, ww_instanceMethod_yX3_init⟩ (by decide +kernel) rfl (Nat.le_of_ble_eq_true rfl) (Nat.le_of_ble_eq_true rfl) (Nat.le_of_ble_eq_true rfl) ⟨Nat.le_of_ble_eq_true rfl, Nat.le_of_ble_eq_true rfl⟩ dX7_init_91 (fun w8 hw8 => ?_)
  obtain ⟨f8, e8, rfl⟩ := hw8
  subst e8
  refine A_putF rfl vc_7 (j := 8) (by decide) inG7 ⟨rfl, rfl, rfl⟩ tyX7 tyX7_ok nmX7 rfl rfl rfl ⟨rfl, rfl⟩ (Nat.le_of_ble_eq_true rfl) ww_fl_X7_59 dX7_init_94 ?_
  refine A_aload_n dX7_init_97 rfl ?_
  refine A_new tyX1 tyX1_ok inG1 ⟨ww_cl_X7_63, ww_ins_RX1, ww_ini_RX1⟩ vc_1 (fs := bl_X1) (bl_ok_X1) dX7_init_98 (Nat.le_of_ble_eq_true rfl) (Nat.le_of_ble_eq_true rfl) (fun q9 => ?_)
  refine A_dup dX7_init_101 ?_
  refine A_callN (c_X1_init l) ⟨by unfold nwM; simp, trivial, ww_ini_RX1, ww_code_yX1_init, ww_instanceMethod_yX1_init⟩ (by decide +kernel) rfl (Nat.le_of_ble_eq_true rfl) (Nat.le_of_ble_eq_true rfl) (Nat.le_of_ble_eq_true rfl) ⟨Nat.le_of_ble_eq_true rfl, Nat.le_of_ble_eq_true rfl⟩ dX7_init_102 (fun w9 hw9 => ?_)
  obtain ⟨f9, e9, rfl⟩ := hw9
  subst e9
  refine A_putF rfl vc_7 (j := 9) (by decide) inG7 ⟨rfl, rfl, rfl⟩ tyX7 tyX7_ok nmX7 rfl rfl rfl ⟨rfl, rfl⟩ (Nat.le_of_ble_eq_true rfl) ww_fl_X7_66 dX7_init_105 ?_
  exact A_exit ⟨dX7_init_108, ⟨(fun i => if i < 1 then a else if i < 13 then f1 (i - 1) else if i < 25 then f2 (i - 13) else if i < 37 then f3 (i - 25) else if i < 39 then f4 (i - 37) else if i < 40 then f5 (i - 39) else if i < 44 then f6 (i - 40) else if i < 51 then f7 (i - 44) else if i < 53 then f8 (i - 51) else f9 (i - 53)), rfl, rfl⟩, Nat.le_of_ble_eq_true rfl, Nat.le_of_ble_eq_true rfl⟩
def wd_X8 (f : Nat → Nat) (cA : Bool → ClassId) : va_W := [(f 0, .inr (8, [.int 0, .ref (f 1), .ref (f 2), .ref (f 3), .int 0, .int 0, .ref (f 4), .ref (f 5), .ref (f 6), .ref (f 7), .int 0, .int 0, .int 0, .int 0, .int 0, .ref (f 8), .int 0, .int 0, .int 0, .int 0, .int 0, .int 0, .int 0, .ref (f 9), .int 0, .ref (f 10), .ref (f 11), .ref (f 12), .int 0])), (f 1, .inl (cA false, 441, .inl (fun _ => 0))), (f 2, .inl (cA false, 441, .inl (fun _ => 0))), (f 3, .inl (cA false, 441, .inl (fun _ => 0))), (f 4, .inl (cA false, 12, .inl (fun _ => 0))), (f 5, .inl (cA false, 12, .inl (fun _ => 0))), (f 6, .inl (cA false, 12, .inl (fun _ => 0))), (f 7, .inl (cA false, 6, .inl (fun _ => 0))), (f 8, .inl (cA false, 120, .inl (fun _ => 0))), (f 9, .inl (cA false, 6000, .inl (fun _ => 0))), (f 10, .inl (cA false, 3, .inl szI)), (f 11, .inl (cA false, 108, .inl (fun _ => 0))), (f 12, .inl (cA false, 441, .inl (fun _ => 0)))]
set_option maxRecDepth 20000 in
set_option maxHeartbeats 4000000 in
theorem c_X8_init (l : Launch) : CtA l yX8_init cX8_init 1 { frames := 1, cells := 12, slots := 8037, locals := 40 * 1 } 8 bl_X8 12 8037 (fun cA a ws => ∃ f : Nat → Nat, f 0 = a ∧ ws = wd_X8 f cA) := by
  refine CtA_ofAW (by decide) (by decide) rfl (fun D cA a => ?_)
  show AW RX8 cX8_init 1 l _ D cA true [(a, .inr (8, bl_X8))] [.ref a] [] 0 0 0 _
  refine A_aload_n dX8_init_0 rfl ?_
  refine A_obj ⟨ww_ml_X8_9, ww_obi, ww_obc⟩ dX8_init_1 (Nat.le_of_ble_eq_true rfl) (Nat.le_of_ble_eq_true rfl) ?_
  refine A_aload_n dX8_init_4 rfl ?_
  refine A_sipush dX8_init_5 k_si_441 ?_
  refine A_newa_int (N := 441) ww_ar_int dX8_init_8 (by decide) (by decide) (Nat.le_of_ble_eq_true rfl) (Nat.le_of_ble_eq_true rfl) (Nat.le_of_ble_eq_true rfl) (fun q1 => ?_)
  refine A_putF rfl vc_8 (j := 1) (by decide) inG8 ⟨rfl, rfl, rfl⟩ tyX8 tyX8_ok nmX8 rfl rfl rfl ⟨rfl, rfl⟩ (Nat.le_of_ble_eq_true rfl) ww_fl_X8_15 dX8_init_10 ?_
  refine A_aload_n dX8_init_13 rfl ?_
  refine A_sipush dX8_init_14 k_si_441 ?_
  refine A_newa_int (N := 441) ww_ar_int dX8_init_17 (by decide) (by decide) (Nat.le_of_ble_eq_true rfl) (Nat.le_of_ble_eq_true rfl) (Nat.le_of_ble_eq_true rfl) (fun q2 => ?_)
  refine A_putF rfl vc_8 (j := 2) (by decide) inG8 ⟨rfl, rfl, rfl⟩ tyX8 tyX8_ok nmX8 rfl rfl rfl ⟨rfl, rfl⟩ (Nat.le_of_ble_eq_true rfl) ww_fl_X8_19 dX8_init_19 ?_
  refine A_aload_n dX8_init_22 rfl ?_
  refine A_sipush dX8_init_23 k_si_441 ?_
  refine A_newa_int (N := 441) ww_ar_int dX8_init_26 (by decide) (by decide) (Nat.le_of_ble_eq_true rfl) (Nat.le_of_ble_eq_true rfl) (Nat.le_of_ble_eq_true rfl) (fun q3 => ?_)
  refine A_putF rfl vc_8 (j := 3) (by decide) inG8 ⟨rfl, rfl, rfl⟩ tyX8 tyX8_ok nmX8 rfl rfl rfl ⟨rfl, rfl⟩ (Nat.le_of_ble_eq_true rfl) ww_fl_X8_22 dX8_init_28 ?_
  refine A_aload_n dX8_init_31 rfl ?_
  refine A_bipush dX8_init_32 k_bi_12 ?_
  refine A_newa_int (N := 12) ww_ar_int dX8_init_34 (by decide) (by decide) (Nat.le_of_ble_eq_true rfl) (Nat.le_of_ble_eq_true rfl) (Nat.le_of_ble_eq_true rfl) (fun q4 => ?_)
  refine A_putF rfl vc_8 (j := 6) (by decide) inG8 ⟨rfl, rfl, rfl⟩ tyX8 tyX8_ok nmX8 rfl rfl rfl ⟨rfl, rfl⟩ (Nat.le_of_ble_eq_true rfl) ww_fl_X8_25 dX8_init_36 ?_
  refine A_aload_n dX8_init_39 rfl ?_
  refine A_bipush dX8_init_40 k_bi_12 ?_
  refine A_newa_int (N := 12) ww_ar_int dX8_init_42 (by decide) (by decide) (Nat.le_of_ble_eq_true rfl) (Nat.le_of_ble_eq_true rfl) (Nat.le_of_ble_eq_true rfl) (fun q5 => ?_)
  refine A_putF rfl vc_8 (j := 7) (by decide) inG8 ⟨rfl, rfl, rfl⟩ tyX8 tyX8_ok nmX8 rfl rfl rfl ⟨rfl, rfl⟩ (Nat.le_of_ble_eq_true rfl) ww_fl_X8_28 dX8_init_44 ?_
  refine A_aload_n dX8_init_47 rfl ?_
  refine A_bipush dX8_init_48 k_bi_12 ?_
  refine A_newa_int (N := 12) ww_ar_int dX8_init_50 (by decide) (by decide) (Nat.le_of_ble_eq_true rfl) (Nat.le_of_ble_eq_true rfl) (Nat.le_of_ble_eq_true rfl) (fun q6 => ?_)
  refine A_putF rfl vc_8 (j := 8) (by decide) inG8 ⟨rfl, rfl, rfl⟩ tyX8 tyX8_ok nmX8 rfl rfl rfl ⟨rfl, rfl⟩ (Nat.le_of_ble_eq_true rfl) ww_fl_X8_31 dX8_init_52 ?_
  refine A_aload_n dX8_init_55 rfl ?_
  refine A_bipush dX8_init_56 k_bi_6 ?_
  refine A_newa_int (N := 6) ww_ar_int dX8_init_58 (by decide) (by decide) (Nat.le_of_ble_eq_true rfl) (Nat.le_of_ble_eq_true rfl) (Nat.le_of_ble_eq_true rfl) (fun q7 => ?_)
  refine A_putF rfl vc_8 (j := 9) (by decide) inG8 ⟨rfl, rfl, rfl⟩ tyX8 tyX8_ok nmX8 rfl rfl rfl ⟨rfl, rfl⟩ (Nat.le_of_ble_eq_true rfl) ww_fl_X8_34 dX8_init_60 ?_
  refine A_aload_n dX8_init_63 rfl ?_
  refine A_bipush dX8_init_64 k_bi_120 ?_
  refine A_newa_int (N := 120) ww_ar_int dX8_init_66 (by decide) (by decide) (Nat.le_of_ble_eq_true rfl) (Nat.le_of_ble_eq_true rfl) (Nat.le_of_ble_eq_true rfl) (fun q8 => ?_)
  refine A_putF rfl vc_8 (j := 15) (by decide) inG8 ⟨rfl, rfl, rfl⟩ tyX8 tyX8_ok nmX8 rfl rfl rfl ⟨rfl, rfl⟩ (Nat.le_of_ble_eq_true rfl) ww_fl_X8_37 dX8_init_68 ?_
  refine A_aload_n dX8_init_71 rfl ?_
  refine A_sipush dX8_init_72 k_si_6000 ?_
  refine A_newa_int (N := 6000) ww_ar_int dX8_init_75 (by decide) (by decide) (Nat.le_of_ble_eq_true rfl) (Nat.le_of_ble_eq_true rfl) (Nat.le_of_ble_eq_true rfl) (fun q9 => ?_)
  refine A_putF rfl vc_8 (j := 23) (by decide) inG8 ⟨rfl, rfl, rfl⟩ tyX8 tyX8_ok nmX8 rfl rfl rfl ⟨rfl, rfl⟩ (Nat.le_of_ble_eq_true rfl) ww_fl_X8_40 dX8_init_77 ?_
  refine A_aload_n dX8_init_80 rfl ?_
  refine A_iconst dX8_init_81 k_ic_3 ?_
  refine A_newa_int (N := 3) ww_ar_int dX8_init_82 (by decide) (by decide) (Nat.le_of_ble_eq_true rfl) (Nat.le_of_ble_eq_true rfl) (Nat.le_of_ble_eq_true rfl) (fun q10 => ?_)
  refine A_dup dX8_init_84 ?_
  refine A_iconst dX8_init_85 k_ic_0 ?_
  refine A_iconst dX8_init_86 k_ic_m1 ?_
  refine A_iast (i := 10) rfl (by unfold vp_in; decide) rfl dX8_init_87 ?_
  refine A_dup dX8_init_88 ?_
  refine A_iconst dX8_init_89 k_ic_1 ?_
  refine A_iconst dX8_init_90 k_ic_m1 ?_
  refine A_iast (i := 10) rfl (by unfold vp_in; decide) rfl dX8_init_91 ?_
  refine A_dup dX8_init_92 ?_
  refine A_iconst dX8_init_93 k_ic_2 ?_
  refine A_iconst dX8_init_94 k_ic_m1 ?_
  refine A_iast (i := 10) rfl (by unfold vp_in; decide) rfl dX8_init_95 ?_
  refine A_putF rfl vc_8 (j := 25) (by decide) inG8 ⟨rfl, rfl, rfl⟩ tyX8 tyX8_ok nmX8 rfl rfl rfl ⟨rfl, rfl⟩ (Nat.le_of_ble_eq_true rfl) ww_fl_X8_43 dX8_init_96 ?_
  refine A_aload_n dX8_init_99 rfl ?_
  refine A_bipush dX8_init_100 k_bi_108 ?_
  refine A_newa_int (N := 108) ww_ar_int dX8_init_102 (by decide) (by decide) (Nat.le_of_ble_eq_true rfl) (Nat.le_of_ble_eq_true rfl) (Nat.le_of_ble_eq_true rfl) (fun q11 => ?_)
  refine A_putF rfl vc_8 (j := 26) (by decide) inG8 ⟨rfl, rfl, rfl⟩ tyX8 tyX8_ok nmX8 rfl rfl rfl ⟨rfl, rfl⟩ (Nat.le_of_ble_eq_true rfl) ww_fl_X8_46 dX8_init_104 ?_
  refine A_aload_n dX8_init_107 rfl ?_
  refine A_sipush dX8_init_108 k_si_441 ?_
  refine A_newa_int (N := 441) ww_ar_int dX8_init_111 (by decide) (by decide) (Nat.le_of_ble_eq_true rfl) (Nat.le_of_ble_eq_true rfl) (Nat.le_of_ble_eq_true rfl) (fun q12 => ?_)
  refine A_putF rfl vc_8 (j := 27) (by decide) inG8 ⟨rfl, rfl, rfl⟩ tyX8 tyX8_ok nmX8 rfl rfl rfl ⟨rfl, rfl⟩ (Nat.le_of_ble_eq_true rfl) ww_fl_X8_49 dX8_init_113 ?_
  exact A_exit ⟨dX8_init_116, ⟨(fun i => match i with | 1 => q1 | 2 => q2 | 3 => q3 | 4 => q4 | 5 => q5 | 6 => q6 | 7 => q7 | 8 => q8 | 9 => q9 | 10 => q10 | 11 => q11 | 12 => q12 | _ => a), rfl, rfl⟩, Nat.le_of_ble_eq_true rfl, Nat.le_of_ble_eq_true rfl⟩
