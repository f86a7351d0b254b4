/-! THE CLAIM OUT OF ONE WALK OF THE LAW'S BODY. Your part is whole_start (and what it stands on); all else here is the same for every law, but numbers. -/
def R_law : String := "LockTableLaw"
def lw_P (b : Addr) (xs : List Int32) (args : Array Value) (s : State) : Prop := args = #[.ref b] ∧ s.IntsAt b xs ∧ xs.length ≤ 2048 ∧ (Jvm.Cond.and given_1 narrow_1).before args s = true
def lw_Q (_ : Array Value) (s : State) (o : Outcome) (t : State) : Prop := o = .returned (some (.int 1)) ∧ Framed s o t [] 600000 7302250
def lw_Z (below : List Frame) (a : Array Value) (s : State) : State → Prop := fun t => ∃ o, t.status = .running ∧ Ended t below o ∧ lw_Q a s o t
/-- the law's own end, with 1 on the stack, nothing written that was there before, its room as the claim has it -/
theorem lw_ret {p : Program} {l : Launch} {e : Env} {s : State} {m : MethodId} {below : List Frame} {meth : Method} {c : Code} {b : Nat} (hx : p.tables.exec = Jvm.exec) (hb : c.code = code) (hr : meth.sig.returnType = ret) (hlocks : meth.locks = false) {pc : Nat} {H : Heap} {ls : Array Slot} (hdg : decode code pc = .ok (.ireturn, 1)) : W p l e room_1 s m #[Value.ref b] below meth c H [] 600000 7302250 (lw_Z below #[Value.ref b] s) (F0 m pc ls [.int 1]) := by
  intro T hT X
  obtain ⟨fs, hret, hrun, hended, hW, hframe⟩ := X.leave (v := some (.int 1)) (hlocks := hlocks) (fun h => by rw [hr] at h; cases h)
  have hmeth' : T.vm.method? m = some meth := X.method'
  refine ⟨T.setFrames fs, ?_, .returned (some (.int 1)), hrun, hended, rfl, ⟨_, rfl⟩, hW, hframe⟩
  jvm_step X.here [X.here.top, hx, hb, hdg, hmeth', hr, ret, narrow_b1]
  (try refine ⟨rfl, ?_⟩); (try refine ⟨rfl, ?_⟩)
  first | (intro acts; rw [hret _ acts rfl rfl rfl]) | rw [hret _ _ rfl rfl rfl]
  exact Steps.refl _
/-- what holds at the law's entry: the machine, the code, the tables' words (any of lw_tbl by 'hts w (by decide +kernel)'), the script of L ints xs at the cell b, what the Statement gives of the start (any of its parts by flat_of_before) -/
def lw_At (p : Program) (s : State) (m : MethodId) (meth : Method) (c : Code) (b L : Nat) (xs : Nat → Int32) : Prop :=
  p.tables.exec = Jvm.exec ∧ c.code = code ∧ meth.sig.returnType = ret ∧ c.maxLocals = 4 ∧ s.vm.findClass R_law = some m.cls ∧ (∀ w ∈ lw_tbl, w.before #[Value.ref b] s = true) ∧ va_X b L xs s s.heap ∧ b < s.heap.size ∧ meth.locks = false ∧ (Jvm.Cond.and given_1 narrow_1).before #[Value.ref b] s = true
-- ===== YOUR PART BEGINS =====
theorem lw_ofg {w : Cond} (h : w ∈ lw_g) : w ∈ lw_tbl := (List.mem_filter.mp h).1
theorem ww_cl_L_7 : Cond.classLink RL 7 RX7 ∈ lw_g := lwm 75 (by decide +kernel) rfl
theorem ww_ins_RX7 : Cond.instantiable RX7 10 ∈ lw_g := lwm 76 (by decide +kernel) rfl
theorem ww_ml_L_9 : Cond.methodLink RL 9 yX7_init ∈ lw_g := lwm 77 (by decide +kernel) rfl
theorem ww_code_yX7_init : Cond.code yX7_init cX7_init 1 none ∈ lw_g := lwm 79 (by decide +kernel) rfl
theorem ww_instanceMethod_yX7_init : Cond.instanceMethod yX7_init ∈ lw_g := lwm 78 (by decide +kernel) rfl
theorem ww_cl_L_10 : Cond.classLink RL 10 RX8 ∈ lw_g := lwm 726 (by decide +kernel) rfl
theorem ww_ins_RX8 : Cond.instantiable RX8 29 ∈ lw_g := lwm 727 (by decide +kernel) rfl
theorem ww_ml_L_12 : Cond.methodLink RL 12 yX8_init ∈ lw_g := lwm 728 (by decide +kernel) rfl
theorem ww_code_yX8_init : Cond.code yX8_init cX8_init 1 none ∈ lw_g := lwm 730 (by decide +kernel) rfl
theorem ww_instanceMethod_yX8_init : Cond.instanceMethod yX8_init ∈ lw_g := lwm 729 (by decide +kernel) rfl
def hI : AH := fun i => if i = 55 ∨ i = 66 then szI else fun _ => 0
def sgL (f g : Nat → Nat) (t0 t1 t2 b : Nat) : Nat → Nat := fun i => if i < 56 then f i else if i < 69 then g (i - 56) else if i = 69 then t0 else if i = 70 then t1 else if i = 71 then t2 else b
set_option maxRecDepth 100000 in
set_option maxHeartbeats 4000000 in
theorem wd_all (f g : Nat → Nat) (t0 t1 t2 b : Nat) (cA : Bool → ClassId) : wd_X7 f cA ++ wd_X8 g cA = w_W (sgL f g t0 t1 t2 b) cA hI := rfl
set_option maxRecDepth 20000 in
set_option maxHeartbeats 4000000 in
theorem aw_law (l : Launch) (D : va_G) (cA : Bool → ClassId) (b : Nat) : AW RL cL_law 4 l room_1 D cA false [] [.ref b, .null, .null, .null] [] 0 0 0 (fun pc' ws' L' k' n' => pc' = 16 ∧ (∃ f g : Nat → Nat, ws' = wd_X7 f cA ++ wd_X8 g cA ∧ L' = [.ref b, .ref (f 0), .ref (g 0), .null]) ∧ k' ≤ 600000 ∧ n' ≤ 7302250) := by
  refine A_new tyX7 tyX7_ok inG7 ⟨ww_cl_L_7, ww_ins_RX7, ww_ini_RX7⟩ vc_7 (fs := bl_X7) (bl_ok_X7) dL_law_0 (Nat.le_of_ble_eq_true rfl) (Nat.le_of_ble_eq_true rfl) (fun z7 => ?_)
  refine A_dup dL_law_3 ?_
  refine A_callI (c_X7_init l) ⟨ww_ml_L_9, trivial, ww_ini_RX7, ww_code_yX7_init, ww_instanceMethod_yX7_init⟩ (by decide +kernel) rfl (Nat.le_of_ble_eq_true rfl) (Nat.le_of_ble_eq_true rfl) (Nat.le_of_ble_eq_true rfl) ⟨Nat.le_of_ble_eq_true rfl, Nat.le_of_ble_eq_true rfl⟩ dL_law_4 (fun w7 hw7 => ?_)
  obtain ⟨f7, e7, rfl⟩ := hw7
  subst e7
  refine A_astore_n dL_law_7 (Nat.le_of_ble_eq_true rfl) ?_
  refine A_new tyX8 tyX8_ok inG8 ⟨ww_cl_L_10, ww_ins_RX8, ww_ini_RX8⟩ vc_8 (fs := bl_X8) (bl_ok_X8) dL_law_8 (Nat.le_of_ble_eq_true rfl) (Nat.le_of_ble_eq_true rfl) (fun z8 => ?_)
  refine A_dup dL_law_11 ?_
  refine A_callI (c_X8_init l) ⟨ww_ml_L_12, trivial, ww_ini_RX8, ww_code_yX8_init, ww_instanceMethod_yX8_init⟩ (by decide +kernel) rfl (Nat.le_of_ble_eq_true rfl) (Nat.le_of_ble_eq_true rfl) (Nat.le_of_ble_eq_true rfl) ⟨Nat.le_of_ble_eq_true rfl, Nat.le_of_ble_eq_true rfl⟩ dL_law_12 (fun w8 hw8 => ?_)
  obtain ⟨f8, e8, rfl⟩ := hw8
  subst e8
  refine A_astore_n dL_law_15 (Nat.le_of_ble_eq_true rfl) ?_
  exact A_exit ⟨rfl, ⟨f7, f8, rfl, rfl⟩, Nat.le_of_ble_eq_true rfl, Nat.le_of_ble_eq_true rfl⟩
theorem st_0 {b : Nat} {s : State} {A : Nat → Prop} (hts : ∀ w ∈ lw_tbl, w.before #[Value.ref b] s = true) (hgv : (Jvm.Cond.and given_1 narrow_1).before #[Value.ref b] s = true) (hA : ∀ a : Nat, a < s.heap.size → ¬ A a) : ∃ t : Nat, va_Z "LockTable" "CLASHES" "[I" (.ref t) A s s.heap ∧ va_T .int t 6 (fun j => .int (tCL j)) A s s.heap := by
  have hs := flat_of_before _ hgv
  have h1 : (Cond.arrayOf (.static "LockTable" "CLASHES" "[I") .int).before #[Value.ref b] s = true := hs _ (by decide +kernel)
  have h2 : (Cond.eq (.length (.static "LockTable" "CLASHES" "[I")) (.int 6)).before #[Value.ref b] s = true := hs _ (by decide +kernel)
  have g0 : (Cond.eq (.elem (.static "LockTable" "CLASHES" "[I") (.int 0)) (.int 0)).before #[Value.ref b] s = true := hs _ (by decide +kernel)
  have g1 : (Cond.eq (.elem (.static "LockTable" "CLASHES" "[I") (.int 1)) (.int 32)).before #[Value.ref b] s = true := hs _ (by decide +kernel)
  have g2 : (Cond.eq (.elem (.static "LockTable" "CLASHES" "[I") (.int 2)) (.int 40)).before #[Value.ref b] s = true := hs _ (by decide +kernel)
  have g3 : (Cond.eq (.elem (.static "LockTable" "CLASHES" "[I") (.int 3)) (.int 52)).before #[Value.ref b] s = true := hs _ (by decide +kernel)
  have g4 : (Cond.eq (.elem (.static "LockTable" "CLASHES" "[I") (.int 4)) (.int 56)).before #[Value.ref b] s = true := hs _ (by decide +kernel)
  have g5 : (Cond.eq (.elem (.static "LockTable" "CLASHES" "[I") (.int 5)) (.int 62)).before #[Value.ref b] s = true := hs _ (by decide +kernel)
  obtain ⟨t, ht, hT⟩ := va_Tof (N := 6) (f := fun j => .int (tCL j)) (A := A) (by decide) h1 (va_eqt h2) (fun j hj => by
    rcases (show j = 0 ∨ j = 1 ∨ j = 2 ∨ j = 3 ∨ j = 4 ∨ j = 5 by omega) with rfl | rfl | rfl | rfl | rfl | rfl
    · exact va_eqt g0
    · exact va_eqt g1
    · exact va_eqt g2
    · exact va_eqt g3
    · exact va_eqt g4
    · exact va_eqt g5) hA
  exact ⟨t, va_Zof (hts (.laysStatic "LockTable" "CLASHES" "[I") (List.mem_of_getElem? (i := 359) (by decide +kernel))) (hts (.initialized "LockTable") (List.mem_of_getElem? (i := 64) (by decide +kernel))) ht hA, hT⟩
theorem st_1 {b : Nat} {s : State} {A : Nat → Prop} (hts : ∀ w ∈ lw_tbl, w.before #[Value.ref b] s = true) (hgv : (Jvm.Cond.and given_1 narrow_1).before #[Value.ref b] s = true) (hA : ∀ a : Nat, a < s.heap.size → ¬ A a) : ∃ t : Nat, va_Z "LockTable" "MEANT_ABOVE" "[I" (.ref t) A s s.heap ∧ va_T .int t 6 (fun j => .int (tMA j)) A s s.heap := by
  have hs := flat_of_before _ hgv
  have h1 : (Cond.arrayOf (.static "LockTable" "MEANT_ABOVE" "[I") .int).before #[Value.ref b] s = true := hs _ (by decide +kernel)
  have h2 : (Cond.eq (.length (.static "LockTable" "MEANT_ABOVE" "[I")) (.int 6)).before #[Value.ref b] s = true := hs _ (by decide +kernel)
  have g0 : (Cond.eq (.elem (.static "LockTable" "MEANT_ABOVE" "[I") (.int 0)) (.int 0)).before #[Value.ref b] s = true := hs _ (by decide +kernel)
  have g1 : (Cond.eq (.elem (.static "LockTable" "MEANT_ABOVE" "[I") (.int 1)) (.int 0)).before #[Value.ref b] s = true := hs _ (by decide +kernel)
  have g2 : (Cond.eq (.elem (.static "LockTable" "MEANT_ABOVE" "[I") (.int 2)) (.int 1)).before #[Value.ref b] s = true := hs _ (by decide +kernel)
  have g3 : (Cond.eq (.elem (.static "LockTable" "MEANT_ABOVE" "[I") (.int 3)) (.int 0)).before #[Value.ref b] s = true := hs _ (by decide +kernel)
  have g4 : (Cond.eq (.elem (.static "LockTable" "MEANT_ABOVE" "[I") (.int 4)) (.int 3)).before #[Value.ref b] s = true := hs _ (by decide +kernel)
  have g5 : (Cond.eq (.elem (.static "LockTable" "MEANT_ABOVE" "[I") (.int 5)) (.int 3)).before #[Value.ref b] s = true := hs _ (by decide +kernel)
  obtain ⟨t, ht, hT⟩ := va_Tof (N := 6) (f := fun j => .int (tMA j)) (A := A) (by decide) h1 (va_eqt h2) (fun j hj => by
    rcases (show j = 0 ∨ j = 1 ∨ j = 2 ∨ j = 3 ∨ j = 4 ∨ j = 5 by omega) with rfl | rfl | rfl | rfl | rfl | rfl
    · exact va_eqt g0
    · exact va_eqt g1
    · exact va_eqt g2
    · exact va_eqt g3
    · exact va_eqt g4
    · exact va_eqt g5) hA
  exact ⟨t, va_Zof (hts (.laysStatic "LockTable" "MEANT_ABOVE" "[I") (List.mem_of_getElem? (i := 361) (by decide +kernel))) (hts (.initialized "LockTable") (List.mem_of_getElem? (i := 64) (by decide +kernel))) ht hA, hT⟩
theorem st_2 {b : Nat} {s : State} {A : Nat → Prop} (hts : ∀ w ∈ lw_tbl, w.before #[Value.ref b] s = true) (hgv : (Jvm.Cond.and given_1 narrow_1).before #[Value.ref b] s = true) (hA : ∀ a : Nat, a < s.heap.size → ¬ A a) : ∃ t : Nat, va_Z "LockTable" "ASKED_MODES" "[I" (.ref t) A s s.heap ∧ va_T .int t 3 (fun j => .int (tAM j)) A s s.heap := by
  have hs := flat_of_before _ hgv
  have h1 : (Cond.arrayOf (.static "LockTable" "ASKED_MODES" "[I") .int).before #[Value.ref b] s = true := hs _ (by decide +kernel)
  have h2 : (Cond.eq (.length (.static "LockTable" "ASKED_MODES" "[I")) (.int 3)).before #[Value.ref b] s = true := hs _ (by decide +kernel)
  have g0 : (Cond.eq (.elem (.static "LockTable" "ASKED_MODES" "[I") (.int 0)) (.int 2)).before #[Value.ref b] s = true := hs _ (by decide +kernel)
  have g1 : (Cond.eq (.elem (.static "LockTable" "ASKED_MODES" "[I") (.int 1)) (.int 4)).before #[Value.ref b] s = true := hs _ (by decide +kernel)
  have g2 : (Cond.eq (.elem (.static "LockTable" "ASKED_MODES" "[I") (.int 2)) (.int 5)).before #[Value.ref b] s = true := hs _ (by decide +kernel)
  obtain ⟨t, ht, hT⟩ := va_Tof (N := 3) (f := fun j => .int (tAM j)) (A := A) (by decide) h1 (va_eqt h2) (fun j hj => by
    rcases (show j = 0 ∨ j = 1 ∨ j = 2 by omega) with rfl | rfl | rfl
    · exact va_eqt g0
    · exact va_eqt g1
    · exact va_eqt g2) hA
  exact ⟨t, va_Zof (hts (.laysStatic "LockTable" "ASKED_MODES" "[I") (List.mem_of_getElem? (i := 452) (by decide +kernel))) (hts (.initialized "LockTable") (List.mem_of_getElem? (i := 64) (by decide +kernel))) ht hA, hT⟩
theorem nwA_of {b : Nat} {s : State} (hts : ∀ w ∈ lw_tbl, w.before #[Value.ref b] s = true) : nwA s := by
  refine ⟨fun q hq => ?_, fun q hq => ?_⟩
  · simp only [nwM, List.mem_cons, List.not_mem_nil, or_false] at hq
    rcases hq with rfl | rfl | rfl | rfl | rfl | rfl | rfl | rfl | rfl | rfl
    · exact va_Nw.of rfl (hts (.methodLinkNest RX5 64 yX7_isOwner RX7) (List.mem_of_getElem? (i := 347) (by decide +kernel)))
    · exact va_Nw.of rfl (hts (.methodLinkNest RX5 137 yX7_hasBit RX7) (List.mem_of_getElem? (i := 440) (by decide +kernel)))
    · exact va_Nw.of rfl (hts (.methodLinkNest RX4 33 yX7_hasBit RX7) (List.mem_of_getElem? (i := 542) (by decide +kernel)))
    · exact va_Nw.of rfl (hts (.methodLinkNest RX7 11 yX5_init RX7) (List.mem_of_getElem? (i := 85) (by decide +kernel)))
    · exact va_Nw.of rfl (hts (.methodLinkNest RX7 30 yX4_init RX7) (List.mem_of_getElem? (i := 153) (by decide +kernel)))
    · exact va_Nw.of rfl (hts (.methodLinkNest RX7 37 yX2_init RX7) (List.mem_of_getElem? (i := 175) (by decide +kernel)))
    · exact va_Nw.of rfl (hts (.methodLinkNest RX7 44 yX0_init RX7) (List.mem_of_getElem? (i := 186) (by decide +kernel)))
    · exact va_Nw.of rfl (hts (.methodLinkNest RX7 51 yX6_init RX7) (List.mem_of_getElem? (i := 205) (by decide +kernel)))
    · exact va_Nw.of rfl (hts (.methodLinkNest RX7 58 yX3_init RX7) (List.mem_of_getElem? (i := 239) (by decide +kernel)))
    · exact va_Nw.of rfl (hts (.methodLinkNest RX7 65 yX1_init RX7) (List.mem_of_getElem? (i := 254) (by decide +kernel)))
  · simp only [nwF, List.mem_cons, List.not_mem_nil, or_false] at hq
    rcases hq with rfl | rfl | rfl
    · exact va_Nw.of rfl (hts (.fieldLinkNest RX5 93 RX7 "CLASHES" "[I" RX7) (List.mem_of_getElem? (i := 358) (by decide +kernel)))
    · exact va_Nw.of rfl (hts (.fieldLinkNest RX5 96 RX7 "MEANT_ABOVE" "[I" RX7) (List.mem_of_getElem? (i := 360) (by decide +kernel)))
    · exact va_Nw.of rfl (hts (.fieldLinkNest RX5 143 RX7 "ASKED_MODES" "[I" RX7) (List.mem_of_getElem? (i := 451) (by decide +kernel)))
theorem arr_known {ty : FieldType} {b : Nat} {s : State} (h : (Cond.arrayClass ty).before #[Value.ref b] s = true) : ∃ c, s.vm.findClass ("[" ++ ty.toString) = some c ∧ ArrOfT s c ty := by
  obtain ⟨c, k, comp, h1, h2, h3⟩ := Cond.arrayClass_spec h
  exact ⟨c, h1, fun n z => ⟨fun q e => (by cases e), k, h2, comp, h3⟩⟩
/-- the law from its entry, given what its mirror must hold -/
theorem start_of {p : Program} {e : Env} {s : State} {m : MethodId} {below : List Frame} {meth : Method} {c : Code} (l : Launch) {b L : Nat} {xs : Nat → Int32} (hL : L ≤ 2048) (F : Nat) (hM : P_L_law F L xs hI (fun r _ => r = 1)) (C0 : lw_At p s m meth c b L xs) : W p l e room_1 s m #[Value.ref b] below meth c s.heap [] 0 0 (lw_Z below #[Value.ref b] s) (entryFrame m ([Value.ref b] : List Value).toArray 4) := by
  obtain ⟨hx, hb, hr, hml, hown, hts, hX, hbl, hlocks, hgv⟩ := id C0
  have hA : ∀ a : Nat, a < s.heap.size → ¬ (fun q : Nat => s.heap.size ≤ q) a := fun a h => Nat.not_le.mpr h
  have hbA : ¬ (fun q : Nat => s.heap.size ≤ q) b := Nat.not_le.mpr hbl
  obtain ⟨c0, i0, hk0⟩ := u_known (C := RX0) (T := TX0) (N := 3) (n := 3) hts inX0 (hts (.instantiable RX0 3) (List.mem_of_getElem? (i := 185) (by decide +kernel)))
  obtain ⟨c1, i1, hk1⟩ := u_known (C := RX1) (T := TX1) (N := 2) (n := 2) hts inX1 (hts (.instantiable RX1 2) (List.mem_of_getElem? (i := 253) (by decide +kernel)))
  obtain ⟨c2, i2, hk2⟩ := u_known (C := RX2) (T := TX2) (N := 1) (n := 1) hts inX2 (hts (.instantiable RX2 1) (List.mem_of_getElem? (i := 174) (by decide +kernel)))
  obtain ⟨c3, i3, hk3⟩ := u_known (C := RX3) (T := TX3) (N := 2) (n := 2) hts inX3 (hts (.instantiable RX3 2) (List.mem_of_getElem? (i := 238) (by decide +kernel)))
  obtain ⟨c4, i4, hk4⟩ := u_known (C := RX4) (T := TX4) (N := 4) (n := 4) hts inX4 (hts (.instantiable RX4 4) (List.mem_of_getElem? (i := 152) (by decide +kernel)))
  obtain ⟨c5, i5, hk5⟩ := u_known (C := RX5) (T := TX5) (N := 15) (n := 15) hts inX5 (hts (.instantiable RX5 15) (List.mem_of_getElem? (i := 84) (by decide +kernel)))
  obtain ⟨c6, i6, hk6⟩ := u_known (C := RX6) (T := TX6) (N := 8) (n := 8) hts inX6 (hts (.instantiable RX6 8) (List.mem_of_getElem? (i := 204) (by decide +kernel)))
  obtain ⟨c7, i7, hk7⟩ := u_known (C := RX7) (T := TX7) (N := 10) (n := 10) hts inX7 (hts (.instantiable RX7 10) (List.mem_of_getElem? (i := 76) (by decide +kernel)))
  obtain ⟨c8, i8, hk8⟩ := u_known (C := RX8) (T := TX8) (N := 29) (n := 29) hts inX8 (hts (.instantiable RX8 29) (List.mem_of_getElem? (i := 727) (by decide +kernel)))
  obtain ⟨ca, ha1, ha2⟩ := arr_known (ty := .int) (hts _ (lw_ofg ww_ar_int))
  obtain ⟨cb, hb1, hb2⟩ := arr_known (ty := .byte) (hts _ (lw_ofg ww_ar_byte))
  obtain ⟨t0, hZ0, hT0⟩ := st_0 hts hgv hA
  obtain ⟨t1, hZ1, hT1⟩ := st_1 hts hgv hA
  obtain ⟨t2, hZ2, hT2⟩ := st_2 hts hgv hA
  obtain ⟨D, hKc⟩ : ∃ D : va_G, ∀ (k : Nat) (q : vw_C), vwCl[k]? = some q → u_Kn s q.1 q.2.1 q.2.2 (D.1 k) (D.2 k) := by
    refine ⟨(fun k => match k with | 0 => c0 | 1 => c1 | 2 => c2 | 3 => c3 | 4 => c4 | 5 => c5 | 6 => c6 | 7 => c7 | _ => c8, fun k => match k with | 0 => i0 | 1 => i1 | 2 => i2 | 3 => i3 | 4 => i4 | 5 => i5 | 6 => i6 | 7 => i7 | _ => i8), ?_⟩
    intro k q hq
    match k, hq with
    | 0, hq => cases hq; exact hk0
    | 1, hq => cases hq; exact hk1
    | 2, hq => cases hq; exact hk2
    | 3, hq => cases hq; exact hk3
    | 4, hq => cases hq; exact hk4
    | 5, hq => cases hq; exact hk5
    | 6, hq => cases hq; exact hk6
    | 7, hq => cases hq; exact hk7
    | 8, hq => cases hq; exact hk8
    | k + 9, hq => simp [vwCl] at hq
  obtain ⟨cA, hcA⟩ : ∃ cA : Bool → ClassId, cA = fun z => if z = true then cb else ca := ⟨_, rfl⟩
  have hK : va_K D vwCl (tyL cA) s := by
    refine ⟨hKc, fun k q hq => ?_⟩
    match k, hq with
    | 0, hq =>
      cases hq
      rw [hcA]
      exact ⟨ha2, ha1⟩
    | 1, hq =>
      cases hq
      rw [hcA]
      exact ⟨hb2, hb1⟩
    | k + 2, hq => simp [tyL] at hq
  have hN := nwA_of hts
  have hg : ∀ w ∈ lw_g, w.before #[Value.ref b] s = true := fun w hw => hts w (lw_ofg hw)
  have hl := lv_entry ([.ref b]) (n := 4) (Nat.le_of_ble_eq_true rfl)
  rw [lg_entry_eq]
  generalize (lg_sl ([.ref b]) ++ List.replicate (4 - (lg_sl ([.ref b])).length) Slot.unset).toArray = ls at hl ⊢
  have hlR : lvR idN ls 4 [.ref b, .null, .null, .null] := by
    refine ⟨hl.1, hl.2.1, rfl, fun i v hv hi => ?_⟩
    match i, hv with
    | 0, hv =>
      cases hv
      exact hl.2.2 (0, .ref b) List.mem_cons_self
    | 1, hv => cases hv; cases hi
    | 2, hv => cases hv; cases hi
    | 3, hv => cases hv; cases hi
    | k + 4, hv => simp at hv
  refine aw_law l D cA b p e s m _ below meth c (fun q : Nat => s.heap.size ≤ q) s.heap [] _ ls ⟨hx, hb, hml, hown, hg, hK, hN, fun q h => h⟩ (fun h => by cases h) (fun k q h => by simp at h) ⟨fun i j p q h => by simp at h, fun k q h => by simp at h⟩ va_S.rf hlR ?_
  intro pc' ls' H' locs' ws' L' k' n' ⟨hpc, ⟨f, g, hws, hL'⟩, hk', hn'⟩ hP hD hS hlr
  subst hpc
  subst hL'
  rw [wd_all f g t0 t1 t2 b cA] at hws
  subst hws
  have hap : w_ap (sgL f g t0 t1 t2 b) := by
    intro i j hi hj e
    have qi : ∃ s', sh_all[i]? = some s' := ⟨_, List.getElem?_eq_getElem (show i < sh_all.length from hi)⟩
    have qj : ∃ s', sh_all[j]? = some s' := ⟨_, List.getElem?_eq_getElem (show j < sh_all.length from hj)⟩
    obtain ⟨si, qi⟩ := qi
    obtain ⟨sj, qj⟩ := qj
    exact hD.1 i j _ _ (w_at _ cA hI qi) (w_at _ cA hI qj) e
  have hAi : ∀ i, i < NC → (fun q : Nat => s.heap.size ≤ q) (sgL f g t0 t1 t2 b i) := by
    intro i hi
    have qi : ∃ s', sh_all[i]? = some s' := ⟨_, List.getElem?_eq_getElem (show i < sh_all.length from hi)⟩
    obtain ⟨si, qi⟩ := qi
    exact hD.2 i _ (w_at _ cA hI qi)
  have hlr2 : lvR (sgL f g t0 t1 t2 b) ls' 4 [.ref (NC + 3), .ref 0, .ref 56, .null] := by
    refine ⟨hlr.1, hlr.2.1, rfl, fun i v hv hi => ?_⟩
    match i, hv with
    | 0, hv =>
      cases hv
      exact hlr.2.2.2 0 (.ref b) rfl rfl
    | 1, hv =>
      cases hv
      exact hlr.2.2.2 1 (.ref (f 0)) rfl rfl
    | 2, hv =>
      cases hv
      exact hlr.2.2.2 2 (.ref (g 0)) rfl rfl
    | 3, hv => cases hv; cases hi
    | k + 4, hv => simp at hv
  have hTs : stT (sgL f g t0 t1 t2 b) (fun q : Nat => s.heap.size ≤ q) (tbS L xs) 4 s s.heap := by
    intro k hk
    match k, hk with
    | 0, _ => exact hT0
    | 1, _ => exact hT1
    | 2, _ => exact hT2
    | 3, _ =>
      obtain ⟨scr, h1, h2, h3, h4, h5⟩ := hX
      exact ⟨scr, h1, h2, h3, Nat.le_of_eq h4.symm, by rw [h4]; rfl, fun j hj => h5 j hj, hbA⟩
  refine bw_L_law (l := l) hM p e s m _ below meth c D cA (sgL f g t0 t1 t2 b) (fun q : Nat => s.heap.size ≤ q) H' locs' k' n' _ ls' ⟨hx, hb, hml, hown, hg, hK, ⟨hZ0, hZ1, hZ2⟩, hTs, hN, hap, hAi, fun q h => h, hk', hn'⟩ hP hS hlr2 ?_
  intro pc2 ls2 H2 locs2 v h2 ⟨r, hv, hr1⟩ _ hdg hP2 hS2
  subst hv
  subst hr1
  refine va_forget (fun q hq => hS2.2.2 q hq) ?_
  refine W.widen hk' hn' ?_
  exact lw_ret hx hb hr hlocks hdg
