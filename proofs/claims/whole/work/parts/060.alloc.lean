def FxA (p : Program) (s : State) (m : MethodId) (args : Array Value) (c : Code) (own : String) (cc : ByteArray) (nL : Nat) (D : va_G) (cA : Bool → ClassId) (A : Nat → Prop) : Prop :=
  p.tables.exec = Jvm.exec ∧ c.code = cc ∧ c.maxLocals = nL ∧ s.vm.findClass own = some m.cls ∧ (∀ w ∈ lw_g, w.before args s = true) ∧ va_K D vwCl (tyL cA) s ∧ nwA s ∧ (∀ q, s.heap.size ≤ q → A q)
abbrev idN : Nat → Nat := fun x => x
/-- from here on, over the world ws, it comes to a place where E holds -/
def AW (own : String) (cc : ByteArray) (nL : Nat) (l : Launch) (R : Room) (D : va_G) (cA : Bool → ClassId) (ini : Bool) (ws : va_W) (L stk : List Value) (pc k n : Nat) (E : Nat → va_W → List Value → Nat → Nat → Prop) : Prop :=
  ∀ (p : Program) (e : Env) (s : State) (m : MethodId) (args : Array Value) (below : List Frame) (meth : Method) (c : Code) (A : Nat → Prop) (H : Heap) (locs : List Loc) (G : State → Prop) (ls : Array Slot),
    FxA p s m args c own cc nL D cA A → (ini = true → meth.name = "<init>") → va_P D vwCl ws H → va_D A ws → va_S A s.heap H locs → lvR idN ls nL L →
    (∀ (pc' : Nat) (ls' : Array Slot) (H' : Heap) (locs' : List Loc) (ws' : va_W) (L' : List Value) (k' n' : Nat), E pc' ws' L' k' n' → va_P D vwCl ws' H' → va_D A ws' → va_S A s.heap H' locs' → lvR idN ls' nL L' → W p l e R s m args below meth c H' locs' k' n' G (F0 m pc' ls' [])) →
    W p l e R s m args below meth c H locs k n G (F0 m pc ls stk)
section AR
variable {own : String} {cc : ByteArray} {nL : Nat} {l : Launch} {R : Room} {D : va_G} {cA : Bool → ClassId} {ini : Bool} {ws : va_W} {L stk : List Value} {pc k n : Nat} {E : Nat → va_W → List Value → Nat → Nat → Prop}
theorem A_exit (h : E pc ws L k n) : AW own cc nL l R D cA ini ws L [] pc k n E := by
  intro p e s m args below meth c A H locs G ls F hI hP hD hS hL hR
  obtain ⟨hx, hb, hml, hown, hts, hK, hN, hAz⟩ := id F
  exact hR pc ls H locs ws L k n h hP hD hS hL
theorem A_aload_n {i : Fin 4} {x : Nat} (hd : decode cc pc = .ok (.aload_n i, 1)) (hl : L[(i : Nat)]? = some (.ref x)) (kk : AW own cc nL l R D cA ini ws L (.ref x :: stk) (pc + 1) k n E) : AW own cc nL l R D cA ini ws L stk pc k n E := by
  intro p e s m args below meth c A H locs G ls F hI hP hD hS hL hR
  obtain ⟨hx, hb, hml, hown, hts, hK, hN, hAz⟩ := id F
  exact lv_aload_n hx hb hd rfl (lvR_at (σ := idN) hL hl rfl) (kk p e s m args below meth c A H locs G ls F hI hP hD hS hL hR)
theorem A_iconst {z : Int} {v : Int32} (hd : decode cc pc = .ok (.iconst z, 1)) (hv : Int32.ofInt z = v) (kk : AW own cc nL l R D cA ini ws L (.int v :: stk) (pc + 1) k n E) : AW own cc nL l R D cA ini ws L stk pc k n E := by
  intro p e s m args below meth c A H locs G ls F hI hP hD hS hL hR
  obtain ⟨hx, hb, hml, hown, hts, hK, hN, hAz⟩ := id F
  exact lv_iconst hx hb hd hv (kk p e s m args below meth c A H locs G ls F hI hP hD hS hL hR)
theorem A_bipush {z : Int} {v : Int32} (hd : decode cc pc = .ok (.bipush z, 2)) (hv : (Int8.ofInt z).toInt32 = v) (kk : AW own cc nL l R D cA ini ws L (.int v :: stk) (pc + 2) k n E) : AW own cc nL l R D cA ini ws L stk pc k n E := by
  intro p e s m args below meth c A H locs G ls F hI hP hD hS hL hR
  obtain ⟨hx, hb, hml, hown, hts, hK, hN, hAz⟩ := id F
  exact lv_bipush hx hb hd hv (kk p e s m args below meth c A H locs G ls F hI hP hD hS hL hR)
theorem A_sipush {z : Int} {v : Int32} (hd : decode cc pc = .ok (.sipush z, 3)) (hv : (Int16.ofInt z).toInt32 = v) (kk : AW own cc nL l R D cA ini ws L (.int v :: stk) (pc + 3) k n E) : AW own cc nL l R D cA ini ws L stk pc k n E := by
  intro p e s m args below meth c A H locs G ls F hI hP hD hS hL hR
  obtain ⟨hx, hb, hml, hown, hts, hK, hN, hAz⟩ := id F
  exact lv_sipush hx hb hd hv (kk p e s m args below meth c A H locs G ls F hI hP hD hS hL hR)
theorem A_dup {x : Nat} (hd : decode cc pc = .ok (.dup, 1)) (kk : AW own cc nL l R D cA ini ws L (.ref x :: .ref x :: stk) (pc + 1) k n E) : AW own cc nL l R D cA ini ws L (.ref x :: stk) pc k n E := by
  intro p e s m args below meth c A H locs G ls F hI hP hD hS hL hR
  obtain ⟨hx, hb, hml, hown, hts, hK, hN, hAz⟩ := id F
  exact lv_dup hx hb hd rfl (kk p e s m args below meth c A H locs G ls F hI hP hD hS hL hR)
theorem A_astore_n {i : Fin 4} {x : Nat} (hd : decode cc pc = .ok (.astore_n i, 1)) (hk : (i : Nat) < nL) (kk : AW own cc nL l R D cA ini ws (L.set (i : Nat) (.ref x)) stk (pc + 1) k n E) : AW own cc nL l R D cA ini ws L (.ref x :: stk) pc k n E := by
  intro p e s m args below meth c A H locs G ls F hI hP hD hS hL hR
  obtain ⟨hx, hb, hml, hown, hts, hK, hN, hAz⟩ := id F
  exact lv_astore_n hx hb hd rfl (lvO_has hL) hk rfl (fun ls' h' => kk p e s m args below meth c A H locs G ls' F hI hP hD hS (lvR_set (v := .ref x) hL hk h') hR)
theorem A_obj {idx a : Nat} (hw : Cond.methodLink own idx Lib.objectInit ∈ lw_g ∧ Cond.instanceMethod Lib.objectInit ∈ lw_g ∧ Cond.code Lib.objectInit ⟨#[0xb1]⟩ 1 none ∈ lw_g) (hd : decode cc pc = .ok (.invokespecial idx, 3)) (hf : 1 ≤ R.frames) (hlo : (stk.map fun v => v.category).sum + 12 ≤ R.locals) (kk : AW own cc nL l R D cA ini ws L stk (pc + 3) k n E) : AW own cc nL l R D cA ini ws L (.ref a :: stk) pc k n E := by
  intro p e s m args below meth c A H locs G ls F hI hP hD hS hL hR
  obtain ⟨hx, hb, hml, hown, hts, hK, hN, hAz⟩ := id F
  exact W.objInit hx hb hown (hts _ hw.1) (hts _ hw.2.1) (hts _ hw.2.2) rfl (by rw [hml]; exact hL.1) rfl hd hf (by show 2 * 0 + _ + 12 ≤ _; omega) (kk p e s m args below meth c A H locs G ls F hI hP hD hS hL hR)

theorem A_newa_int {z : Int32} {N : Nat} (hw : Cond.arrayClass .int ∈ lw_g) (hd : decode cc pc = .ok (.newarray .int, 2)) (hz : ¬ z < 0) (hNz : z.toNatClampNeg = N) (hb0 : N * 4 ≤ 536870912) (hc : k + 1 ≤ R.cells) (hs : n + N ≤ R.slots) (kk : ∀ q : Nat, AW own cc nL l R D cA ini (ws ++ [(q, .inl (cA false, N, .inl (fun _ => 0)))]) L (.ref q :: stk) (pc + 2) (k + 1) (n + N) E) : AW own cc nL l R D cA ini ws L (.int z :: stk) pc k n E := by
  intro p e s m args below meth c A H locs G ls F hI hP hD hS hL hR
  obtain ⟨hx, hb, hml, hown, hts, hK, hN, hAz⟩ := id F
  refine va_newa (atype := .int) (ty := .int) (a0 := (N, .inl (fun _ => 0))) hx hb (hts _ hw) rfl hK hP hD hS hAz (fun cA => rfl) hz hNz (by show N * _ ≤ _; simp only [componentBytes]; omega) hc hs hd (fun q c1 H1 hK1 hP1 hD1 hS1 => ?_)
  have e1 : s.vm.findClass ("[" ++ (FieldType.int).toString) = some c1 := (hK1.2 2 (c1, .int) rfl).2
  have e2 : s.vm.findClass ("[" ++ (FieldType.int).toString) = some (cA false) := (hK.2 0 (cA false, .int) rfl).2
  have e3 : c1 = cA false := Option.some.inj (e1.symm.trans e2)
  subst e3
  exact kk q p e s m args below meth c A H1 locs G ls F hI hP1 hD1 hS1 hL hR

theorem A_newa_byte {z : Int32} {N : Nat} (hw : Cond.arrayClass .byte ∈ lw_g) (hd : decode cc pc = .ok (.newarray .byte, 2)) (hz : ¬ z < 0) (hNz : z.toNatClampNeg = N) (hb0 : N * 4 ≤ 536870912) (hc : k + 1 ≤ R.cells) (hs : n + N ≤ R.slots) (kk : ∀ q : Nat, AW own cc nL l R D cA ini (ws ++ [(q, .inl (cA true, N, .inl (fun _ => 0)))]) L (.ref q :: stk) (pc + 2) (k + 1) (n + N) E) : AW own cc nL l R D cA ini ws L (.int z :: stk) pc k n E := by
  intro p e s m args below meth c A H locs G ls F hI hP hD hS hL hR
  obtain ⟨hx, hb, hml, hown, hts, hK, hN, hAz⟩ := id F
  refine va_newa (atype := .byte) (ty := .byte) (a0 := (N, .inl (fun _ => 0))) hx hb (hts _ hw) rfl hK hP hD hS hAz (fun cA => rfl) hz hNz (by show N * _ ≤ _; simp only [componentBytes]; omega) hc hs hd (fun q c1 H1 hK1 hP1 hD1 hS1 => ?_)
  have e1 : s.vm.findClass ("[" ++ (FieldType.byte).toString) = some c1 := (hK1.2 2 (c1, .byte) rfl).2
  have e2 : s.vm.findClass ("[" ++ (FieldType.byte).toString) = some (cA true) := (hK.2 1 (cA true, .byte) rfl).2
  have e3 : c1 = cA true := Option.some.inj (e1.symm.trans e2)
  subst e3
  exact kk q p e s m args below meth c A H1 locs G ls F hI hP1 hD1 hS1 hL hR

theorem A_new {C : String} {T : u_T} {N ci idx : Nat} (ty : Nat → FieldType) (hty : ∀ k, k < N → parseFieldDescriptor (T k).2.2.1 = some (ty k)) (hin : ∀ w ∈ u_ws C T N, w ∈ lw_g) (hw : Cond.classLink own idx C ∈ lw_g ∧ Cond.instantiable C N ∈ lw_g ∧ Cond.initialized C ∈ lw_g) (hc : vwCl[ci]? = some (C, T, N)) {fs : List Value} (hfs : ∀ j, j < N → defaultValue (ty j) = vp_V fs j) (hd : decode cc pc = .ok (.new idx, 3)) (hcl : k + 1 ≤ R.cells) (hsl : n + N ≤ R.slots) (kk : ∀ q : Nat, AW own cc nL l R D cA ini (ws ++ [(q, .inr (ci, fs))]) L (.ref q :: stk) (pc + 3) (k + 1) (n + N) E) : AW own cc nL l R D cA ini ws L stk pc k n E := by
  intro p e s m args below meth c A H locs G ls F hI hP hD hS hL hR
  obtain ⟨hx, hb, hml, hown, hts, hK, hN, hAz⟩ := id F
  exact va_new hx hb hts hin ty hty hown (hts _ hw.1) (hts _ hw.2.1) (hts _ hw.2.2) hK hP hD hS hAz hc hfs hcl hsl hd (fun q H1 hP1 hD1 hS1 => kk q p e s m args below meth c A H1 locs G ls F hI hP1 hD1 hS1 hL hR)
theorem A_putF {C ref f d : String} {T : u_T} {N ci idx j q a : Nat} {fs : List Value} {ty : FieldType} (hini : ini = true) (hc : vwCl[ci]? = some (C, T, N)) (hj : j < N) (hin : ∀ w ∈ u_ws C T N, w ∈ lw_g) (hTk : (T j).1 = ref ∧ (T j).2.1 = f ∧ (T j).2.2.1 = d) (tyf : Nat → FieldType) (htyf : ∀ k, k < N → parseFieldDescriptor (T k).2.2.1 = some (tyf k)) (hnm : ∀ a, a < N → ∀ b, b < N → a ≠ b → (T a).2.1 ≠ (T b).2.1) (hty : tyf j = ty) (hfin : (T j).2.2.2 = true) (hdecl : (T j).1 = own) (hfit : narrow ty (.ref q) = .ref q ∧ fits ty (.ref q) = true) (hlen : j < fs.length) (hw : Cond.fieldLink own idx ref f d ∈ lw_g) (hd : decode cc pc = .ok (.putfield idx, 3)) (kk : AW own cc nL l R D cA ini ((a, .inr (ci, fs.set j (.ref q))) :: ws) L stk (pc + 3) k n E) : AW own cc nL l R D cA ini ((a, .inr (ci, fs)) :: ws) L (.ref q :: .ref a :: stk) pc k n E := by
  intro p e s m args below meth c A H locs G ls F hI hP hD hS hL hR
  obtain ⟨hx, hb, hml, hown, hts, hK, hN, hAz⟩ := id F
  obtain ⟨rfl, rfl, rfl⟩ := hTk
  subst hty
  exact va_putF (v := .ref q) hx hb hts hin tyf htyf hnm hown hK hP hD hS 0 rfl hc j hj (hts _ hw) (fun _ z => z) hfin (hI hini) hdecl (htyf j hj) hfit.1 hfit.2 hlen hd (fun H1 locs1 hP1 hD1 hS1 => kk p e s m args below meth c A H1 locs1 G ls F hI hP1 hD1 hS1 hL hR)
theorem A_putI {C ref f d : String} {T : u_T} {N ci idx j a : Nat} {x : Int32} {fs : List Value} {ty : FieldType} (hx0 : narrow ty (.int x) = .int x ∧ fits ty (.int x) = true) (hc : vwCl[ci]? = some (C, T, N)) (hj : j < N) (hin : ∀ w ∈ u_ws C T N, w ∈ lw_g) (hTk : (T j).1 = ref ∧ (T j).2.1 = f ∧ (T j).2.2.1 = d) (tyf : Nat → FieldType) (htyf : ∀ k, k < N → parseFieldDescriptor (T k).2.2.1 = some (tyf k)) (hnm : ∀ a, a < N → ∀ b, b < N → a ≠ b → (T a).2.1 ≠ (T b).2.1) (hty : tyf j = ty) (hfin : (T j).2.2.2 = false) (hlen : j < fs.length) (hw : Cond.fieldLink own idx ref f d ∈ lw_g) (hd : decode cc pc = .ok (.putfield idx, 3)) (kk : AW own cc nL l R D cA ini ((a, .inr (ci, fs.set j (.int x))) :: ws) L stk (pc + 3) k n E) : AW own cc nL l R D cA ini ((a, .inr (ci, fs)) :: ws) L (.int x :: .ref a :: stk) pc k n E := by
  intro p e s m args below meth c A H locs G ls F hI hP hD hS hL hR
  obtain ⟨hx, hb, hml, hown, hts, hK, hN, hAz⟩ := id F
  obtain ⟨rfl, rfl, rfl⟩ := hTk
  subst hty
  exact va_put (v := .int x) hx hb hts hin tyf htyf hnm hown hK hP hD hS 0 rfl hc j hj (hts _ hw) (fun _ z => z) hfin (htyf j hj) hx0.1 hx0.2 hlen hd (fun H1 locs1 hP1 hD1 hS1 => kk p e s m args below meth c A H1 locs1 G ls F hI hP1 hD1 hS1 hL hR)
theorem A_iast {i q N : Nat} {j x : Int32} {f : Nat → Int32} {ws' : va_W} (hi : ws[i]? = some (q, .inl (cA false, N, .inl f))) (hin : vp_in j N) (hws : ws.set i (q, .inl (cA false, N, .inl (upd f j.toNatClampNeg x))) = ws') (hd : decode cc pc = .ok (.iastore, 1)) (kk : AW own cc nL l R D cA ini ws' L stk (pc + 1) k n E) : AW own cc nL l R D cA ini ws L (.int x :: .int j :: .ref q :: stk) pc k n E := by
  intro p e s m args below meth c A H locs G ls F hI hP hD hS hL hR
  obtain ⟨hx, hb, hml, hown, hts, hK, hN, hAz⟩ := id F
  subst hws
  exact va_iast hx hb hK hP hD hS i 0 hi rfl hin hd (fun H1 locs1 hP1 hD1 hS1 => kk p e s m args below meth c A H1 locs1 G ls F hI hP1 hD1 hS1 hL hR)
theorem A_eq {ws' : va_W} (e : ws = ws') (kk : AW own cc nL l R D cA ini ws' L stk pc k n E) : AW own cc nL l R D cA ini ws L stk pc k n E := e ▸ kk
end AR
/-- a constructor's contract: on a blank object at a it makes the world that Wd tells -/
def CtA (l : Launch) (y : MethodName) (cc : ByteArray) (nL : Nat) (R : Room) (ci : Nat) (fs : List Value) (mc ms : Nat) (Wd : (Bool → ClassId) → Nat → va_W → Prop) : Prop :=
  ∀ (D : va_G) (cA : Bool → ClassId) (a sz : Nat), Met l y (.code y cc nL none :: lw_g) R (va_Pc [.ref a] (fun U => U.heap.size = sz ∧ va_P D vwCl [(a, .inr (ci, fs))] U.heap ∧ va_K D vwCl (tyL cA) U ∧ va_D (fun _ => True) [(a, .inr (ci, fs))] ∧ nwA U))
    (fun _ st oc t => (∃ ws', oc = .returned none ∧ Wd cA a ws' ∧ va_P D vwCl ws' t.heap ∧ va_D (va_A [(a, .inr (ci, fs))] sz) ws') ∧ va_F (va_A [(a, .inr (ci, fs))] sz) st t) mc ms (va_A [(a, .inr (ci, fs))] sz)
theorem CtA_ofAW {l : Launch} {y : MethodName} {cc : ByteArray} {nL : Nat} {R : Room} {ci : Nat} {fs : List Value} {mc ms : Nat} {Wd : (Bool → ClassId) → Nat → va_W → Prop} (hpl : plainName y.cls = true) (hn : 1 ≤ nL) (hin : y.name = "<init>")
    (hA : ∀ (D : va_G) (cA : Bool → ClassId) (a : Nat), AW y.cls cc nL l R D cA true [(a, .inr (ci, fs))] (.ref a :: List.replicate (nL - 1) .null) [] 0 0 0 (fun pc' ws' _ k' n' => decode cc pc' = .ok (.return_, 1) ∧ Wd cA a ws' ∧ k' ≤ mc ∧ n' ≤ ms)) : CtA l y cc nL R ci fs mc ms Wd := by
  intro D cA a sz
  refine Met.ofW (cc := cc) (maxL := nL) (ret := none) hpl rfl ?_
  intro p e s m args below meth c s₁ B hml hv
  obtain ⟨rfl, hsz, hP, hK, hD0, hN⟩ := hv
  have hts := atoms_spec (ws := .code y cc nL none :: lw_g) B.pre
  have hown : s.vm.findClass y.cls = some m.cls := findClass_of_methodNamed B.named
  have hlocks := B.notSynchronized
  have hr := B.returns
  have hin2 : meth.name = "<init>" := (name_of_methodNamed B.named B.method).1.trans hin
  subst hsz
  have hD := hD0.self (sz := s.heap.size)
  have hl := lv_entry ([.ref a]) (n := nL) (by simp [lg_sl, Value.category]; omega)
  rw [lg_entry_eq]
  generalize (lg_sl ([.ref a]) ++ List.replicate (nL - (lg_sl ([.ref a])).length) Slot.unset).toArray = ls at hl ⊢
  have hlR : lvR idN ls nL (.ref a :: List.replicate (nL - 1) .null) := by
    refine ⟨hl.1, hl.2.1, by simp; omega, fun i v hv hi => ?_⟩
    cases i with
    | zero =>
      simp at hv
      subst hv
      exact hl.2.2 (0, .ref a) List.mem_cons_self
    | succ i =>
      simp only [List.getElem?_cons_succ] at hv
      have := List.eq_of_mem_replicate (List.mem_of_getElem? hv)
      subst this
      cases hi
  refine hA D cA a p e s m _ below meth c (va_A [(a, .inr (ci, fs))] s.heap.size) s.heap [] _ ls ⟨B.exec, B.bytes, hml, hown, fun w hw => hts w (List.mem_cons_of_mem _ hw), hK, hN, fun q hq => Or.inr hq⟩ (fun _ => hin2) hP hD va_S.rf hlR ?_
  intro pc' ls' H' locs' ws' L' k' n' ⟨hdg, hW, hk, hn'⟩ hP' hD' hS' _
  refine W.widen hk hn' ?_
  exact W.vret B.exec B.bytes hr (fun t ht _ => ⟨⟨ws', rfl, hW, by rw [ht]; exact hP', hD'⟩, hS'.F ht⟩) hS'.2.2 hdg
theorem joinA {A : Nat → Prop} {D : va_G} {ws wc w1 : va_W} {H H1 : Heap} (hP : va_P D vwCl (ws ++ wc) H) (hD : va_D A (ws ++ wc)) (hk : ∀ q : Nat, q < H.size → ¬ va_A wc H.size q → H1[q]? = H[q]?) (hF : ∀ q, va_A wc H.size q → A q) (hP1 : va_P D vwCl w1 H1) (hD1 : va_D (va_A wc H.size) w1) : va_P D vwCl (ws ++ w1) H1 ∧ va_D A (ws ++ w1) := by
  have ga : ∀ (i : Nat) (q : Nat × va_E), ws[i]? = some q → (ws ++ wc)[i]? = some q := fun i q h => by rw [List.getElem?_append_left (List.getElem?_eq_some_iff.mp h).1]; exact h
  have gb : ∀ (i : Nat) (q : Nat × va_E), wc[i]? = some q → (ws ++ wc)[ws.length + i]? = some q := fun i q h => by rw [List.getElem?_append_right (by omega), Nat.add_sub_cancel_left]; exact h
  have apart : ∀ (k : Nat) (q : Nat × va_E), ws[k]? = some q → q.1 < H.size ∧ ¬ va_A wc H.size q.1 := by
    intro k q hq
    have hl := (hP k q (ga k q hq)).lt
    refine ⟨hl, fun h => ?_⟩
    rcases h with ⟨k2, e, h⟩ | h
    · have h4 := gb k2 (q.1, e) h
      have hij := hD.1 k (ws.length + k2) q (q.1, e) (ga k q hq) h4 rfl
      have := (List.getElem?_eq_some_iff.mp hq).1
      omega
    · omega
  refine ⟨va_P.app (fun k q hq => ?_) hP1, va_D.app ⟨fun i j p q hi hj e => hD.1 i j p q (ga i p hi) (ga j q hj) e, fun k q hq => hD.2 k q (ga k q hq)⟩ (hD1.weaken (fun k q _ h => hF q.1 h)) (fun i j x y hx hy hxy => ?_)⟩
  · obtain ⟨g1, g2⟩ := apart k q hq
    exact (hP k q (ga k q hq)).kept (hk q.1 g1 g2)
  · exact (apart i x hx).2 (by rw [hxy]; exact hD1.2 j y hy)
section AC
variable {own : String} {cc : ByteArray} {nL : Nat} {l : Launch} {R : Room} {D : va_G} {cA : Bool → ClassId} {ini : Bool} {ws : va_W} {L stk : List Value} {pc k n : Nat} {E : Nat → va_W → List Value → Nat → Nat → Prop}
theorem A_callN {y : MethodName} {yc : ByteArray} {yL idx q ci fr mc ms : Nat} {fs : List Value} {Wd : (Bool → ClassId) → Nat → va_W → Prop} (hC : CtA l y yc yL { frames := fr, cells := mc, slots := ms, locals := 40 * fr } ci fs mc ms Wd) (hw : (own, idx, y, RX7) ∈ nwM ∧ True ∧ Cond.initialized y.cls ∈ lw_g ∧ Cond.code y yc yL none ∈ lw_g ∧ Cond.instanceMethod y ∈ lw_g) (hy : y.cls ≠ "java/lang/invoke/MethodHandle" ∧ y.cls ≠ "java/lang/invoke/VarHandle" ∧ (parseMethodDescriptor y.desc).map (fun d => d.parameters.length) = some 0) (hy1 : y.name = "<init>") (hRf : fr + 1 ≤ R.frames) (hRl : 8 + (yL + 11) + 40 * fr ≤ R.locals) (hst : (stk.map fun v => v.category).sum ≤ 8) (hcl : k + mc ≤ R.cells ∧ n + ms ≤ R.slots) (hd : decode cc pc = .ok (.invokespecial idx, 3))
    (kk : ∀ w1 : va_W, Wd cA q w1 → AW own cc nL l R D cA ini (ws ++ w1) L stk (pc + 3) (k + mc) (n + ms) E) : AW own cc nL l R D cA ini (ws ++ [(q, .inr (ci, fs))]) L (.ref q :: stk) pc k n E := by
  intro p e s m args below meth c A H locs G ls F hI hP hD hS hL hR
  obtain ⟨hx, hb, hml, hown, hts, hK, hN, hAz⟩ := id F
  have hq : (ws ++ [(q, .inr (ci, fs))])[ws.length]? = some (q, .inr (ci, fs)) := by rw [List.getElem?_append_right (Nat.le_refl _), Nat.sub_self]; rfl
  have hPc : va_P D vwCl [(q, .inr (ci, fs))] H := fun i x hx => by
    have hz : i < 1 := (List.getElem?_eq_some_iff.mp hx).1
    rw [show i = 0 by omega] at hx
    cases hx
    exact hP _ _ hq
  have hDc : va_D (fun _ => True) [(q, .inr (ci, fs))] := ⟨fun i j x y hi hj _ => by
    have h1 : i < 1 := (List.getElem?_eq_some_iff.mp hi).1
    have h2 : j < 1 := (List.getElem?_eq_some_iff.mp hj).1
    omega, fun _ _ _ => trivial⟩
  have hFc : ∀ z, va_A [(q, .inr (ci, fs))] H.size z → A z := by
    intro z hz
    rcases hz with ⟨i, x, hi⟩ | hz
    · have h1 : i < 1 := (List.getElem?_eq_some_iff.mp hi).1
      rw [show i = 0 by omega] at hi
      cases hi
      exact hD.2 _ _ hq
    · exact hAz z (Nat.le_trans hS.1 hz)
  refine va_callv (mc := mc) (ms := ms) (rest := stk) (post := fun w1 => Wd cA q w1) (B := fun w1 t => va_P D vwCl w1 t.heap ∧ va_D (va_A [(q, .inr (ci, fs))] H.size) w1) (A1 := va_A [(q, .inr (ci, fs))] H.size) (free := va_A [(q, .inr (ci, fs))] H.size) (a := (Value.ref q :: []).toArray) (S := va_W) ?_ hS (fun z _ h => hFc z h) hFc (fun w1 t H1 locs1 ht hvm hw1 hB hz1 hk1 hS1 => ?_)
  · intro T hT X
    obtain ⟨v, st₀, t, T', Lo, h0, X', hLo, e1, e2, ⟨⟨w1, hv, hwd, hp1, hd1⟩, hf1⟩, st⟩ := (va_runIN (b := q) (As := []) (rest := stk) ⟨hx, hb, hml, hown, hts⟩ (hC D cA q H.size) ⟨va_cnB 0 hts (gcode hw.2.2.2.1) rfl rfl rfl (hN.1 _ hw.1) (hts _ hw.2.2.1) hy ⟨hRf, hRl⟩, hy1, hts _ hw.2.2.2.2⟩ ⟨fun a U g mk z => by obtain ⟨q0, q1, qP, qK, qD, qN⟩ := z; exact ⟨q0, q1, qP, va_K.moved (u := U) (U := U.calling g mk a) (Vm.Alike.refl U.vm) qK, qD, nwA_same (u := U) (U := U.calling g mk a) rfl qN⟩, fun U hU hW => ⟨rfl, by rw [hU], by rw [hU]; exact hPc, va_K.moved hW.alike hK, hDc, nwA_warm hW hN⟩⟩ rfl rfl hL.1 rfl (lv_room hst) hd hcl) T hT X
    exact ⟨v, st₀, t, T', Lo, h0, X', hLo, e1, e2, ⟨⟨w1, hv, hwd, hp1, hd1⟩, hf1⟩, st⟩
  · obtain ⟨hP1, hD1⟩ := hB
    rw [ht] at hP1
    obtain ⟨hP2, hD2⟩ := joinA hP hD hk1 hFc hP1 hD1
    exact kk w1 hw1 p e s m args below meth c A H1 locs1 G ls F hI hP2 hD2 hS1 hL hR

theorem A_callI {y : MethodName} {yc : ByteArray} {yL idx q ci fr mc ms : Nat} {fs : List Value} {Wd : (Bool → ClassId) → Nat → va_W → Prop} (hC : CtA l y yc yL { frames := fr, cells := mc, slots := ms, locals := 40 * fr } ci fs mc ms Wd) (hw : Cond.methodLink own idx y ∈ lw_g ∧ True ∧ Cond.initialized y.cls ∈ lw_g ∧ Cond.code y yc yL none ∈ lw_g ∧ Cond.instanceMethod y ∈ lw_g) (hy : y.cls ≠ "java/lang/invoke/MethodHandle" ∧ y.cls ≠ "java/lang/invoke/VarHandle" ∧ (parseMethodDescriptor y.desc).map (fun d => d.parameters.length) = some 0) (hy1 : y.name = "<init>") (hRf : fr + 1 ≤ R.frames) (hRl : 8 + (yL + 11) + 40 * fr ≤ R.locals) (hst : (stk.map fun v => v.category).sum ≤ 8) (hcl : k + mc ≤ R.cells ∧ n + ms ≤ R.slots) (hd : decode cc pc = .ok (.invokespecial idx, 3))
    (kk : ∀ w1 : va_W, Wd cA q w1 → AW own cc nL l R D cA ini (ws ++ w1) L stk (pc + 3) (k + mc) (n + ms) E) : AW own cc nL l R D cA ini (ws ++ [(q, .inr (ci, fs))]) L (.ref q :: stk) pc k n E := by
  intro p e s m args below meth c A H locs G ls F hI hP hD hS hL hR
  obtain ⟨hx, hb, hml, hown, hts, hK, hN, hAz⟩ := id F
  have hq : (ws ++ [(q, .inr (ci, fs))])[ws.length]? = some (q, .inr (ci, fs)) := by rw [List.getElem?_append_right (Nat.le_refl _), Nat.sub_self]; rfl
  have hPc : va_P D vwCl [(q, .inr (ci, fs))] H := fun i x hx => by
    have hz : i < 1 := (List.getElem?_eq_some_iff.mp hx).1
    rw [show i = 0 by omega] at hx
    cases hx
    exact hP _ _ hq
  have hDc : va_D (fun _ => True) [(q, .inr (ci, fs))] := ⟨fun i j x y hi hj _ => by
    have h1 : i < 1 := (List.getElem?_eq_some_iff.mp hi).1
    have h2 : j < 1 := (List.getElem?_eq_some_iff.mp hj).1
    omega, fun _ _ _ => trivial⟩
  have hFc : ∀ z, va_A [(q, .inr (ci, fs))] H.size z → A z := by
    intro z hz
    rcases hz with ⟨i, x, hi⟩ | hz
    · have h1 : i < 1 := (List.getElem?_eq_some_iff.mp hi).1
      rw [show i = 0 by omega] at hi
      cases hi
      exact hD.2 _ _ hq
    · exact hAz z (Nat.le_trans hS.1 hz)
  refine va_callv (mc := mc) (ms := ms) (rest := stk) (post := fun w1 => Wd cA q w1) (B := fun w1 t => va_P D vwCl w1 t.heap ∧ va_D (va_A [(q, .inr (ci, fs))] H.size) w1) (A1 := va_A [(q, .inr (ci, fs))] H.size) (free := va_A [(q, .inr (ci, fs))] H.size) (a := (Value.ref q :: []).toArray) (S := va_W) ?_ hS (fun z _ h => hFc z h) hFc (fun w1 t H1 locs1 ht hvm hw1 hB hz1 hk1 hS1 => ?_)
  · intro T hT X
    obtain ⟨v, st₀, t, T', Lo, h0, X', hLo, e1, e2, ⟨⟨w1, hv, hwd, hp1, hd1⟩, hf1⟩, st⟩ := (va_runI (b := q) (As := []) (rest := stk) ⟨hx, hb, hml, hown, hts⟩ (hC D cA q H.size) ⟨callB_of 0 hts (gcode hw.2.2.2.1) rfl rfl rfl (hts _ hw.2.2.1) (hts _ hw.1) hy ⟨hRf, hRl⟩, hy1, hts _ hw.2.2.2.2⟩ ⟨fun a U g mk z => by obtain ⟨q0, q1, qP, qK, qD, qN⟩ := z; exact ⟨q0, q1, qP, va_K.moved (u := U) (U := U.calling g mk a) (Vm.Alike.refl U.vm) qK, qD, nwA_same (u := U) (U := U.calling g mk a) rfl qN⟩, fun U hU hW => ⟨rfl, by rw [hU], by rw [hU]; exact hPc, va_K.moved hW.alike hK, hDc, nwA_warm hW hN⟩⟩ rfl rfl hL.1 rfl (lv_room hst) hd hcl) T hT X
    exact ⟨v, st₀, t, T', Lo, h0, X', hLo, e1, e2, ⟨⟨w1, hv, hwd, hp1, hd1⟩, hf1⟩, st⟩
  · obtain ⟨hP1, hD1⟩ := hB
    rw [ht] at hP1
    obtain ⟨hP2, hD2⟩ := joinA hP hD hk1 hFc hP1 hD1
    exact kk w1 hw1 p e s m args below meth c A H1 locs1 G ls F hI hP2 hD2 hS1 hL hR

end AC
