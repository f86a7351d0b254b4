/-! the shape of the world: cell i is an array (of bytes?, its length) or an object (its class's place, its fields: none a number, some j a reference to cell j) -/
abbrev AH : Type := Nat → Nat → Int32
abbrev Shp : Type := (Bool × Nat) ⊕ (Nat × List (Option Nat))
abbrev sh_tblF (b : Nat) : List (Option Nat) := [none, some (b + 1), some (b + 2), some (b + 3), some (b + 4), none, some (b + 5), some (b + 6), some (b + 7), none, some (b + 8), some (b + 9), some (b + 10), none, some (b + 11)]
def sh_all : List Shp := [.inr (7, [some 1, some 13, some 25, none, some 37, some 39, some 40, some 44, some 51, some 53]), .inr (5, sh_tblF 1), .inl (false, 12), .inl (false, 12), .inl (false, 360), .inl (false, 60), .inl (false, 6), .inl (false, 6), .inl (false, 6), .inl (false, 12), .inl (false, 12), .inl (false, 12), .inl (false, 6), .inr (5, sh_tblF 13), .inl (false, 12), .inl (false, 12), .inl (false, 360), .inl (false, 60), .inl (false, 6), .inl (false, 6), .inl (false, 6), .inl (false, 12), .inl (false, 12), .inl (false, 12), .inl (false, 6), .inr (5, sh_tblF 25), .inl (false, 12), .inl (false, 12), .inl (false, 360), .inl (false, 60), .inl (false, 6), .inl (false, 6), .inl (false, 6), .inl (false, 12), .inl (false, 12), .inl (false, 12), .inl (false, 6), .inr (4, [some 38, none, none, none]), .inl (false, 6), .inr (2, [none]), .inr (0, [some 41, some 42, some 43]), .inl (false, 12), .inl (false, 12), .inl (false, 12), .inr (6, [none, some 45, none, some 46, some 47, some 48, some 49, some 50]), .inl (true, 120), .inl (false, 61), .inl (false, 61), .inl (false, 61), .inl (false, 61), .inl (false, 61), .inr (3, [none, some 52]), .inl (true, 3960), .inr (1, [some 54, some 55]), .inl (false, 108), .inl (false, 3), .inr (8, [none, some 57, some 58, some 59, none, none, some 60, some 61, some 62, some 63, none, none, none, none, none, some 64, none, none, none, none, none, none, none, some 65, none, some 66, some 67, some 68, none]), .inl (false, 441), .inl (false, 441), .inl (false, 441), .inl (false, 12), .inl (false, 12), .inl (false, 12), .inl (false, 6), .inl (false, 120), .inl (false, 6000), .inl (false, 3), .inl (false, 108), .inl (false, 441)]
abbrev NC : Nat := 69
def isTbl (b : Nat) : Prop := b = 1 ∨ b = 13 ∨ b = 25
theorem isTbl_1 : isTbl 1 := Or.inl rfl
theorem isTbl_13 : isTbl 13 := Or.inr (Or.inl rfl)
theorem isTbl_25 : isTbl 25 := Or.inr (Or.inr rfl)
theorem tb_0 {b : Nat} (h : isTbl b) : sh_all[b]? = some (.inr (5, sh_tblF b)) := by rcases h with rfl | rfl | rfl <;> rfl
theorem tb_1 {b : Nat} (h : isTbl b) : sh_all[b + 1]? = some (.inl (false, 12)) := by rcases h with rfl | rfl | rfl <;> rfl
theorem tb_2 {b : Nat} (h : isTbl b) : sh_all[b + 2]? = some (.inl (false, 12)) := by rcases h with rfl | rfl | rfl <;> rfl
theorem tb_3 {b : Nat} (h : isTbl b) : sh_all[b + 3]? = some (.inl (false, 360)) := by rcases h with rfl | rfl | rfl <;> rfl
theorem tb_4 {b : Nat} (h : isTbl b) : sh_all[b + 4]? = some (.inl (false, 60)) := by rcases h with rfl | rfl | rfl <;> rfl
theorem tb_5 {b : Nat} (h : isTbl b) : sh_all[b + 5]? = some (.inl (false, 6)) := by rcases h with rfl | rfl | rfl <;> rfl
theorem tb_6 {b : Nat} (h : isTbl b) : sh_all[b + 6]? = some (.inl (false, 6)) := by rcases h with rfl | rfl | rfl <;> rfl
theorem tb_7 {b : Nat} (h : isTbl b) : sh_all[b + 7]? = some (.inl (false, 6)) := by rcases h with rfl | rfl | rfl <;> rfl
theorem tb_8 {b : Nat} (h : isTbl b) : sh_all[b + 8]? = some (.inl (false, 12)) := by rcases h with rfl | rfl | rfl <;> rfl
theorem tb_9 {b : Nat} (h : isTbl b) : sh_all[b + 9]? = some (.inl (false, 12)) := by rcases h with rfl | rfl | rfl <;> rfl
theorem tb_10 {b : Nat} (h : isTbl b) : sh_all[b + 10]? = some (.inl (false, 12)) := by rcases h with rfl | rfl | rfl <;> rfl
theorem tb_11 {b : Nat} (h : isTbl b) : sh_all[b + 11]? = some (.inl (false, 6)) := by rcases h with rfl | rfl | rfl <;> rfl
def w_fs (σ : Nat → Nat) (h : AH) (i : Nat) (fl : List (Option Nat)) : List Value := (List.range fl.length).map (fun k => match fl.getD k none with | none => Value.int (h i k) | some j => Value.ref (σ j))
def w_E (σ : Nat → Nat) (cA : Bool → ClassId) (h : AH) (i : Nat) : Shp → va_E
  | .inl (b, n) => .inl (cA b, n, .inl (h i))
  | .inr (ci, fl) => .inr (ci, w_fs σ h i fl)
def w_S (i : Nat) : Shp := sh_all.getD i (.inl (false, 0))
def w_W (σ : Nat → Nat) (cA : Bool → ClassId) (h : AH) : va_W := (List.range NC).map (fun i => (σ i, w_E σ cA h i (w_S i)))
theorem w_lt {i : Nat} {s : Shp} (hs : sh_all[i]? = some s) : i < NC := (List.getElem?_eq_some_iff.mp hs).1
theorem w_SS {i : Nat} {s : Shp} (hs : sh_all[i]? = some s) : w_S i = s := by
  unfold w_S
  rw [List.getD_eq_getElem?_getD, hs]
  rfl
theorem w_at (σ : Nat → Nat) (cA : Bool → ClassId) (h : AH) {i : Nat} {s : Shp} (hs : sh_all[i]? = some s) : (w_W σ cA h)[i]? = some (σ i, w_E σ cA h i s) := by
  have hi := w_lt hs
  unfold w_W
  rw [List.getElem?_map, List.getElem?_range hi, ← w_SS hs]
  rfl
theorem w_arr {σ : Nat → Nat} {cA : Bool → ClassId} {h : AH} {i n : Nat} {b : Bool} (hs : sh_all[i]? = some (.inl (b, n))) : (w_W σ cA h)[i]? = some (σ i, .inl (cA b, n, .inl (h i))) := w_at σ cA h hs
theorem w_obj {σ : Nat → Nat} {cA : Bool → ClassId} {h : AH} {i ci : Nat} {fl : List (Option Nat)} (hs : sh_all[i]? = some (.inr (ci, fl))) : (w_W σ cA h)[i]? = some (σ i, .inr (ci, w_fs σ h i fl)) := w_at σ cA h hs
theorem w_fsI {σ : Nat → Nat} {h : AH} {i k : Nat} {fl : List (Option Nat)} (hf : fl[k]? = some none) : (w_fs σ h i fl)[k]? = some (.int (h i k)) := by
  have hk := (List.getElem?_eq_some_iff.mp hf).1
  unfold w_fs
  rw [List.getElem?_map, List.getElem?_range hk]
  simp [hf]
theorem w_fsR {σ : Nat → Nat} {h : AH} {i k j : Nat} {fl : List (Option Nat)} (hf : fl[k]? = some (some j)) : (w_fs σ h i fl)[k]? = some (.ref (σ j)) := by
  have hk := (List.getElem?_eq_some_iff.mp hf).1
  unfold w_fs
  rw [List.getElem?_map, List.getElem?_range hk]
  simp [hf]
theorem w_fsL (σ : Nat → Nat) (h : AH) (i : Nat) (fl : List (Option Nat)) : (w_fs σ h i fl).length = fl.length := by simp [w_fs]
def up (h : AH) (i k : Nat) (x : Int32) : AH := fun a => if a = i then upd (h a) k x else h a
theorem up_at (h : AH) (i k : Nat) (x : Int32) : up h i k x i = upd (h i) k x := by simp [up]
theorem up_ne (h : AH) (i k : Nat) (x : Int32) {a : Nat} (e : a ≠ i) : up h i k x a = h a := by simp [up, e]
def cpA (h : AH) (s d sp dp n : Nat) : AH := fun a => if a = d then va_cpy (h s) (h d) sp dp n else h a
theorem w_Ec {σ : Nat → Nat} {cA : Bool → ClassId} {h h' : AH} {i : Nat} (e : h' i = h i) (s : Shp) : w_E σ cA h' i s = w_E σ cA h i s := by
  rcases s with ⟨b, n⟩ | ⟨ci, fl⟩
  · show Sum.inl (cA b, n, Sum.inl (h' i)) = Sum.inl (cA b, n, Sum.inl (h i))
    rw [e]
  · show Sum.inr (ci, w_fs σ h' i fl) = Sum.inr (ci, w_fs σ h i fl)
    unfold w_fs
    rw [e]
theorem w_set {σ : Nat → Nat} {cA : Bool → ClassId} {h h' : AH} {i : Nat} {s : Shp} {e : va_E} (hs : sh_all[i]? = some s) (he : w_E σ cA h' i s = e) (ho : ∀ a, a ≠ i → h' a = h a) : (w_W σ cA h).set i (σ i, e) = w_W σ cA h' := by
  have hi := w_lt hs
  apply List.ext_getElem?
  intro j
  by_cases hj : j = i
  · subst hj
    rw [w_at σ cA h' hs, he, List.getElem?_set_self (by simp [w_W]; exact hi)]
  · rw [List.getElem?_set_ne (Ne.symm hj)]
    by_cases hn : j < NC
    · have q : ∃ s', sh_all[j]? = some s' := ⟨_, List.getElem?_eq_getElem (show j < sh_all.length from hn)⟩
      obtain ⟨s', q⟩ := q
      rw [w_at σ cA h q, w_at σ cA h' q, w_Ec (ho j hj)]
    · have a1 : (w_W σ cA h)[j]? = none := by simp [w_W]; omega
      have a2 : (w_W σ cA h')[j]? = none := by simp [w_W]; omega
      rw [a1, a2]
theorem w_fsU {σ : Nat → Nat} {h : AH} {i k : Nat} {x : Int32} {fl : List (Option Nat)} (hf : fl[k]? = some none) : w_fs σ (up h i k x) i fl = (w_fs σ h i fl).set k (.int x) := by
  have hk := (List.getElem?_eq_some_iff.mp hf).1
  apply List.ext_getElem?
  intro j
  by_cases hj : j = k
  · subst hj
    rw [w_fsI hf, List.getElem?_set_self (by rw [w_fsL]; exact hk), up_at]
    simp [upd]
  · rw [List.getElem?_set_ne (Ne.symm hj)]
    unfold w_fs
    rw [up_at, List.getElem?_map, List.getElem?_map]
    by_cases hj2 : j < fl.length
    · rw [List.getElem?_range hj2]
      show some _ = some _
      have e : upd (h i) k x j = h i j := by simp [upd, hj]
      dsimp only
      rw [e]
    · have e : (List.range fl.length)[j]? = none := by simp; omega
      rw [e]
      rfl
def w_ap (σ : Nat → Nat) : Prop := ∀ i j, i < NC → j < NC → σ i = σ j → i = j
theorem w_Wlen (σ : Nat → Nat) (cA : Bool → ClassId) (h : AH) : (w_W σ cA h).length = NC := by simp [w_W]
theorem w_Wk {σ : Nat → Nat} {cA : Bool → ClassId} {h : AH} {k : Nat} {q : Nat × va_E} (hk : (w_W σ cA h)[k]? = some q) : k < NC ∧ q.1 = σ k := by
  have hl := (List.getElem?_eq_some_iff.mp hk).1
  rw [w_Wlen] at hl
  refine ⟨hl, ?_⟩
  unfold w_W at hk
  rw [List.getElem?_map, List.getElem?_range hl] at hk
  cases hk
  rfl
theorem w_D {σ : Nat → Nat} {A : Nat → Prop} (ap : w_ap σ) (hA : ∀ i, i < NC → A (σ i)) (cA : Bool → ClassId) (h : AH) : va_D A (w_W σ cA h) := by
  refine ⟨fun i j p q hi hj e => ?_, fun k q hk => ?_⟩
  · obtain ⟨a1, a2⟩ := w_Wk hi
    obtain ⟨b1, b2⟩ := w_Wk hj
    exact ap i j a1 b1 (by rw [← a2, ← b2]; exact e)
  · obtain ⟨a1, a2⟩ := w_Wk hk
    rw [a2]
    exact hA k a1
def cv (σ : Nat → Nat) : Value → Value
  | .ref a => .ref (σ a)
  | v => v
def isIR : Value → Bool
  | .int _ => true
  | .ref _ => true
  | _ => false
theorem cv_cat {σ : Nat → Nat} {v : Value} : (cv σ v).category = v.category := by cases v <;> rfl
theorem isIR_cat {v : Value} (h : isIR v = true) : v.category = 1 := by cases v <;> first | rfl | cases h
def lvR (σ : Nat → Nat) (ls : Array Slot) (nL : Nat) (L : List Value) : Prop := ls.size = nL ∧ lv_wf ls ∧ L.length = nL ∧ ∀ (i : Nat) (v : Value), L[i]? = some v → isIR v = true → ls[i]? = some (.val (cv σ v))
theorem lvR_at {σ : Nat → Nat} {ls : Array Slot} {nL : Nat} {L : List Value} (h : lvR σ ls nL L) {i : Nat} {v : Value} (hv : L[i]? = some v) (hi : isIR v = true) : ls[i]? = some (.val (cv σ v)) := h.2.2.2 i v hv hi
def lvO (σ : Nat → Nat) (L : List Value) : List (Nat × Value) := (List.range L.length).filterMap (fun i => match L[i]? with | some v => if isIR v = true then some (i, cv σ v) else none | none => none)
theorem lvO_mem {σ : Nat → Nat} {L : List Value} {q : Nat × Value} : q ∈ lvO σ L ↔ ∃ v, L[q.1]? = some v ∧ isIR v = true ∧ q.2 = cv σ v := by
  unfold lvO
  rw [List.mem_filterMap]
  constructor
  · rintro ⟨i, hi, h⟩
    cases hL : L[i]? with
    | none => simp [hL] at h
    | some v =>
      simp only [hL] at h
      by_cases hv : isIR v = true
      · rw [if_pos hv] at h
        cases h
        exact ⟨v, hL, hv, rfl⟩
      · rw [if_neg hv] at h
        cases h
  · rintro ⟨v, h1, h2, h3⟩
    refine ⟨q.1, List.mem_range.mpr (List.getElem?_eq_some_iff.mp h1).1, ?_⟩
    simp only [h1, h2, if_true]
    rw [← h3]
theorem lvO_has {σ : Nat → Nat} {ls : Array Slot} {nL : Nat} {L : List Value} (h : lvR σ ls nL L) : lv_has ls nL (lvO σ L) := by
  refine ⟨h.1, h.2.1, fun q hq => ?_⟩
  obtain ⟨v, h1, h2, h3⟩ := lvO_mem.mp hq
  rw [h3]
  exact h.2.2.2 q.1 v h1 h2
theorem lvR_set {σ : Nat → Nat} {ls ls' : Array Slot} {nL i : Nat} {L : List Value} {v : Value} (h : lvR σ ls nL L) (hi : i < nL) (h' : lv_has ls' nL ((i, cv σ v) :: (lvO σ L).filter (fun q => !(q.1 == i) && !(q.1 + 1 == i && q.2.category == 2)))) : lvR σ ls' nL (L.set i v) := by
  refine ⟨h'.1, h'.2.1, by rw [List.length_set]; exact h.2.2.1, fun j w hj hw => ?_⟩
  by_cases e : j = i
  · subst e
    rw [List.getElem?_set_self (by rw [h.2.2.1]; exact hi)] at hj
    cases hj
    exact h'.2.2 (j, cv σ v) List.mem_cons_self
  · rw [List.getElem?_set_ne (Ne.symm e)] at hj
    refine h'.2.2 (j, cv σ w) (List.mem_cons_of_mem _ (List.mem_filter.mpr ⟨lvO_mem.mpr ⟨w, hj, hw, rfl⟩, ?_⟩))
    have hc : (cv σ w).category = 1 := by rw [cv_cat]; exact isIR_cat hw
    simp [e, hc]
/-- fewer values known -/
def wk : List Value → List Value → Prop
  | [], [] => True
  | a :: as, b :: bs => (a = .null ∨ a = b) ∧ wk as bs
  | _, _ => False
theorem wk_at : ∀ {L' L : List Value}, wk L' L → L'.length = L.length ∧ ∀ (i : Nat) (v : Value), L'[i]? = some v → isIR v = true → L[i]? = some v
  | [], [], _ => ⟨rfl, fun i v h => by simp at h⟩
  | a :: as, b :: bs, h => by
    obtain ⟨h1, h2⟩ := h
    obtain ⟨e1, e2⟩ := wk_at h2
    refine ⟨by simp [e1], fun i v hv hi => ?_⟩
    cases i with
    | zero =>
      simp at hv
      subst hv
      rcases h1 with h1 | h1
      · subst h1
        cases hi
      · subst h1
        simp
    | succ i =>
      simp at hv ⊢
      exact e2 i v hv hi
  | [], _ :: _, h => by cases h
  | _ :: _, [], h => by cases h
theorem lvR_wk {σ : Nat → Nat} {ls : Array Slot} {nL : Nat} {L L' : List Value} (hw : wk L' L) (h : lvR σ ls nL L) : lvR σ ls nL L' := by
  obtain ⟨e1, e2⟩ := wk_at hw
  exact ⟨h.1, h.2.1, e1.trans h.2.2.1, fun i v hv hi => h.2.2.2 i v (e2 i v hv hi) hi⟩
theorem lvA_mem : ∀ (vs : List Value) (o : Nat), (∀ v ∈ vs, v.category = 1) → ∀ i v, vs[i]? = some v → (o + i, v) ∈ lv_args o vs
  | [], _, _, i, v, h => by simp at h
  | w :: ws, o, hc, i, v, h => by
    have hw : w.category = 1 := hc w List.mem_cons_self
    simp only [lv_args, hw]
    cases i with
    | zero =>
      simp at h
      subst h
      exact List.mem_cons_self
    | succ i =>
      simp at h
      have := lvA_mem ws (o + 1) (fun v hv => hc v (List.mem_cons_of_mem _ hv)) i v h
      rw [show o + 1 + i = o + (i + 1) by omega] at this
      exact List.mem_cons_of_mem _ this
theorem lgS_len : ∀ (vs : List Value), (∀ v ∈ vs, v.category = 1) → (lg_sl vs).length = vs.length
  | [], _ => rfl
  | w :: ws, hc => by
    have hw : w.category = 1 := hc w List.mem_cons_self
    have := lgS_len ws (fun v hv => hc v (List.mem_cons_of_mem _ hv))
    simp only [lg_sl, List.flatMap_cons, hw, List.length_append] at this ⊢
    simp [this]
    omega
/-! the words -/
def lw_g : List Cond := lw_tbl.filter goodWord
theorem lw_gi {w : Cond} (h : w ∈ lw_tbl) (hg : goodWord w = true) : w ∈ lw_g := List.mem_filter.mpr ⟨h, hg⟩
theorem lw_gg {ws : List Cond} (h : ∀ w ∈ ws, w ∈ lw_g) : GoodIn lw_g ws := fun w hw => ⟨h w hw, good_of_word (List.mem_filter.mp (h w hw)).2⟩
def nwM : List (String × Nat × MethodName × String) := [(RX5, 64, yX7_isOwner, RX7), (RX5, 137, yX7_hasBit, RX7), (RX4, 33, yX7_hasBit, RX7), (RX7, 11, yX5_init, RX7), (RX7, 30, yX4_init, RX7), (RX7, 37, yX2_init, RX7), (RX7, 44, yX0_init, RX7), (RX7, 51, yX6_init, RX7), (RX7, 58, yX3_init, RX7), (RX7, 65, yX1_init, RX7)]
def nwF : List (String × Nat × String × String × String × String) := [(RX5, 93, RX7, "CLASHES", "[I", RX7), (RX5, 96, RX7, "MEANT_ABOVE", "[I", RX7), (RX5, 143, RX7, "ASKED_MODES", "[I", RX7)]
def nwA (s : State) : Prop := (∀ q ∈ nwM, va_Nw (.methodLinkNest q.1 q.2.1 q.2.2.1 q.2.2.2) s) ∧ ∀ q ∈ nwF, va_Nw (.fieldLinkNest q.1 q.2.1 q.2.2.1 q.2.2.2.1 q.2.2.2.2.1 q.2.2.2.2.2) s
def stZ (σ : Nat → Nat) (A : Nat → Prop) (s : State) (H : Heap) : Prop := va_Z "LockTable" "CLASHES" "[I" (.ref (σ NC)) A s H ∧ va_Z "LockTable" "MEANT_ABOVE" "[I" (.ref (σ (NC + 1))) A s H ∧ va_Z "LockTable" "ASKED_MODES" "[I" (.ref (σ (NC + 2))) A s H
def tCL : Nat → Int32 := fun k => match k with | 0 => 0 | 1 => 32 | 2 => 40 | 3 => 52 | 4 => 56 | _ => 62
def tMA : Nat → Int32 := fun k => match k with | 2 => 1 | 4 => 3 | 5 => 3 | _ => 0
def tAM : Nat → Int32 := fun k => match k with | 0 => 2 | 1 => 4 | _ => 5
def tb0 : Nat → Nat × (Nat → Int32) := fun k => match k with | 0 => (6, tCL) | 1 => (6, tMA) | _ => (3, tAM)
def stT (σ : Nat → Nat) (A : Nat → Prop) (tb : Nat → Nat × (Nat → Int32)) (nt : Nat) (s : State) (H : Heap) : Prop := ∀ k, k < nt → va_T .int (σ (NC + k)) (tb k).1 (fun j => .int ((tb k).2 j)) A s H
def tyL (cA : Bool → ClassId) : List (ClassId × FieldType) := [(cA false, .int), (cA true, .byte)]
def Fx (p : Program) (R : Room) (s : State) (m : MethodId) (args : Array Value) (c : Code) (own : String) (cc : ByteArray) (nL : Nat) (D : va_G) (cA : Bool → ClassId) (σ : Nat → Nat) (A : Nat → Prop) (tb : Nat → Nat × (Nat → Int32)) (nt cells slots : Nat) : Prop :=
  p.tables.exec = Jvm.exec ∧ c.code = cc ∧ c.maxLocals = nL ∧ s.vm.findClass own = some m.cls ∧ (∀ w ∈ lw_g, w.before args s = true) ∧ va_K D vwCl (tyL cA) s ∧ stZ σ A s s.heap ∧ stT σ A tb nt s s.heap ∧ nwA s ∧ w_ap σ ∧ (∀ i, i < NC → A (σ i)) ∧ (∀ q, s.heap.size ≤ q → A q) ∧ cells ≤ R.cells ∧ slots ≤ R.slots
def rIns : Option Value → Instr
  | none => .return_
  | some (.long _) => .lreturn
  | some _ => .ireturn
def zB (x : Int32) : Prop := x = 0 ∨ x = 1
theorem zB_0 : zB 0 := Or.inl rfl
theorem zB_1 : zB 1 := Or.inr rfl
def rOk : Option FieldType → Option Value → Prop
  | none, none => True
  | some .int, some (.int _) => True
  | some .boolean, some (.int x) => zB x
  | some .long, some (.long _) => True
  | _, _ => False
/-- from here on, in method 'own, cc', with these values in its variables and on its stack, over the cells h, it comes to a return with Q -/
def BW (own : String) (cc : ByteArray) (nL : Nat) (ret : Option FieldType) (l : Launch) (R : Room) (tb : Nat → Nat × (Nat → Int32)) (nt : Nat) (L stk : List Value) (pc : Nat) (h : AH) (Q : Option Value → AH → Prop) : Prop :=
  ∀ (p : Program) (e : Env) (s : State) (m : MethodId) (args : Array Value) (below : List Frame) (meth : Method) (c : Code) (D : va_G) (cA : Bool → ClassId) (σ : Nat → Nat) (A : Nat → Prop) (H : Heap) (locs : List Loc) (cells slots : Nat) (G : State → Prop) (ls : Array Slot),
    Fx p R s m args c own cc nL D cA σ A tb nt cells slots → va_P D vwCl (w_W σ cA h) H → va_S A s.heap H locs → lvR σ ls nL L →
    (∀ (pc' : Nat) (ls' : Array Slot) (H' : Heap) (locs' : List Loc) (v : Option Value) (h' : AH), Q v h' → rOk ret v → decode cc pc' = .ok (rIns v, 1) → va_P D vwCl (w_W σ cA h') H' → va_S A s.heap H' locs' → W p l e R s m args below meth c H' locs' cells slots G (F0 m pc' ls' (v.toList.map (cv σ)))) →
    W p l e R s m args below meth c H locs cells slots G (F0 m pc ls (stk.map (cv σ)))
def Ar (σ : Nat → Nat) (sz : Nat) : Nat → Prop := fun q => (∃ i, i < NC ∧ q = σ i) ∨ sz ≤ q
def Pre (σ : Nat → Nat) (D : va_G) (cA : Bool → ClassId) (sz : Nat) (av : List Value) (h : AH) : Array Value → State → Prop :=
  va_Pc (av.map (cv σ)) (fun U => U.heap.size = sz ∧ va_P D vwCl (w_W σ cA h) U.heap ∧ va_K D vwCl (tyL cA) U ∧ stZ σ (Ar σ sz) U U.heap ∧ stT σ (Ar σ sz) tb0 3 U U.heap ∧ nwA U ∧ w_ap σ)
def Post (σ : Nat → Nat) (D : va_G) (cA : Bool → ClassId) (sz : Nat) (Q : Option Value → AH → Prop) : Array Value → State → Outcome → State → Prop :=
  fun _ st oc t => (∃ (v : Option Value) (h' : AH), oc = .returned (v.map (cv σ)) ∧ Q v h' ∧ va_P D vwCl (w_W σ cA h') t.heap) ∧ va_F (Ar σ sz) st t
/-- a method's contract: called with av over the cells h it returns with Q -/
def Ct (l : Launch) (y : MethodName) (cc : ByteArray) (nL : Nat) (ret : Option FieldType) (R : Room) (av : List Value) (h : AH) (Q : Option Value → AH → Prop) : Prop :=
  ∀ (D : va_G) (cA : Bool → ClassId) (σ : Nat → Nat) (sz : Nat), Met l y (.code y cc nL ret :: lw_g) R (Pre σ D cA sz av h) (Post σ D cA sz Q) 0 0 (Ar σ sz)
abbrev rmD (d : Nat) : Room := { frames := d, cells := 0, slots := 0, locals := 40 * d }
def Qi (K : Int32 → AH → Prop) : Option Value → AH → Prop := fun v h => ∃ r, v = some (.int r) ∧ K r h
def Ql (K : Int64 → AH → Prop) : Option Value → AH → Prop := fun v h => ∃ r, v = some (.long r) ∧ K r h
def Qv (K : AH → Prop) : Option Value → AH → Prop := fun v h => v = none ∧ K h
theorem stZ_moved {σ : Nat → Nat} {A : Nat → Prop} {u U : State} {H : Heap} (hvm : u.vm.Alike U.vm) (h : stZ σ A u H) : stZ σ A U H := ⟨h.1.moved hvm, h.2.1.moved hvm, h.2.2.moved hvm⟩
theorem stZ_kept {σ : Nat → Nat} {A : Nat → Prop} {U : State} {H H1 : Heap} (h : stZ σ A U H) (hq : ∀ a : Nat, a < H.size → ¬ A a → H1[a]? = H[a]?) : stZ σ A U H1 := ⟨h.1.kept hq, h.2.1.kept hq, h.2.2.kept hq⟩
theorem stZ_narrow {σ : Nat → Nat} {A B : Nat → Prop} {U : State} {H : Heap} (h : stZ σ A U H) (hAB : ∀ q, B q → A q) : stZ σ B U H := ⟨h.1.narrow hAB, h.2.1.narrow hAB, h.2.2.narrow hAB⟩
theorem stT_moved {σ : Nat → Nat} {A : Nat → Prop} {tb : Nat → Nat × (Nat → Int32)} {nt : Nat} {u U : State} {H : Heap} (hvm : u.vm.Alike U.vm) (h : stT σ A tb nt u H) : stT σ A tb nt U H := fun k hk => (h k hk).moved hvm
theorem stT_kept {σ : Nat → Nat} {A : Nat → Prop} {tb : Nat → Nat × (Nat → Int32)} {nt : Nat} {U : State} {H H1 : Heap} (h : stT σ A tb nt U H) (hq : ∀ a : Nat, a < H.size → ¬ A a → H1[a]? = H[a]?) : stT σ A tb nt U H1 := fun k hk => (h k hk).kept hq
theorem stT_narrow {σ : Nat → Nat} {A B : Nat → Prop} {tb : Nat → Nat × (Nat → Int32)} {nt : Nat} {U : State} {H : Heap} (h : stT σ A tb nt U H) (hAB : ∀ q, B q → A q) : stT σ B tb nt U H := fun k hk => (h k hk).narrow hAB
theorem nwA_warm {s U : State} (hW : s.WarmedH U.vm) (h : nwA s) : nwA U := ⟨fun q hq => va_Nw.warmM hW (h.1 q hq), fun q hq => va_Nw.warmF hW (h.2 q hq)⟩
theorem nwA_same {u U : State} (e : u.vm = U.vm) (h : nwA u) : nwA U := ⟨fun q hq => va_Nw.same rfl e (h.1 q hq), fun q hq => va_Nw.same rfl e (h.2 q hq)⟩
theorem Pre_blind (σ : Nat → Nat) (D : va_G) (cA : Bool → ClassId) (sz : Nat) (av : List Value) (h : AH) : FrameBlind (Pre σ D cA sz av h) := by
  intro a U g mk q
  obtain ⟨q0, q1, q2, q3, q4, q5, q6, q7⟩ := q
  exact ⟨q0, q1, q2, va_K.moved (u := U) (U := U.calling g mk a) (Vm.Alike.refl U.vm) q3, stZ_moved (u := U) (U := U.calling g mk a) (Vm.Alike.refl U.vm) q4, stT_moved (u := U) (U := U.calling g mk a) (Vm.Alike.refl U.vm) q5, nwA_same (u := U) (U := U.calling g mk a) rfl q6, q7⟩
theorem map_cv_cat (σ : Nat → Nat) (stk : List Value) : ((stk.map (cv σ)).map fun v => v.category).sum = (stk.map fun v => v.category).sum := by
  rw [List.map_map]
  congr 1
  apply List.map_congr_left
  intro v _
  exact cv_cat
theorem Ct_ofBW {l : Launch} {y : MethodName} {cc : ByteArray} {nL : Nat} {ret : Option FieldType} {R : Room} {av : List Value} {h : AH} {Q : Option Value → AH → Prop} (hpl : plainName y.cls = true) (hav : av.all isIR = true) (hn : av.length ≤ nL) (hR : R.cells = 0 ∧ R.slots = 0)
    (hB : BW y.cls cc nL ret l R tb0 3 (av ++ List.replicate (nL - av.length) .null) [] 0 h Q) : Ct l y cc nL ret R av h Q := by
  intro D cA σ sz
  refine Met.ofW (cc := cc) (maxL := nL) (ret := ret) hpl rfl ?_
  intro p e s m args below meth c s₁ B hml hv
  obtain ⟨rfl, hsz, hP, hK, hZ, hT, hN, hap⟩ := hv
  have hts := atoms_spec (ws := .code y cc nL ret :: lw_g) B.pre
  have hown : s.vm.findClass y.cls = some m.cls := findClass_of_methodNamed B.named
  have hlocks := B.notSynchronized
  have hr := B.returns
  subst hsz
  have hc1 : ∀ v ∈ av, v.category = 1 := fun v hv => isIR_cat (List.all_eq_true.mp hav v hv)
  have hc2 : ∀ v ∈ av.map (cv σ), v.category = 1 := by
    intro v hv
    obtain ⟨w, hw, rfl⟩ := List.mem_map.mp hv
    rw [cv_cat]
    exact hc1 w hw
  have hlen : (lg_sl (av.map (cv σ))).length ≤ nL := by rw [lgS_len _ hc2, List.length_map]; exact hn
  have hl := lv_entry (av.map (cv σ)) (n := nL) hlen
  rw [lg_entry_eq]
  generalize (lg_sl (av.map (cv σ)) ++ List.replicate (nL - (lg_sl (av.map (cv σ))).length) Slot.unset).toArray = ls at hl ⊢
  have hlR : lvR σ ls nL (av ++ List.replicate (nL - av.length) .null) := by
    refine ⟨hl.1, hl.2.1, by simp; omega, fun i v hv hi => ?_⟩
    by_cases hlt : i < av.length
    · rw [List.getElem?_append_left hlt] at hv
      have h3 : (av.map (cv σ))[i]? = some (cv σ v) := by rw [List.getElem?_map, hv]; rfl
      have h4 := lvA_mem (av.map (cv σ)) 0 hc2 i (cv σ v) h3
      rw [Nat.zero_add] at h4
      exact hl.2.2 _ h4
    · rw [List.getElem?_append_right (by omega)] at hv
      have := List.eq_of_mem_replicate (List.mem_of_getElem? hv)
      subst this
      cases hi
  refine hB p e s m _ below meth c D cA σ (Ar σ s.heap.size) s.heap [] 0 0 _ ls ⟨B.exec, B.bytes, hml, hown, fun w hw => hts w (List.mem_cons_of_mem _ hw), hK, hZ, hT, hN, hap, fun i hi => Or.inl ⟨i, hi, rfl⟩, fun q hq => Or.inr hq, Nat.zero_le _, Nat.zero_le _⟩ hP va_S.rf hlR ?_
  intro pc' ls' H' locs' v h' hQ hrk hdg hP' hS'
  have fin : ∀ (oc : Outcome) (t : State), oc = .returned (v.map (cv σ)) → t.heap = H' → Post σ D cA s.heap.size Q (av.map (cv σ)).toArray s oc t := fun oc t e ht => ⟨⟨v, h', e, hQ, by rw [ht]; exact hP'⟩, hS'.F ht⟩
  cases v with
  | none =>
    have er : ret = none := by
      cases ret with
      | none => rfl
      | some t => cases t <;> cases hrk
    rw [er] at hr
    exact W.vret B.exec B.bytes hr (fun t ht hW => fin _ t rfl ht) hS'.2.2 hdg
  | some w =>
    cases ret with
    | none => cases hrk
    | some ty =>
      cases ty <;> cases w <;> first | (exfalso; exact hrk) | skip
      all_goals first
        | exact W.iret B.exec B.bytes hr (fun t ht hW => fin _ t rfl ht) hS'.2.2 hdg
        | exact W.lret B.exec B.bytes hr (fun t ht hW => fin _ t rfl ht) hS'.2.2 hdg
        | exact W.zret B.exec B.bytes hr (by rcases hrk with rfl | rfl <;> rfl) (fun t ht hW => fin _ t rfl ht) hS'.2.2 hdg
section BR
variable {own : String} {cc : ByteArray} {nL : Nat} {ret : Option FieldType} {l : Launch} {R : Room} {tb : Nat → Nat × (Nat → Int32)} {nt : Nat} {L stk : List Value} {pc : Nat} {h : AH} {Q : Option Value → AH → Prop}
theorem B_iconst {n : Int} {v : Int32} (hd : decode cc pc = .ok (.iconst n, 1)) (hv : Int32.ofInt n = v) (kk : BW own cc nL ret l R tb nt L (.int v :: stk) (pc + 1) h Q) : BW own cc nL ret l R tb nt L stk pc h Q := by
  intro p e s m args below meth c D cA σ A H locs cells slots G ls F hP hS hL hR
  obtain ⟨hx, hb, hml, hown, hts, hK, hZ, hT, hN, hap, hAi, hAz, hcl, hsl⟩ := id F
  exact lv_iconst hx hb hd hv (kk p e s m args below meth c D cA σ A H locs cells slots G ls F hP hS hL hR)
theorem B_bipush {n : Int} {v : Int32} (hd : decode cc pc = .ok (.bipush n, 2)) (hv : (Int8.ofInt n).toInt32 = v) (kk : BW own cc nL ret l R tb nt L (.int v :: stk) (pc + 2) h Q) : BW own cc nL ret l R tb nt L stk pc h Q := by
  intro p e s m args below meth c D cA σ A H locs cells slots G ls F hP hS hL hR
  obtain ⟨hx, hb, hml, hown, hts, hK, hZ, hT, hN, hap, hAi, hAz, hcl, hsl⟩ := id F
  exact lv_bipush hx hb hd hv (kk p e s m args below meth c D cA σ A H locs cells slots G ls F hP hS hL hR)
theorem B_sipush {n : Int} {v : Int32} (hd : decode cc pc = .ok (.sipush n, 3)) (hv : (Int16.ofInt n).toInt32 = v) (kk : BW own cc nL ret l R tb nt L (.int v :: stk) (pc + 3) h Q) : BW own cc nL ret l R tb nt L stk pc h Q := by
  intro p e s m args below meth c D cA σ A H locs cells slots G ls F hP hS hL hR
  obtain ⟨hx, hb, hml, hown, hts, hK, hZ, hT, hN, hap, hAi, hAz, hcl, hsl⟩ := id F
  exact lv_sipush hx hb hd hv (kk p e s m args below meth c D cA σ A H locs cells slots G ls F hP hS hL hR)
theorem B_ldc {idx : Nat} {v : Int32} (hd : decode cc pc = .ok (.ldc idx, 2)) (hw : Cond.constant own idx v ∈ lw_g) (kk : BW own cc nL ret l R tb nt L (.int v :: stk) (pc + 2) h Q) : BW own cc nL ret l R tb nt L stk pc h Q := by
  intro p e s m args below meth c D cA σ A H locs cells slots G ls F hP hS hL hR
  obtain ⟨hx, hb, hml, hown, hts, hK, hZ, hT, hN, hap, hAi, hAz, hcl, hsl⟩ := id F
  exact lv_ldc hx hb hown (hts _ hw) hd (kk p e s m args below meth c D cA σ A H locs cells slots G ls F hP hS hL hR)
theorem B_ldc2 {idx : Nat} {v : Int64} (hd : decode cc pc = .ok (.ldc2_w idx, 3)) (hw : Cond.constantLong own idx v ∈ lw_g) (kk : BW own cc nL ret l R tb nt L (.long v :: stk) (pc + 3) h Q) : BW own cc nL ret l R tb nt L stk pc h Q := by
  intro p e s m args below meth c D cA σ A H locs cells slots G ls F hP hS hL hR
  obtain ⟨hx, hb, hml, hown, hts, hK, hZ, hT, hN, hap, hAi, hAz, hcl, hsl⟩ := id F
  exact lv_ldc2 hx hb hown (hts _ hw) hd (kk p e s m args below meth c D cA σ A H locs cells slots G ls F hP hS hL hR)
theorem B_iload_n {k : Fin 4} {x : Int32} (hd : decode cc pc = .ok (.iload_n k, 1)) (hl : L[(k : Nat)]? = some (.int x)) (kk : BW own cc nL ret l R tb nt L (.int x :: stk) (pc + 1) h Q) : BW own cc nL ret l R tb nt L stk pc h Q := by
  intro p e s m args below meth c D cA σ A H locs cells slots G ls F hP hS hL hR
  obtain ⟨hx, hb, hml, hown, hts, hK, hZ, hT, hN, hap, hAi, hAz, hcl, hsl⟩ := id F
  exact lv_iload_n hx hb hd rfl (lvR_at hL hl rfl) (kk p e s m args below meth c D cA σ A H locs cells slots G ls F hP hS hL hR)
theorem B_iload {k : Nat} {x : Int32} (hd : decode cc pc = .ok (.iload k, 2)) (hl : L[k]? = some (.int x)) (kk : BW own cc nL ret l R tb nt L (.int x :: stk) (pc + 2) h Q) : BW own cc nL ret l R tb nt L stk pc h Q := by
  intro p e s m args below meth c D cA σ A H locs cells slots G ls F hP hS hL hR
  obtain ⟨hx, hb, hml, hown, hts, hK, hZ, hT, hN, hap, hAi, hAz, hcl, hsl⟩ := id F
  exact lv_iload hx hb hd (lvR_at hL hl rfl) (kk p e s m args below meth c D cA σ A H locs cells slots G ls F hP hS hL hR)
theorem B_aload_n {k : Fin 4} {x : Nat} (hd : decode cc pc = .ok (.aload_n k, 1)) (hl : L[(k : Nat)]? = some (.ref x)) (kk : BW own cc nL ret l R tb nt L (.ref x :: stk) (pc + 1) h Q) : BW own cc nL ret l R tb nt L stk pc h Q := by
  intro p e s m args below meth c D cA σ A H locs cells slots G ls F hP hS hL hR
  obtain ⟨hx, hb, hml, hown, hts, hK, hZ, hT, hN, hap, hAi, hAz, hcl, hsl⟩ := id F
  exact lv_aload_n hx hb hd rfl (lvR_at hL hl rfl) (kk p e s m args below meth c D cA σ A H locs cells slots G ls F hP hS hL hR)
theorem B_aload {k : Nat} {x : Nat} (hd : decode cc pc = .ok (.aload k, 2)) (hl : L[k]? = some (.ref x)) (kk : BW own cc nL ret l R tb nt L (.ref x :: stk) (pc + 2) h Q) : BW own cc nL ret l R tb nt L stk pc h Q := by
  intro p e s m args below meth c D cA σ A H locs cells slots G ls F hP hS hL hR
  obtain ⟨hx, hb, hml, hown, hts, hK, hZ, hT, hN, hap, hAi, hAz, hcl, hsl⟩ := id F
  exact lv_aload hx hb hd (lvR_at hL hl rfl) (kk p e s m args below meth c D cA σ A H locs cells slots G ls F hP hS hL hR)
theorem B_istore_n {k : Fin 4} {x : Int32} (hd : decode cc pc = .ok (.istore_n k, 1)) (hk : (k : Nat) < nL) (kk : BW own cc nL ret l R tb nt (L.set (k : Nat) (.int x)) stk (pc + 1) h Q) : BW own cc nL ret l R tb nt L ((.int x) :: stk) pc h Q := by
  intro p e s m args below meth c D cA σ A H locs cells slots G ls F hP hS hL hR
  obtain ⟨hx, hb, hml, hown, hts, hK, hZ, hT, hN, hap, hAi, hAz, hcl, hsl⟩ := id F
  exact lv_istore_n hx hb hd rfl (lvO_has hL) hk rfl (fun ls' h' => kk p e s m args below meth c D cA σ A H locs cells slots G ls' F hP hS (lvR_set (v := .int x) hL hk h') hR)
theorem B_istore {k : Nat} {x : Int32} (hd : decode cc pc = .ok (.istore k, 2)) (hk : (k : Nat) < nL) (kk : BW own cc nL ret l R tb nt (L.set (k : Nat) (.int x)) stk (pc + 2) h Q) : BW own cc nL ret l R tb nt L ((.int x) :: stk) pc h Q := by
  intro p e s m args below meth c D cA σ A H locs cells slots G ls F hP hS hL hR
  obtain ⟨hx, hb, hml, hown, hts, hK, hZ, hT, hN, hap, hAi, hAz, hcl, hsl⟩ := id F
  exact lv_istore hx hb hd (lvO_has hL) hk rfl (fun ls' h' => kk p e s m args below meth c D cA σ A H locs cells slots G ls' F hP hS (lvR_set (v := .int x) hL hk h') hR)
theorem B_astore_n {k : Fin 4} {x : Nat} (hd : decode cc pc = .ok (.astore_n k, 1)) (hk : (k : Nat) < nL) (kk : BW own cc nL ret l R tb nt (L.set (k : Nat) (.ref x)) stk (pc + 1) h Q) : BW own cc nL ret l R tb nt L ((.ref x) :: stk) pc h Q := by
  intro p e s m args below meth c D cA σ A H locs cells slots G ls F hP hS hL hR
  obtain ⟨hx, hb, hml, hown, hts, hK, hZ, hT, hN, hap, hAi, hAz, hcl, hsl⟩ := id F
  exact lv_astore_n hx hb hd rfl (lvO_has hL) hk rfl (fun ls' h' => kk p e s m args below meth c D cA σ A H locs cells slots G ls' F hP hS (lvR_set (v := .ref x) hL hk h') hR)
theorem B_iinc {k : Nat} {n : Int} {x v : Int32} (hd : decode cc pc = .ok (.iinc k n, 3)) (hl : L[k]? = some (.int x)) (hv : Int32.ofInt n = v) (hk : k < nL) (kk : BW own cc nL ret l R tb nt (L.set k (.int (x + v))) stk (pc + 3) h Q) : BW own cc nL ret l R tb nt L stk pc h Q := by
  intro p e s m args below meth c D cA σ A H locs cells slots G ls F hP hS hL hR
  obtain ⟨hx, hb, hml, hown, hts, hK, hZ, hT, hN, hap, hAi, hAz, hcl, hsl⟩ := id F
  subst hv
  obtain ⟨j, hj⟩ := List.getElem?_of_mem (lvO_mem (σ := σ) (q := (k, Value.int x)).mpr ⟨_, hl, rfl, rfl⟩)
  exact lv_iinc hx hb hd (lvO_has hL) hj rfl hk rfl (fun ls' h' => kk p e s m args below meth c D cA σ A H locs cells slots G ls' F hP hS (lvR_set (v := .int (x + Int32.ofInt n)) hL hk h') hR)
theorem B_iadd {x y : Int32}(hd : decode cc pc = .ok (.iadd, 1))  (kk : BW own cc nL ret l R tb nt L (.int (x + y) :: stk) (pc + 1) h Q) : BW own cc nL ret l R tb nt L (.int y :: .int x :: stk) pc h Q := by
  intro p e s m args below meth c D cA σ A H locs cells slots G ls F hP hS hL hR
  obtain ⟨hx, hb, hml, hown, hts, hK, hZ, hT, hN, hap, hAi, hAz, hcl, hsl⟩ := id F
  exact lv_iadd hx hb hd (kk p e s m args below meth c D cA σ A H locs cells slots G ls F hP hS hL hR)
theorem B_isub {x y : Int32}(hd : decode cc pc = .ok (.isub, 1))  (kk : BW own cc nL ret l R tb nt L (.int (x - y) :: stk) (pc + 1) h Q) : BW own cc nL ret l R tb nt L (.int y :: .int x :: stk) pc h Q := by
  intro p e s m args below meth c D cA σ A H locs cells slots G ls F hP hS hL hR
  obtain ⟨hx, hb, hml, hown, hts, hK, hZ, hT, hN, hap, hAi, hAz, hcl, hsl⟩ := id F
  exact lv_isub hx hb hd (kk p e s m args below meth c D cA σ A H locs cells slots G ls F hP hS hL hR)
theorem B_imul {x y : Int32}(hd : decode cc pc = .ok (.imul, 1))  (kk : BW own cc nL ret l R tb nt L (.int (x * y) :: stk) (pc + 1) h Q) : BW own cc nL ret l R tb nt L (.int y :: .int x :: stk) pc h Q := by
  intro p e s m args below meth c D cA σ A H locs cells slots G ls F hP hS hL hR
  obtain ⟨hx, hb, hml, hown, hts, hK, hZ, hT, hN, hap, hAi, hAz, hcl, hsl⟩ := id F
  exact lv_imul hx hb hd (kk p e s m args below meth c D cA σ A H locs cells slots G ls F hP hS hL hR)
theorem B_iand {x y : Int32}(hd : decode cc pc = .ok (.iand, 1))  (kk : BW own cc nL ret l R tb nt L (.int (x &&& y) :: stk) (pc + 1) h Q) : BW own cc nL ret l R tb nt L (.int y :: .int x :: stk) pc h Q := by
  intro p e s m args below meth c D cA σ A H locs cells slots G ls F hP hS hL hR
  obtain ⟨hx, hb, hml, hown, hts, hK, hZ, hT, hN, hap, hAi, hAz, hcl, hsl⟩ := id F
  exact lv_iand hx hb hd (kk p e s m args below meth c D cA σ A H locs cells slots G ls F hP hS hL hR)
theorem B_ior {x y : Int32}(hd : decode cc pc = .ok (.ior, 1))  (kk : BW own cc nL ret l R tb nt L (.int (x ||| y) :: stk) (pc + 1) h Q) : BW own cc nL ret l R tb nt L (.int y :: .int x :: stk) pc h Q := by
  intro p e s m args below meth c D cA σ A H locs cells slots G ls F hP hS hL hR
  obtain ⟨hx, hb, hml, hown, hts, hK, hZ, hT, hN, hap, hAi, hAz, hcl, hsl⟩ := id F
  exact lv_ior hx hb hd (kk p e s m args below meth c D cA σ A H locs cells slots G ls F hP hS hL hR)
theorem B_ixor {x y : Int32}(hd : decode cc pc = .ok (.ixor, 1))  (kk : BW own cc nL ret l R tb nt L (.int (x ^^^ y) :: stk) (pc + 1) h Q) : BW own cc nL ret l R tb nt L (.int y :: .int x :: stk) pc h Q := by
  intro p e s m args below meth c D cA σ A H locs cells slots G ls F hP hS hL hR
  obtain ⟨hx, hb, hml, hown, hts, hK, hZ, hT, hN, hap, hAi, hAz, hcl, hsl⟩ := id F
  exact lv_ixor hx hb hd (kk p e s m args below meth c D cA σ A H locs cells slots G ls F hP hS hL hR)
theorem B_idiv {x y : Int32} {M : Prop} (hd : decode cc pc = .ok (.idiv, 1)) (hM : ¬ y = 0 ∧ M) (kk : M → BW own cc nL ret l R tb nt L (.int (x / y) :: stk) (pc + 1) h Q) : BW own cc nL ret l R tb nt L (.int y :: .int x :: stk) pc h Q := by
  intro p e s m args below meth c D cA σ A H locs cells slots G ls F hP hS hL hR
  obtain ⟨hx, hb, hml, hown, hts, hK, hZ, hT, hN, hap, hAi, hAz, hcl, hsl⟩ := id F
  exact lv_idiv hx hb hd hM.1 (kk hM.2 p e s m args below meth c D cA σ A H locs cells slots G ls F hP hS hL hR)
theorem B_irem {x y : Int32} {M : Prop} (hd : decode cc pc = .ok (.irem, 1)) (hM : ¬ y = 0 ∧ M) (kk : M → BW own cc nL ret l R tb nt L (.int (x - x / y * y) :: stk) (pc + 1) h Q) : BW own cc nL ret l R tb nt L (.int y :: .int x :: stk) pc h Q := by
  intro p e s m args below meth c D cA σ A H locs cells slots G ls F hP hS hL hR
  obtain ⟨hx, hb, hml, hown, hts, hK, hZ, hT, hN, hap, hAi, hAz, hcl, hsl⟩ := id F
  exact lv_irem hx hb hd hM.1 (kk hM.2 p e s m args below meth c D cA σ A H locs cells slots G ls F hP hS hL hR)
theorem B_ishl {x y : Int32}(hd : decode cc pc = .ok (.ishl, 1))  (kk : BW own cc nL ret l R tb nt L (.int (x <<< (y &&& 31)) :: stk) (pc + 1) h Q) : BW own cc nL ret l R tb nt L (.int y :: .int x :: stk) pc h Q := by
  intro p e s m args below meth c D cA σ A H locs cells slots G ls F hP hS hL hR
  obtain ⟨hx, hb, hml, hown, hts, hK, hZ, hT, hN, hap, hAi, hAz, hcl, hsl⟩ := id F
  exact lv_ishl hx hb hd (kk p e s m args below meth c D cA σ A H locs cells slots G ls F hP hS hL hR)
theorem B_ishr {x y : Int32}(hd : decode cc pc = .ok (.ishr, 1))  (kk : BW own cc nL ret l R tb nt L (.int (x >>> (y &&& 31)) :: stk) (pc + 1) h Q) : BW own cc nL ret l R tb nt L (.int y :: .int x :: stk) pc h Q := by
  intro p e s m args below meth c D cA σ A H locs cells slots G ls F hP hS hL hR
  obtain ⟨hx, hb, hml, hown, hts, hK, hZ, hT, hN, hap, hAi, hAz, hcl, hsl⟩ := id F
  exact lv_ishr hx hb hd (kk p e s m args below meth c D cA σ A H locs cells slots G ls F hP hS hL hR)
theorem B_i2l {x : Int32}(hd : decode cc pc = .ok (.i2l, 1))  (kk : BW own cc nL ret l R tb nt L (.long x.toInt64 :: stk) (pc + 1) h Q) : BW own cc nL ret l R tb nt L (.int x :: stk) pc h Q := by
  intro p e s m args below meth c D cA σ A H locs cells slots G ls F hP hS hL hR
  obtain ⟨hx, hb, hml, hown, hts, hK, hZ, hT, hN, hap, hAi, hAz, hcl, hsl⟩ := id F
  exact lv_i2l hx hb hd rfl (kk p e s m args below meth c D cA σ A H locs cells slots G ls F hP hS hL hR)
theorem B_i2b {x : Int32}(hd : decode cc pc = .ok (.i2b, 1))  (kk : BW own cc nL ret l R tb nt L (.int x.toInt8.toInt32 :: stk) (pc + 1) h Q) : BW own cc nL ret l R tb nt L (.int x :: stk) pc h Q := by
  intro p e s m args below meth c D cA σ A H locs cells slots G ls F hP hS hL hR
  obtain ⟨hx, hb, hml, hown, hts, hK, hZ, hT, hN, hap, hAi, hAz, hcl, hsl⟩ := id F
  exact lv_i2b hx hb hd rfl (kk p e s m args below meth c D cA σ A H locs cells slots G ls F hP hS hL hR)
theorem B_dupI {x : Int32}(hd : decode cc pc = .ok (.dup, 1))  (kk : BW own cc nL ret l R tb nt L (.int x :: .int x :: stk) (pc + 1) h Q) : BW own cc nL ret l R tb nt L (.int x :: stk) pc h Q := by
  intro p e s m args below meth c D cA σ A H locs cells slots G ls F hP hS hL hR
  obtain ⟨hx, hb, hml, hown, hts, hK, hZ, hT, hN, hap, hAi, hAz, hcl, hsl⟩ := id F
  exact lv_dup hx hb hd rfl (kk p e s m args below meth c D cA σ A H locs cells slots G ls F hP hS hL hR)
theorem B_dupR {x : Nat}(hd : decode cc pc = .ok (.dup, 1))  (kk : BW own cc nL ret l R tb nt L (.ref x :: .ref x :: stk) (pc + 1) h Q) : BW own cc nL ret l R tb nt L (.ref x :: stk) pc h Q := by
  intro p e s m args below meth c D cA σ A H locs cells slots G ls F hP hS hL hR
  obtain ⟨hx, hb, hml, hown, hts, hK, hZ, hT, hN, hap, hAi, hAz, hcl, hsl⟩ := id F
  exact lv_dup hx hb hd rfl (kk p e s m args below meth c D cA σ A H locs cells slots G ls F hP hS hL hR)
theorem B_popI {x : Int32}(hd : decode cc pc = .ok (.pop, 1))  (kk : BW own cc nL ret l R tb nt L stk (pc + 1) h Q) : BW own cc nL ret l R tb nt L (.int x :: stk) pc h Q := by
  intro p e s m args below meth c D cA σ A H locs cells slots G ls F hP hS hL hR
  obtain ⟨hx, hb, hml, hown, hts, hK, hZ, hT, hN, hap, hAi, hAz, hcl, hsl⟩ := id F
  exact lv_pop hx hb hd rfl (kk p e s m args below meth c D cA σ A H locs cells slots G ls F hP hS hL hR)
theorem B_dup2 {x : Int32} {y : Nat}(hd : decode cc pc = .ok (.dup2, 1))  (kk : BW own cc nL ret l R tb nt L (.int x :: .ref y :: .int x :: .ref y :: stk) (pc + 1) h Q) : BW own cc nL ret l R tb nt L (.int x :: .ref y :: stk) pc h Q := by
  intro p e s m args below meth c D cA σ A H locs cells slots G ls F hP hS hL hR
  obtain ⟨hx, hb, hml, hown, hts, hK, hZ, hT, hN, hap, hAi, hAz, hcl, hsl⟩ := id F
  exact lv_dup2_11 hx hb hd rfl rfl (kk p e s m args below meth c D cA σ A H locs cells slots G ls F hP hS hL hR)
theorem B_goto {off : Int} {tgt : Nat} (hd : decode cc pc = .ok (.goto off, 3)) (ht : (pc : Int) + off = (tgt : Int)) (kk : BW own cc nL ret l R tb nt L stk tgt h Q) : BW own cc nL ret l R tb nt L stk pc h Q := by
  intro p e s m args below meth c D cA σ A H locs cells slots G ls F hP hS hL hR
  obtain ⟨hx, hb, hml, hown, hts, hK, hZ, hT, hN, hap, hAi, hAz, hcl, hsl⟩ := id F
  exact lv_goto hx hb hd ht (kk p e s m args below meth c D cA σ A H locs cells slots G ls F hP hS hL hR)
theorem B_if_eq {x : Int32} {off : Int} {tgt : Nat} {M N : Prop} (hd : decode cc pc = .ok (.ifCond .eq off, 3)) (hM : if x = 0 then M else N) (ht : (pc : Int) + off = (tgt : Int)) (kt : M → BW own cc nL ret l R tb nt L stk tgt h Q) (kf : N → BW own cc nL ret l R tb nt L stk (pc + 3) h Q) : BW own cc nL ret l R tb nt L (.int x :: stk) pc h Q := by
  intro p e s m args below meth c D cA σ A H locs cells slots G ls F hP hS hL hR
  obtain ⟨hx, hb, hml, hown, hts, hK, hZ, hT, hN, hap, hAi, hAz, hcl, hsl⟩ := id F
  by_cases hcnd : x = 0
  · rw [if_pos hcnd] at hM
    exact lv_if_eq hx hb hd ht (fun _ => kt hM p e s m args below meth c D cA σ A H locs cells slots G ls F hP hS hL hR) (fun q => by first | exact absurd hcnd q | exact absurd q hcnd)
  · rw [if_neg hcnd] at hM
    exact lv_if_eq hx hb hd ht (fun q => by first | exact absurd q hcnd | exact absurd hcnd q) (fun _ => kf hM p e s m args below meth c D cA σ A H locs cells slots G ls F hP hS hL hR)
theorem B_icmp_eq {x y : Int32} {off : Int} {tgt : Nat} {M N : Prop} (hd : decode cc pc = .ok (.if_icmp .eq off, 3)) (hM : if x = y then M else N) (ht : (pc : Int) + off = (tgt : Int)) (kt : M → BW own cc nL ret l R tb nt L stk tgt h Q) (kf : N → BW own cc nL ret l R tb nt L stk (pc + 3) h Q) : BW own cc nL ret l R tb nt L (.int y :: .int x :: stk) pc h Q := by
  intro p e s m args below meth c D cA σ A H locs cells slots G ls F hP hS hL hR
  obtain ⟨hx, hb, hml, hown, hts, hK, hZ, hT, hN, hap, hAi, hAz, hcl, hsl⟩ := id F
  by_cases hcnd : x = y
  · rw [if_pos hcnd] at hM
    exact lv_icmp_eq hx hb hd ht (fun _ => kt hM p e s m args below meth c D cA σ A H locs cells slots G ls F hP hS hL hR) (fun q => by first | exact absurd hcnd q | exact absurd q hcnd)
  · rw [if_neg hcnd] at hM
    exact lv_icmp_eq hx hb hd ht (fun q => by first | exact absurd q hcnd | exact absurd hcnd q) (fun _ => kf hM p e s m args below meth c D cA σ A H locs cells slots G ls F hP hS hL hR)
theorem B_if_ne {x : Int32} {off : Int} {tgt : Nat} {M N : Prop} (hd : decode cc pc = .ok (.ifCond .ne off, 3)) (hM : if ¬ x = 0 then M else N) (ht : (pc : Int) + off = (tgt : Int)) (kt : M → BW own cc nL ret l R tb nt L stk tgt h Q) (kf : N → BW own cc nL ret l R tb nt L stk (pc + 3) h Q) : BW own cc nL ret l R tb nt L (.int x :: stk) pc h Q := by
  intro p e s m args below meth c D cA σ A H locs cells slots G ls F hP hS hL hR
  obtain ⟨hx, hb, hml, hown, hts, hK, hZ, hT, hN, hap, hAi, hAz, hcl, hsl⟩ := id F
  by_cases hcnd : ¬ x = 0
  · rw [if_pos hcnd] at hM
    exact lv_if_ne hx hb hd ht (fun _ => kt hM p e s m args below meth c D cA σ A H locs cells slots G ls F hP hS hL hR) (fun q => by first | exact absurd hcnd q | exact absurd q hcnd)
  · rw [if_neg hcnd] at hM
    exact lv_if_ne hx hb hd ht (fun q => by first | exact absurd q hcnd | exact absurd hcnd q) (fun _ => kf hM p e s m args below meth c D cA σ A H locs cells slots G ls F hP hS hL hR)
theorem B_icmp_ne {x y : Int32} {off : Int} {tgt : Nat} {M N : Prop} (hd : decode cc pc = .ok (.if_icmp .ne off, 3)) (hM : if ¬ x = y then M else N) (ht : (pc : Int) + off = (tgt : Int)) (kt : M → BW own cc nL ret l R tb nt L stk tgt h Q) (kf : N → BW own cc nL ret l R tb nt L stk (pc + 3) h Q) : BW own cc nL ret l R tb nt L (.int y :: .int x :: stk) pc h Q := by
  intro p e s m args below meth c D cA σ A H locs cells slots G ls F hP hS hL hR
  obtain ⟨hx, hb, hml, hown, hts, hK, hZ, hT, hN, hap, hAi, hAz, hcl, hsl⟩ := id F
  by_cases hcnd : ¬ x = y
  · rw [if_pos hcnd] at hM
    exact lv_icmp_ne hx hb hd ht (fun _ => kt hM p e s m args below meth c D cA σ A H locs cells slots G ls F hP hS hL hR) (fun q => by first | exact absurd hcnd q | exact absurd q hcnd)
  · rw [if_neg hcnd] at hM
    exact lv_icmp_ne hx hb hd ht (fun q => by first | exact absurd q hcnd | exact absurd hcnd q) (fun _ => kf hM p e s m args below meth c D cA σ A H locs cells slots G ls F hP hS hL hR)
theorem B_if_lt {x : Int32} {off : Int} {tgt : Nat} {M N : Prop} (hd : decode cc pc = .ok (.ifCond .lt off, 3)) (hM : if x < 0 then M else N) (ht : (pc : Int) + off = (tgt : Int)) (kt : M → BW own cc nL ret l R tb nt L stk tgt h Q) (kf : N → BW own cc nL ret l R tb nt L stk (pc + 3) h Q) : BW own cc nL ret l R tb nt L (.int x :: stk) pc h Q := by
  intro p e s m args below meth c D cA σ A H locs cells slots G ls F hP hS hL hR
  obtain ⟨hx, hb, hml, hown, hts, hK, hZ, hT, hN, hap, hAi, hAz, hcl, hsl⟩ := id F
  by_cases hcnd : x < 0
  · rw [if_pos hcnd] at hM
    exact lv_if_lt hx hb hd ht (fun _ => kt hM p e s m args below meth c D cA σ A H locs cells slots G ls F hP hS hL hR) (fun q => by first | exact absurd hcnd q | exact absurd q hcnd)
  · rw [if_neg hcnd] at hM
    exact lv_if_lt hx hb hd ht (fun q => by first | exact absurd q hcnd | exact absurd hcnd q) (fun _ => kf hM p e s m args below meth c D cA σ A H locs cells slots G ls F hP hS hL hR)
theorem B_icmp_lt {x y : Int32} {off : Int} {tgt : Nat} {M N : Prop} (hd : decode cc pc = .ok (.if_icmp .lt off, 3)) (hM : if x < y then M else N) (ht : (pc : Int) + off = (tgt : Int)) (kt : M → BW own cc nL ret l R tb nt L stk tgt h Q) (kf : N → BW own cc nL ret l R tb nt L stk (pc + 3) h Q) : BW own cc nL ret l R tb nt L (.int y :: .int x :: stk) pc h Q := by
  intro p e s m args below meth c D cA σ A H locs cells slots G ls F hP hS hL hR
  obtain ⟨hx, hb, hml, hown, hts, hK, hZ, hT, hN, hap, hAi, hAz, hcl, hsl⟩ := id F
  by_cases hcnd : x < y
  · rw [if_pos hcnd] at hM
    exact lv_icmp_lt hx hb hd ht (fun _ => kt hM p e s m args below meth c D cA σ A H locs cells slots G ls F hP hS hL hR) (fun q => by first | exact absurd hcnd q | exact absurd q hcnd)
  · rw [if_neg hcnd] at hM
    exact lv_icmp_lt hx hb hd ht (fun q => by first | exact absurd q hcnd | exact absurd hcnd q) (fun _ => kf hM p e s m args below meth c D cA σ A H locs cells slots G ls F hP hS hL hR)
theorem B_if_ge {x : Int32} {off : Int} {tgt : Nat} {M N : Prop} (hd : decode cc pc = .ok (.ifCond .ge off, 3)) (hM : if 0 ≤ x then M else N) (ht : (pc : Int) + off = (tgt : Int)) (kt : M → BW own cc nL ret l R tb nt L stk tgt h Q) (kf : N → BW own cc nL ret l R tb nt L stk (pc + 3) h Q) : BW own cc nL ret l R tb nt L (.int x :: stk) pc h Q := by
  intro p e s m args below meth c D cA σ A H locs cells slots G ls F hP hS hL hR
  obtain ⟨hx, hb, hml, hown, hts, hK, hZ, hT, hN, hap, hAi, hAz, hcl, hsl⟩ := id F
  by_cases hcnd : 0 ≤ x
  · rw [if_pos hcnd] at hM
    exact lv_if_ge hx hb hd ht (fun _ => kt hM p e s m args below meth c D cA σ A H locs cells slots G ls F hP hS hL hR) (fun q => by first | exact absurd hcnd q | exact absurd q hcnd)
  · rw [if_neg hcnd] at hM
    exact lv_if_ge hx hb hd ht (fun q => by first | exact absurd q hcnd | exact absurd hcnd q) (fun _ => kf hM p e s m args below meth c D cA σ A H locs cells slots G ls F hP hS hL hR)
theorem B_icmp_ge {x y : Int32} {off : Int} {tgt : Nat} {M N : Prop} (hd : decode cc pc = .ok (.if_icmp .ge off, 3)) (hM : if y ≤ x then M else N) (ht : (pc : Int) + off = (tgt : Int)) (kt : M → BW own cc nL ret l R tb nt L stk tgt h Q) (kf : N → BW own cc nL ret l R tb nt L stk (pc + 3) h Q) : BW own cc nL ret l R tb nt L (.int y :: .int x :: stk) pc h Q := by
  intro p e s m args below meth c D cA σ A H locs cells slots G ls F hP hS hL hR
  obtain ⟨hx, hb, hml, hown, hts, hK, hZ, hT, hN, hap, hAi, hAz, hcl, hsl⟩ := id F
  by_cases hcnd : y ≤ x
  · rw [if_pos hcnd] at hM
    exact lv_icmp_ge hx hb hd ht (fun _ => kt hM p e s m args below meth c D cA σ A H locs cells slots G ls F hP hS hL hR) (fun q => by first | exact absurd hcnd q | exact absurd q hcnd)
  · rw [if_neg hcnd] at hM
    exact lv_icmp_ge hx hb hd ht (fun q => by first | exact absurd q hcnd | exact absurd hcnd q) (fun _ => kf hM p e s m args below meth c D cA σ A H locs cells slots G ls F hP hS hL hR)
theorem B_if_gt {x : Int32} {off : Int} {tgt : Nat} {M N : Prop} (hd : decode cc pc = .ok (.ifCond .gt off, 3)) (hM : if 0 < x then M else N) (ht : (pc : Int) + off = (tgt : Int)) (kt : M → BW own cc nL ret l R tb nt L stk tgt h Q) (kf : N → BW own cc nL ret l R tb nt L stk (pc + 3) h Q) : BW own cc nL ret l R tb nt L (.int x :: stk) pc h Q := by
  intro p e s m args below meth c D cA σ A H locs cells slots G ls F hP hS hL hR
  obtain ⟨hx, hb, hml, hown, hts, hK, hZ, hT, hN, hap, hAi, hAz, hcl, hsl⟩ := id F
  by_cases hcnd : 0 < x
  · rw [if_pos hcnd] at hM
    exact lv_if_gt hx hb hd ht (fun _ => kt hM p e s m args below meth c D cA σ A H locs cells slots G ls F hP hS hL hR) (fun q => by first | exact absurd hcnd q | exact absurd q hcnd)
  · rw [if_neg hcnd] at hM
    exact lv_if_gt hx hb hd ht (fun q => by first | exact absurd q hcnd | exact absurd hcnd q) (fun _ => kf hM p e s m args below meth c D cA σ A H locs cells slots G ls F hP hS hL hR)
theorem B_icmp_gt {x y : Int32} {off : Int} {tgt : Nat} {M N : Prop} (hd : decode cc pc = .ok (.if_icmp .gt off, 3)) (hM : if y < x then M else N) (ht : (pc : Int) + off = (tgt : Int)) (kt : M → BW own cc nL ret l R tb nt L stk tgt h Q) (kf : N → BW own cc nL ret l R tb nt L stk (pc + 3) h Q) : BW own cc nL ret l R tb nt L (.int y :: .int x :: stk) pc h Q := by
  intro p e s m args below meth c D cA σ A H locs cells slots G ls F hP hS hL hR
  obtain ⟨hx, hb, hml, hown, hts, hK, hZ, hT, hN, hap, hAi, hAz, hcl, hsl⟩ := id F
  by_cases hcnd : y < x
  · rw [if_pos hcnd] at hM
    exact lv_icmp_gt hx hb hd ht (fun _ => kt hM p e s m args below meth c D cA σ A H locs cells slots G ls F hP hS hL hR) (fun q => by first | exact absurd hcnd q | exact absurd q hcnd)
  · rw [if_neg hcnd] at hM
    exact lv_icmp_gt hx hb hd ht (fun q => by first | exact absurd q hcnd | exact absurd hcnd q) (fun _ => kf hM p e s m args below meth c D cA σ A H locs cells slots G ls F hP hS hL hR)
theorem B_if_le {x : Int32} {off : Int} {tgt : Nat} {M N : Prop} (hd : decode cc pc = .ok (.ifCond .le off, 3)) (hM : if x ≤ 0 then M else N) (ht : (pc : Int) + off = (tgt : Int)) (kt : M → BW own cc nL ret l R tb nt L stk tgt h Q) (kf : N → BW own cc nL ret l R tb nt L stk (pc + 3) h Q) : BW own cc nL ret l R tb nt L (.int x :: stk) pc h Q := by
  intro p e s m args below meth c D cA σ A H locs cells slots G ls F hP hS hL hR
  obtain ⟨hx, hb, hml, hown, hts, hK, hZ, hT, hN, hap, hAi, hAz, hcl, hsl⟩ := id F
  by_cases hcnd : x ≤ 0
  · rw [if_pos hcnd] at hM
    exact lv_if_le hx hb hd ht (fun _ => kt hM p e s m args below meth c D cA σ A H locs cells slots G ls F hP hS hL hR) (fun q => by first | exact absurd hcnd q | exact absurd q hcnd)
  · rw [if_neg hcnd] at hM
    exact lv_if_le hx hb hd ht (fun q => by first | exact absurd q hcnd | exact absurd hcnd q) (fun _ => kf hM p e s m args below meth c D cA σ A H locs cells slots G ls F hP hS hL hR)
theorem B_icmp_le {x y : Int32} {off : Int} {tgt : Nat} {M N : Prop} (hd : decode cc pc = .ok (.if_icmp .le off, 3)) (hM : if x ≤ y then M else N) (ht : (pc : Int) + off = (tgt : Int)) (kt : M → BW own cc nL ret l R tb nt L stk tgt h Q) (kf : N → BW own cc nL ret l R tb nt L stk (pc + 3) h Q) : BW own cc nL ret l R tb nt L (.int y :: .int x :: stk) pc h Q := by
  intro p e s m args below meth c D cA σ A H locs cells slots G ls F hP hS hL hR
  obtain ⟨hx, hb, hml, hown, hts, hK, hZ, hT, hN, hap, hAi, hAz, hcl, hsl⟩ := id F
  by_cases hcnd : x ≤ y
  · rw [if_pos hcnd] at hM
    exact lv_icmp_le hx hb hd ht (fun _ => kt hM p e s m args below meth c D cA σ A H locs cells slots G ls F hP hS hL hR) (fun q => by first | exact absurd hcnd q | exact absurd q hcnd)
  · rw [if_neg hcnd] at hM
    exact lv_icmp_le hx hb hd ht (fun q => by first | exact absurd q hcnd | exact absurd hcnd q) (fun _ => kf hM p e s m args below meth c D cA σ A H locs cells slots G ls F hP hS hL hR)
theorem B_getI {i ci k idx : Nat} {fl : List (Option Nat)} {C ref f d : String} {T : u_T} {N : Nat} (hs : sh_all[i]? = some (.inr (ci, fl))) (hc : vwCl[ci]? = some (C, T, N)) (hf : fl[k]? = some none) (hk : k < N) (hin : ∀ w ∈ u_ws C T N, w ∈ lw_g) (hTk : (T k).1 = ref ∧ (T k).2.1 = f ∧ (T k).2.2.1 = d) (hw : Cond.fieldLink own idx ref f d ∈ lw_g) (hd : decode cc pc = .ok (.getfield idx, 3)) (kk : BW own cc nL ret l R tb nt L (.int (h i k) :: stk) (pc + 3) h Q) : BW own cc nL ret l R tb nt L (.ref i :: stk) pc h Q := by
  intro p e s m args below meth c D cA σ A H locs cells slots G ls F hP hS hL hR
  obtain ⟨hx, hb, hml, hown, hts, hK, hZ, hT, hN, hap, hAi, hAz, hcl, hsl⟩ := id F
  obtain ⟨rfl, rfl, rfl⟩ := hTk
  exact va_get hx hb hts hin hown hK hP i (w_obj hs) hc k hk (hts _ hw) (fun _ q => q) (w_fsI hf) hd (kk p e s m args below meth c D cA σ A H locs cells slots G ls F hP hS hL hR)
theorem B_getR {i ci k idx j : Nat} {fl : List (Option Nat)} {C ref f d : String} {T : u_T} {N : Nat} (hs : sh_all[i]? = some (.inr (ci, fl))) (hc : vwCl[ci]? = some (C, T, N)) (hf : fl[k]? = some (some j)) (hk : k < N) (hin : ∀ w ∈ u_ws C T N, w ∈ lw_g) (hTk : (T k).1 = ref ∧ (T k).2.1 = f ∧ (T k).2.2.1 = d) (hw : Cond.fieldLink own idx ref f d ∈ lw_g) (hd : decode cc pc = .ok (.getfield idx, 3)) (kk : BW own cc nL ret l R tb nt L (.ref j :: stk) (pc + 3) h Q) : BW own cc nL ret l R tb nt L (.ref i :: stk) pc h Q := by
  intro p e s m args below meth c D cA σ A H locs cells slots G ls F hP hS hL hR
  obtain ⟨hx, hb, hml, hown, hts, hK, hZ, hT, hN, hap, hAi, hAz, hcl, hsl⟩ := id F
  obtain ⟨rfl, rfl, rfl⟩ := hTk
  exact va_get hx hb hts hin hown hK hP i (w_obj hs) hc k hk (hts _ hw) (fun _ q => q) (w_fsR hf) hd (kk p e s m args below meth c D cA σ A H locs cells slots G ls F hP hS hL hR)
theorem B_putI {i ci k idx : Nat} {fl : List (Option Nat)} {C ref f d : String} {T : u_T} {N : Nat} {x : Int32} {ty : FieldType} (hx0 : narrow ty (.int x) = .int x ∧ fits ty (.int x) = true) (hs : sh_all[i]? = some (.inr (ci, fl))) (hc : vwCl[ci]? = some (C, T, N)) (hf : fl[k]? = some none) (hk : k < N) (hin : ∀ w ∈ u_ws C T N, w ∈ lw_g) (hTk : (T k).1 = ref ∧ (T k).2.1 = f ∧ (T k).2.2.1 = d) (tyf : Nat → FieldType) (htyf : ∀ k, k < N → parseFieldDescriptor (T k).2.2.1 = some (tyf k)) (hnm : ∀ a, a < N → ∀ b, b < N → a ≠ b → (T a).2.1 ≠ (T b).2.1) (hty : tyf k = ty) (hfin : (T k).2.2.2 = false) (hw : Cond.fieldLink own idx ref f d ∈ lw_g) (hd : decode cc pc = .ok (.putfield idx, 3)) (kk : BW own cc nL ret l R tb nt L stk (pc + 3) (up h i k x) Q) : BW own cc nL ret l R tb nt L (.int x :: .ref i :: stk) pc h Q := by
  intro p e s m args below meth c D cA σ A H locs cells slots G ls F hP hS hL hR
  obtain ⟨hx, hb, hml, hown, hts, hK, hZ, hT, hN, hap, hAi, hAz, hcl, hsl⟩ := id F
  obtain ⟨rfl, rfl, rfl⟩ := hTk
  subst hty
  refine va_put (v := .int x) hx hb hts hin tyf htyf hnm hown hK hP (w_D hap hAi cA h) hS i (w_obj hs) hc k hk (hts _ hw) (fun _ q => q) hfin (htyf k hk) hx0.1 hx0.2 (by rw [w_fsL]; exact (List.getElem?_eq_some_iff.mp hf).1) hd (fun H1 locs1 hP1 _ hS1 => ?_)
  have ee : (w_W σ cA h).set i (σ i, .inr (ci, (w_fs σ h i fl).set k (.int x))) = w_W σ cA (up h i k x) := w_set hs (by show Sum.inr (ci, w_fs σ (up h i k x) i fl) = _; rw [w_fsU hf]) (fun a ha => up_ne h i k x ha)
  rw [ee] at hP1
  exact kk p e s m args below meth c D cA σ A H1 locs1 cells slots G ls F hP1 hS1 hL hR
theorem B_iald {i n : Nat} {M : Prop} {k : Int32} (hs : sh_all[i]? = some (.inl (false, n))) (hM : vp_in k n ∧ M) (hd : decode cc pc = .ok (.iaload, 1)) (kk : M → BW own cc nL ret l R tb nt L (.int (h i k.toNatClampNeg) :: stk) (pc + 1) h Q) : BW own cc nL ret l R tb nt L (.int k :: .ref i :: stk) pc h Q := by
  intro p e s m args below meth c D cA σ A H locs cells slots G ls F hP hS hL hR
  obtain ⟨hx, hb, hml, hown, hts, hK, hZ, hT, hN, hap, hAi, hAz, hcl, hsl⟩ := id F
  exact va_iald hx hb hK hP i 0 (w_arr hs) rfl hM.1 hd (kk hM.2 p e s m args below meth c D cA σ A H locs cells slots G ls F hP hS hL hR)
theorem B_bald {i n : Nat} {M : Prop} {k : Int32} (hs : sh_all[i]? = some (.inl (true, n))) (hM : vp_in k n ∧ M) (hd : decode cc pc = .ok (.baload, 1)) (kk : M → BW own cc nL ret l R tb nt L (.int (h i k.toNatClampNeg) :: stk) (pc + 1) h Q) : BW own cc nL ret l R tb nt L (.int k :: .ref i :: stk) pc h Q := by
  intro p e s m args below meth c D cA σ A H locs cells slots G ls F hP hS hL hR
  obtain ⟨hx, hb, hml, hown, hts, hK, hZ, hT, hN, hap, hAi, hAz, hcl, hsl⟩ := id F
  exact va_bald hx hb hK hP i 1 (w_arr hs) rfl hM.1 hd (kk hM.2 p e s m args below meth c D cA σ A H locs cells slots G ls F hP hS hL hR)
theorem B_iast {i n : Nat} {M : Prop} {k x : Int32} (hs : sh_all[i]? = some (.inl (false, n))) (hM : vp_in k n ∧ M) (hd : decode cc pc = .ok (.iastore, 1)) (kk : M → BW own cc nL ret l R tb nt L stk (pc + 1) (up h i k.toNatClampNeg x) Q) : BW own cc nL ret l R tb nt L (.int x :: .int k :: .ref i :: stk) pc h Q := by
  intro p e s m args below meth c D cA σ A H locs cells slots G ls F hP hS hL hR
  obtain ⟨hx, hb, hml, hown, hts, hK, hZ, hT, hN, hap, hAi, hAz, hcl, hsl⟩ := id F
  refine va_iast hx hb hK hP (w_D hap hAi cA h) hS i 0 (w_arr hs) rfl hM.1 hd (fun H1 locs1 hP1 _ hS1 => ?_)
  have ee : (w_W σ cA h).set i (σ i, .inl (cA false, n, .inl (upd (h i) k.toNatClampNeg x))) = w_W σ cA (up h i k.toNatClampNeg x) := w_set hs (by show Sum.inl (cA false, n, Sum.inl (up h i _ x i)) = _; rw [up_at]) (fun a ha => up_ne h i _ x ha)
  rw [ee] at hP1
  exact kk hM.2 p e s m args below meth c D cA σ A H1 locs1 cells slots G ls F hP1 hS1 hL hR
theorem B_bast {i n : Nat} {M : Prop} {k x : Int32} (hs : sh_all[i]? = some (.inl (true, n))) (hM : vp_in k n ∧ M) (hd : decode cc pc = .ok (.bastore, 1)) (kk : M → BW own cc nL ret l R tb nt L stk (pc + 1) (up h i k.toNatClampNeg (vp_nar .byte x)) Q) : BW own cc nL ret l R tb nt L (.int x :: .int k :: .ref i :: stk) pc h Q := by
  intro p e s m args below meth c D cA σ A H locs cells slots G ls F hP hS hL hR
  obtain ⟨hx, hb, hml, hown, hts, hK, hZ, hT, hN, hap, hAi, hAz, hcl, hsl⟩ := id F
  refine va_bast hx hb hK hP (w_D hap hAi cA h) hS i 1 (w_arr hs) rfl hM.1 hd (fun H1 locs1 hP1 _ hS1 => ?_)
  have ee : (w_W σ cA h).set i (σ i, .inl (cA true, n, .inl (upd (h i) k.toNatClampNeg (vp_nar .byte x)))) = w_W σ cA (up h i k.toNatClampNeg (vp_nar .byte x)) := w_set hs (by show Sum.inl (cA true, n, Sum.inl (up h i _ _ i)) = _; rw [up_at]) (fun a ha => up_ne h i _ _ ha)
  rw [ee] at hP1
  exact kk hM.2 p e s m args below meth c D cA σ A H1 locs1 cells slots G ls F hP1 hS1 hL hR
theorem B_tald {t : Nat} {k : Int32} {M : Prop} (ht : t < nt) (hM : vp_in k (tb t).1 ∧ M) (hd : decode cc pc = .ok (.iaload, 1)) (kk : M → BW own cc nL ret l R tb nt L (.int ((tb t).2 k.toNatClampNeg) :: stk) (pc + 1) h Q) : BW own cc nL ret l R tb nt L (.int k :: .ref (NC + t) :: stk) pc h Q := by
  intro p e s m args below meth c D cA σ A H locs cells slots G ls F hP hS hL hR
  obtain ⟨hx, hb, hml, hown, hts, hK, hZ, hT, hN, hap, hAi, hAz, hcl, hsl⟩ := id F
  exact va_ti hx hb (hT t ht) hS hM.1 rfl hd (kk hM.2 p e s m args below meth c D cA σ A H locs cells slots G ls F hP hS hL hR)
theorem B_tlen {t : Nat} {v : Int32} (ht : t < nt) (hv : Int32.ofNat (tb t).1 = v) (hd : decode cc pc = .ok (.arraylength, 1)) (kk : BW own cc nL ret l R tb nt L (.int v :: stk) (pc + 1) h Q) : BW own cc nL ret l R tb nt L (.ref (NC + t) :: stk) pc h Q := by
  intro p e s m args below meth c D cA σ A H locs cells slots G ls F hP hS hL hR
  obtain ⟨hx, hb, hml, hown, hts, hK, hZ, hT, hN, hap, hAi, hAz, hcl, hsl⟩ := id F
  exact va_tlen hx hb (hT t ht) hS hv hd (kk p e s m args below meth c D cA σ A H locs cells slots G ls F hP hS hL hR)
theorem B_gs0 {idx : Nat} {ref : String} (he : ref = "LockTable") (hw : Cond.fieldLink own idx ref "CLASHES" "[I" ∈ lw_g) (hd : decode cc pc = .ok (.getstatic idx, 3)) (kk : BW own cc nL ret l R tb nt L (.ref (NC + 0) :: stk) (pc + 3) h Q) : BW own cc nL ret l R tb nt L stk pc h Q := by
  intro p e s m args below meth c D cA σ A H locs cells slots G ls F hP hS hL hR
  obtain ⟨hx, hb, hml, hown, hts, hK, hZ, hT, hN, hap, hAi, hAz, hcl, hsl⟩ := id F
  subst he
  exact va_gets hx hb hZ.1 hS hown (hts _ hw) (fun _ q => q) hd (kk p e s m args below meth c D cA σ A H locs cells slots G ls F hP hS hL hR)
theorem B_gsN0 {idx : Nat} (hw : (own, idx, RX7, "CLASHES", "[I", RX7) ∈ nwF) (hd : decode cc pc = .ok (.getstatic idx, 3)) (kk : BW own cc nL ret l R tb nt L (.ref (NC + 0) :: stk) (pc + 3) h Q) : BW own cc nL ret l R tb nt L stk pc h Q := by
  intro p e s m args below meth c D cA σ A H locs cells slots G ls F hP hS hL hR
  obtain ⟨hx, hb, hml, hown, hts, hK, hZ, hT, hN, hap, hAi, hAz, hcl, hsl⟩ := id F
  exact va_getsN hx hb hZ.1 hS hown (va_Nw.use rfl (hN.2 _ hw)) (fun _ q => q) hd (kk p e s m args below meth c D cA σ A H locs cells slots G ls F hP hS hL hR)
theorem B_gs1 {idx : Nat} {ref : String} (he : ref = "LockTable") (hw : Cond.fieldLink own idx ref "MEANT_ABOVE" "[I" ∈ lw_g) (hd : decode cc pc = .ok (.getstatic idx, 3)) (kk : BW own cc nL ret l R tb nt L (.ref (NC + 1) :: stk) (pc + 3) h Q) : BW own cc nL ret l R tb nt L stk pc h Q := by
  intro p e s m args below meth c D cA σ A H locs cells slots G ls F hP hS hL hR
  obtain ⟨hx, hb, hml, hown, hts, hK, hZ, hT, hN, hap, hAi, hAz, hcl, hsl⟩ := id F
  subst he
  exact va_gets hx hb hZ.2.1 hS hown (hts _ hw) (fun _ q => q) hd (kk p e s m args below meth c D cA σ A H locs cells slots G ls F hP hS hL hR)
theorem B_gsN1 {idx : Nat} (hw : (own, idx, RX7, "MEANT_ABOVE", "[I", RX7) ∈ nwF) (hd : decode cc pc = .ok (.getstatic idx, 3)) (kk : BW own cc nL ret l R tb nt L (.ref (NC + 1) :: stk) (pc + 3) h Q) : BW own cc nL ret l R tb nt L stk pc h Q := by
  intro p e s m args below meth c D cA σ A H locs cells slots G ls F hP hS hL hR
  obtain ⟨hx, hb, hml, hown, hts, hK, hZ, hT, hN, hap, hAi, hAz, hcl, hsl⟩ := id F
  exact va_getsN hx hb hZ.2.1 hS hown (va_Nw.use rfl (hN.2 _ hw)) (fun _ q => q) hd (kk p e s m args below meth c D cA σ A H locs cells slots G ls F hP hS hL hR)
theorem B_gs2 {idx : Nat} {ref : String} (he : ref = "LockTable") (hw : Cond.fieldLink own idx ref "ASKED_MODES" "[I" ∈ lw_g) (hd : decode cc pc = .ok (.getstatic idx, 3)) (kk : BW own cc nL ret l R tb nt L (.ref (NC + 2) :: stk) (pc + 3) h Q) : BW own cc nL ret l R tb nt L stk pc h Q := by
  intro p e s m args below meth c D cA σ A H locs cells slots G ls F hP hS hL hR
  obtain ⟨hx, hb, hml, hown, hts, hK, hZ, hT, hN, hap, hAi, hAz, hcl, hsl⟩ := id F
  subst he
  exact va_gets hx hb hZ.2.2 hS hown (hts _ hw) (fun _ q => q) hd (kk p e s m args below meth c D cA σ A H locs cells slots G ls F hP hS hL hR)
theorem B_gsN2 {idx : Nat} (hw : (own, idx, RX7, "ASKED_MODES", "[I", RX7) ∈ nwF) (hd : decode cc pc = .ok (.getstatic idx, 3)) (kk : BW own cc nL ret l R tb nt L (.ref (NC + 2) :: stk) (pc + 3) h Q) : BW own cc nL ret l R tb nt L stk pc h Q := by
  intro p e s m args below meth c D cA σ A H locs cells slots G ls F hP hS hL hR
  obtain ⟨hx, hb, hml, hown, hts, hK, hZ, hT, hN, hap, hAi, hAz, hcl, hsl⟩ := id F
  exact va_getsN hx hb hZ.2.2 hS hown (va_Nw.use rfl (hN.2 _ hw)) (fun _ q => q) hd (kk p e s m args below meth c D cA σ A H locs cells slots G ls F hP hS hL hR)
theorem B_tin {dflt lo hi off : Int} {offs : Array Int} {len tgt : Nat} {x v : Int32} (hxv : x = v) (h1 : ¬ v.toInt < lo) (h2 : ¬ hi < v.toInt) (ho : offs[(v.toInt - lo).toNat]? = some off) (hd : decode cc pc = .ok (.tableswitch dflt lo hi offs, len)) (ht : (pc : Int) + off = (tgt : Int)) (kk : BW own cc nL ret l R tb nt L stk tgt h Q) : BW own cc nL ret l R tb nt L (.int x :: stk) pc h Q := by
  intro p e s m args below meth c D cA σ A H locs cells slots G ls F hP hS hL hR
  obtain ⟨hx, hb, hml, hown, hts, hK, hZ, hT, hN, hap, hAi, hAz, hcl, hsl⟩ := id F
  subst hxv
  exact lv_tableIn hx hb hd h1 h2 ho ht (kk p e s m args below meth c D cA σ A H locs cells slots G ls F hP hS hL hR)
theorem B_tout {dflt lo hi : Int} {offs : Array Int} {len tgt : Nat} {x : Int32} (hxv : x.toInt < lo ∨ hi < x.toInt) (hd : decode cc pc = .ok (.tableswitch dflt lo hi offs, len)) (ht : (pc : Int) + dflt = (tgt : Int)) (kk : BW own cc nL ret l R tb nt L stk tgt h Q) : BW own cc nL ret l R tb nt L (.int x :: stk) pc h Q := by
  intro p e s m args below meth c D cA σ A H locs cells slots G ls F hP hS hL hR
  obtain ⟨hx, hb, hml, hown, hts, hK, hZ, hT, hN, hap, hAi, hAz, hcl, hsl⟩ := id F
  exact lv_tableOut hx hb hd hxv ht (kk p e s m args below meth c D cA σ A H locs cells slots G ls F hP hS hL hR)
theorem B_look {dflt off : Int} {ps : Array (Int × Int)} {len tgt : Nat} {x : Int32} (hp : (ps.toList.zip (ps.toList.drop 1)).all (fun (a, next) => a.1 < next.1) = true) (ho : Op.lookupswitch.offset ps.toList dflt x.toInt = off) (hd : decode cc pc = .ok (.lookupswitch dflt ps, len)) (ht : (pc : Int) + off = (tgt : Int)) (kk : BW own cc nL ret l R tb nt L stk tgt h Q) : BW own cc nL ret l R tb nt L (.int x :: stk) pc h Q := by
  intro p e s m args below meth c D cA σ A H locs cells slots G ls F hP hS hL hR
  obtain ⟨hx, hb, hml, hown, hts, hK, hZ, hT, hN, hap, hAi, hAz, hcl, hsl⟩ := id F
  exact lv_lookup hx hb hd hp ho ht (kk p e s m args below meth c D cA σ A H locs cells slots G ls F hP hS hL hR)
theorem B_wk {L' : List Value} (kk : BW own cc nL ret l R tb nt L' stk pc h Q) (hw : wk L' L) : BW own cc nL ret l R tb nt L stk pc h Q := by
  intro p e s m args below meth c D cA σ A H locs cells slots G ls F hP hS hL hR
  exact kk p e s m args below meth c D cA σ A H locs cells slots G ls F hP hS (lvR_wk hw hL) hR
theorem B_iret {x : Int32} (hQ : Q (some (.int x)) h) (hr : rOk ret (some (.int x))) (hd : decode cc pc = .ok (.ireturn, 1)) : BW own cc nL ret l R tb nt L [.int x] pc h Q := by
  intro p e s m args below meth c D cA σ A H locs cells slots G ls F hP hS hL hR
  exact hR pc ls H locs (some (.int x)) h hQ hr hd hP hS
theorem B_lret {x : Int64} (hQ : Q (some (.long x)) h) (hr : rOk ret (some (.long x))) (hd : decode cc pc = .ok (.lreturn, 1)) : BW own cc nL ret l R tb nt L [.long x] pc h Q := by
  intro p e s m args below meth c D cA σ A H locs cells slots G ls F hP hS hL hR
  exact hR pc ls H locs (some (.long x)) h hQ hr hd hP hS
theorem B_vret (hQ : Q none h) (hr : rOk ret none) (hd : decode cc pc = .ok (.return_, 1)) : BW own cc nL ret l R tb nt L [] pc h Q := by
  intro p e s m args below meth c D cA σ A H locs cells slots G ls F hP hS hL hR
  exact hR pc ls H locs none h hQ hr hd hP hS
theorem B_max {idx : Nat} {x y : Int32} (hw : Cond.methodLink own idx Lib.Math.max.name ∈ lw_g ∧ Cond.static Lib.Math.max.name ∈ lw_g ∧ Cond.initialized "java/lang/Math" ∈ lw_g ∧ Cond.code Lib.Math.max.name Lib.Math.max.code 2 (some .int) ∈ lw_g) (hf : 1 ≤ R.frames) (hlo : (stk.map fun v => v.category).sum + 13 ≤ R.locals) (hd : decode cc pc = .ok (.invokestatic idx, 3)) (kk : BW own cc nL ret l R tb nt L (.int (if x < y then y else x) :: stk) (pc + 3) h Q) : BW own cc nL ret l R tb nt L (.int y :: .int x :: stk) pc h Q := by
  intro p e s m args below meth c D cA σ A H locs cells slots G ls F hP hS hL hR
  obtain ⟨hx, hb, hml, hown, hts, hK, hZ, hT, hN, hap, hAi, hAz, hcl, hsl⟩ := id F
  exact va_mmax hx hb (by rw [hml]; exact hL.1.symm) hown (hts _ hw.1) (hts _ hw.2.1) (hts _ hw.2.2.1) (hts _ hw.2.2.2) hf (by rw [map_cv_cat]; exact hlo) hcl hsl hd (kk p e s m args below meth c D cA σ A H locs cells slots G ls F hP hS hL hR)
theorem B_copy {idx i j n : Nat} {sp dp k : Int32} (hw : Cond.methodLink own idx arraycopyName ∈ lw_g ∧ Cond.native arraycopyName ∈ lw_g ∧ Cond.static arraycopyName ∈ lw_g ∧ Cond.initialized "java/lang/System" ∈ lw_g) (hi : sh_all[i]? = some (.inl (false, n))) (hj : sh_all[j]? = some (.inl (false, n))) (h1 : ¬ sp < 0) (h2 : ¬ dp < 0) (h3 : ¬ k < 0) (h4 : sp.toNatClampNeg + k.toNatClampNeg ≤ n) (h5 : dp.toNatClampNeg + k.toNatClampNeg ≤ n) (hf : 1 ≤ R.frames) (hlo : (stk.map fun v => v.category).sum + (nativeFrameWords "java/lang/System" "arraycopy" 5 + 11) ≤ R.locals) (hd : decode cc pc = .ok (.invokestatic idx, 3)) (kk : BW own cc nL ret l R tb nt L stk (pc + 3) (cpA h i j sp.toNatClampNeg dp.toNatClampNeg k.toNatClampNeg) Q) : BW own cc nL ret l R tb nt L (.int k :: .int dp :: .ref j :: .int sp :: .ref i :: stk) pc h Q := by
  intro p e s m args below meth c D cA σ A H locs cells slots G ls F hP hS hL hR
  obtain ⟨hx, hb, hml, hown, hts, hK, hZ, hT, hN, hap, hAi, hAz, hcl, hsl⟩ := id F
  refine va_copyi hx hb (by rw [hml]; exact hL.1.symm) hown (hts _ hw.1) (hts _ hw.2.1) (hts _ hw.2.2.1) (hts _ hw.2.2.2) hK hP (w_D hap hAi cA h) hS i j 0 0 (w_arr hi) (w_arr hj) rfl rfl rfl h1 h2 h3 h4 h5 (fun _ _ => rfl) hf (by rw [map_cv_cat]; exact hlo) hd (fun H1 locs1 hP1 _ hS1 => ?_)
  have ee : (w_W σ cA h).set j (σ j, .inl (cA false, n, .inl (va_cpy (h i) (h j) sp.toNatClampNeg dp.toNatClampNeg k.toNatClampNeg))) = w_W σ cA (cpA h i j sp.toNatClampNeg dp.toNatClampNeg k.toNatClampNeg) := w_set hj (by show Sum.inl (cA false, n, Sum.inl (cpA h i j _ _ _ j)) = _; simp [cpA]) (fun a ha => by simp [cpA, ha])
  rw [ee] at hP1
  exact kk p e s m args below meth c D cA σ A H1 locs1 cells slots G ls F hP1 hS1 hL hR
/-- what a call leaves, given its run -/
theorem callW {p : Program} {e : Env} {s : State} {m : MethodId} {args : Array Value} {below : List Frame} {meth : Method} {c : Code} {D : va_G} {cA : Bool → ClassId} {σ : Nat → Nat} {A : Nat → Prop} {H : Heap} {locs : List Loc} {cells slots : Nat} {G : State → Prop} {ls : Array Slot} {st0 : List Value} {a : Array Value} {Qc : Option Value → AH → Prop}
    (F : Fx p R s m args c own cc nL D cA σ A tb nt cells slots) (hP : va_P D vwCl (w_W σ cA h) H) (hS : va_S A s.heap H locs) (hL : lvR σ ls nL L)
    (hr : va_Run p l e R s m args below meth c H locs cells slots 0 0 (F0 m pc ls st0) (stk.map (cv σ)) (Post σ D cA H.size Qc a) (Ar σ H.size))
    (kk : ∀ (v : Option Value) (h' : AH) (H1 : Heap) (locs1 : List Loc), Qc v h' → va_P D vwCl (w_W σ cA h') H1 → va_S A s.heap H1 locs1 → W p l e R s m args below meth c H1 locs1 cells slots G (F0 m (pc + 3) ls ((v.toList ++ stk).map (cv σ)))) : W p l e R s m args below meth c H locs cells slots G (F0 m pc ls st0) := by
  obtain ⟨hx, hb, hml, hown, hts, hK, hZ, hT, hN, hap, hAi, hAz, hcl, hsl⟩ := id F
  have hAA : ∀ q, Ar σ H.size q → A q := by
    intro q hq
    rcases hq with ⟨i, hi, rfl⟩ | hq
    · exact hAi i hi
    · exact hAz q (Nat.le_trans hS.1 hq)
  intro T hT' X
  obtain ⟨v, st₀, t, T', Lo, h0, X', hLo, e1, e2, ⟨⟨w, h', hv, hq, hP'⟩, hz, hk⟩, st⟩ := hr T hT' X
  have hv' : v = w.map (cv σ) := by injection hv
  subst hv'
  rw [h0] at hz hk
  have hS' : va_S A s.heap T'.heap (locs ++ Lo) := ⟨Nat.le_trans hS.1 (by rw [e1]; exact hz), fun q h1 h2 => by rw [e1, hk q (Nat.lt_of_lt_of_le h1 hS.1) (fun z => h2 (hAA q z))]; exact hS.2.1 q h1 h2, fun q hq => by
    rcases List.mem_append.mp hq with h | h
    · exact hS.2.2 q h
    · exact hAA _ (hLo q h)⟩
  obtain ⟨t2, a1, b1⟩ := kk w h' T'.heap (locs ++ Lo) hq (by rw [e1]; exact hP') hS' T' rfl X'
  refine ⟨t2, st t2 ?_, b1⟩
  have es : (w.map (cv σ)).toList ++ stk.map (cv σ) = (w.toList ++ stk).map (cv σ) := by cases w <;> simp
  rw [es]
  exact a1
theorem preW {p : Program} {s : State} {m : MethodId} {args : Array Value} {c : Code} {D : va_G} {cA : Bool → ClassId} {σ : Nat → Nat} {A : Nat → Prop} {H : Heap} {locs : List Loc} {cells slots : Nat} {av : List Value} (h3 : 3 ≤ nt) (htb : ∀ k, k < 3 → tb k = tb0 k)
    (F : Fx p R s m args c own cc nL D cA σ A tb nt cells slots) (hP : va_P D vwCl (w_W σ cA h) H) (hS : va_S A s.heap H locs) : ∀ U : State, U.heap = H → s.WarmedH U.vm → Pre σ D cA H.size av h ((av.map (cv σ)).toArray) U := by
  obtain ⟨hx, hb, hml, hown, hts, hK, hZ, hT, hN, hap, hAi, hAz, hcl, hsl⟩ := id F
  have hAA : ∀ q, Ar σ H.size q → A q := by
    intro q hq
    rcases hq with ⟨i, hi, rfl⟩ | hq
    · exact hAi i hi
    · exact hAz q (Nat.le_trans hS.1 hq)
  have hq : ∀ a : Nat, a < s.heap.size → ¬ A a → H[a]? = s.heap[a]? := fun a h1 h2 => hS.2.1 a h1 h2
  intro U hU hW
  refine ⟨rfl, by rw [hU], by rw [hU]; exact hP, hK.moved hW.alike, ?_, ?_, nwA_warm hW hN, hap⟩
  · rw [hU]
    exact stZ_moved hW.alike (stZ_narrow (stZ_kept hZ hq) hAA)
  · rw [hU]
    intro k hk
    have := ((hT k (by omega)).kept hq).narrow hAA
    rw [htb k hk] at this
    exact this.moved hW.alike
abbrev csB (own : String) (idx : Nat) (y : MethodName) (cc : ByteArray) (nL : Nat) (ret : Option FieldType) (n : Nat) : Prop := Cond.methodLink own idx y ∈ lw_g ∧ Cond.initialized y.cls ∈ lw_g ∧ Cond.code y cc nL ret ∈ lw_g ∧ (y.cls ≠ "java/lang/invoke/MethodHandle" ∧ y.cls ≠ "java/lang/invoke/VarHandle" ∧ (parseMethodDescriptor y.desc).map (fun d => d.parameters.length) = some n)
abbrev csV (own : String) (idx : Nat) (y : MethodName) (cc : ByteArray) (nL : Nat) (ret : Option FieldType) (n : Nat) : Prop := csB own idx y cc nL ret n ∧ Cond.instanceMethod y ∈ lw_g ∧ Cond.selects y.cls y y ∈ lw_g
abbrev csS (own : String) (idx : Nat) (y : MethodName) (cc : ByteArray) (nL : Nat) (ret : Option FieldType) (n : Nat) : Prop := csB own idx y cc nL ret n ∧ Cond.static y ∈ lw_g
abbrev csN (own : String) (idx : Nat) (y : MethodName) (cc : ByteArray) (nL : Nat) (ret : Option FieldType) (n : Nat) : Prop := ((own, idx, y, RX7) ∈ nwM ∧ Cond.initialized y.cls ∈ lw_g ∧ Cond.code y cc nL ret ∈ lw_g ∧ (y.cls ≠ "java/lang/invoke/MethodHandle" ∧ y.cls ≠ "java/lang/invoke/VarHandle" ∧ (parseMethodDescriptor y.desc).map (fun d => d.parameters.length) = some n)) ∧ Cond.static y ∈ lw_g
theorem gcode {y : MethodName} {cc : ByteArray} {nL : Nat} {ret : Option FieldType} (h : Cond.code y cc nL ret ∈ lw_g) : GoodIn lw_g (.code y cc nL ret :: lw_g) := lw_gg (fun w hw => by
  rcases List.mem_cons.mp hw with rfl | hw
  · exact h
  · exact hw)
theorem B_callV {y : MethodName} {yc : ByteArray} {yL n idx b ci d : Nat} {yr : Option FieldType} {fl : List (Option Nat)} {C : String} {T : u_T} {N : Nat} {As : List Value} {Qc : Option Value → AH → Prop} (hC : Ct l y yc yL yr (rmD d) (.ref b :: As) h Qc) (cs : csV own idx y yc yL yr n) (hs : sh_all[b]? = some (.inr (ci, fl))) (hcl : vwCl[ci]? = some (C, T, N)) (hyC : y.cls = C) (hn : As.length = n) (h3 : 3 ≤ nt) (htb : ∀ k, k < 3 → tb k = tb0 k) (hRf : d + 1 ≤ R.frames) (hRl : 8 + (yL + 11) + 40 * d ≤ R.locals) (hst : (stk.map fun v => v.category).sum ≤ 8) (hd : decode cc pc = .ok (.invokevirtual idx, 3))
    (kk : ∀ (v : Option Value) (h' : AH), Qc v h' → BW own cc nL ret l R tb nt L (v.toList ++ stk) (pc + 3) h' Q) : BW own cc nL ret l R tb nt L (As.reverse ++ .ref b :: stk) pc h Q := by
  intro p e s m args below meth c D cA σ A H locs cells slots G ls F hP hS hL hR
  obtain ⟨hx, hb, hml, hown, hts, hK, hZ, hT, hN, hap, hAi, hAz, hcl, hsl⟩ := id F
  subst hyC
  obtain ⟨⟨c1, c2, c3, c4⟩, c5, c6⟩ := cs
  have hrec := va_recv hK hP (ci := ci) (q0 := b) hcl (w_obj hs)
  have hP' := preW (av := .ref b :: As) h3 htb F hP hS
  refine callW (stk := stk) F hP hS hL (a := (Value.ref (σ b) :: As.map (cv σ)).toArray) (Qc := Qc) (va_runV (b := σ b) (As := As.map (cv σ)) (rest := stk.map (cv σ)) ⟨hx, hb, hml, hown, hts⟩ (hC D cA σ H.size) ⟨callB_of n hts (gcode c3) rfl rfl rfl (hts _ c2) (hts _ c1) c4 ⟨hRf, hRl⟩, hts _ c5, hts _ c6⟩ ⟨Pre_blind _ _ _ _ _ _, hrec, hP'⟩ rfl (by rw [List.length_map]; exact hn) hL.1 ?_ (lv_room (by rw [map_cv_cat]; exact hst)) hd ⟨by omega, by omega⟩) ?_
  · show (As.reverse ++ .ref b :: stk).map (cv σ) = _
    simp [cv]
  · intro v h' H1 locs1 hq hP1 hS1
    exact kk v h' hq p e s m args below meth c D cA σ A H1 locs1 cells slots G ls F hP1 hS1 hL hR
theorem B_callS {y : MethodName} {yc : ByteArray} {yL n idx d : Nat} {yr : Option FieldType} {As : List Value} {Qc : Option Value → AH → Prop} (hC : Ct l y yc yL yr (rmD d) As h Qc) (cs : csS own idx y yc yL yr n) (hn : As.length = n) (h3 : 3 ≤ nt) (htb : ∀ k, k < 3 → tb k = tb0 k) (hRf : d + 1 ≤ R.frames) (hRl : 8 + (yL + 11) + 40 * d ≤ R.locals) (hst : (stk.map fun v => v.category).sum ≤ 8) (hd : decode cc pc = .ok (.invokestatic idx, 3))
    (kk : ∀ (v : Option Value) (h' : AH), Qc v h' → BW own cc nL ret l R tb nt L (v.toList ++ stk) (pc + 3) h' Q) : BW own cc nL ret l R tb nt L (As.reverse ++ stk) pc h Q := by
  intro p e s m args below meth c D cA σ A H locs cells slots G ls F hP hS hL hR
  obtain ⟨hx, hb, hml, hown, hts, hK, hZ, hT, hN, hap, hAi, hAz, hcl, hsl⟩ := id F
  obtain ⟨⟨c1, c2, c3, c4⟩, c5⟩ := cs
  have hP' := preW (av := As) h3 htb F hP hS
  refine callW (stk := stk) F hP hS hL (a := (As.map (cv σ)).toArray) (Qc := Qc) (va_runS (As := As.map (cv σ)) (rest := stk.map (cv σ)) ⟨hx, hb, hml, hown, hts⟩ (hC D cA σ H.size) ⟨callB_of n hts (gcode c3) rfl rfl rfl (hts _ c2) (hts _ c1) c4 ⟨hRf, hRl⟩, hts _ c5⟩ ⟨Pre_blind _ _ _ _ _ _, hP'⟩ rfl (by rw [List.length_map]; exact hn) hL.1 ?_ (lv_room (by rw [map_cv_cat]; exact hst)) hd ⟨by omega, by omega⟩) ?_
  · show (As.reverse ++ stk).map (cv σ) = _
    simp
  · intro v h' H1 locs1 hq hP1 hS1
    exact kk v h' hq p e s m args below meth c D cA σ A H1 locs1 cells slots G ls F hP1 hS1 hL hR
theorem B_callN {y : MethodName} {yc : ByteArray} {yL n idx d : Nat} {yr : Option FieldType} {As : List Value} {Qc : Option Value → AH → Prop} (hC : Ct l y yc yL yr (rmD d) As h Qc) (cs : csN own idx y yc yL yr n) (hn : As.length = n) (h3 : 3 ≤ nt) (htb : ∀ k, k < 3 → tb k = tb0 k) (hRf : d + 1 ≤ R.frames) (hRl : 8 + (yL + 11) + 40 * d ≤ R.locals) (hst : (stk.map fun v => v.category).sum ≤ 8) (hd : decode cc pc = .ok (.invokestatic idx, 3))
    (kk : ∀ (v : Option Value) (h' : AH), Qc v h' → BW own cc nL ret l R tb nt L (v.toList ++ stk) (pc + 3) h' Q) : BW own cc nL ret l R tb nt L (As.reverse ++ stk) pc h Q := by
  intro p e s m args below meth c D cA σ A H locs cells slots G ls F hP hS hL hR
  obtain ⟨hx, hb, hml, hown, hts, hK, hZ, hT, hN, hap, hAi, hAz, hcl, hsl⟩ := id F
  obtain ⟨⟨c1, c2, c3, c4⟩, c5⟩ := cs
  have hP' := preW (av := As) h3 htb F hP hS
  refine callW (stk := stk) F hP hS hL (a := (As.map (cv σ)).toArray) (Qc := Qc) (va_runSN (As := As.map (cv σ)) (rest := stk.map (cv σ)) ⟨hx, hb, hml, hown, hts⟩ (hC D cA σ H.size) ⟨va_cnB n hts (gcode c3) rfl rfl rfl (hN.1 _ c1) (hts _ c2) c4 ⟨hRf, hRl⟩, hts _ c5, trivial⟩ ⟨Pre_blind _ _ _ _ _ _, hP'⟩ rfl (by rw [List.length_map]; exact hn) hL.1 ?_ (lv_room (by rw [map_cv_cat]; exact hst)) hd ⟨by omega, by omega⟩) ?_
  · show (As.reverse ++ stk).map (cv σ) = _
    simp
  · intro v h' H1 locs1 hq hP1 hS1
    exact kk v h' hq p e s m args below meth c D cA σ A H1 locs1 cells slots G ls F hP1 hS1 hL hR
theorem B_cV0i {y : MethodName} {yc : ByteArray} {yL idx d : Nat} {yr : Option FieldType} {b ci : Nat} {fl : List (Option Nat)} {C : String} {T : u_T} {N : Nat} {K : Int32 → AH → Prop} (hC : Ct l y yc yL yr (rmD d) (.ref b :: []) h (Qi K)) (cs : csV own idx y yc yL yr 0) (hs : sh_all[b]? = some (.inr (ci, fl))) (hcl : vwCl[ci]? = some (C, T, N)) (hyC : y.cls = C) (hp : 3 ≤ nt ∧ (∀ k, k < 3 → tb k = tb0 k)) (hRf : d + 1 ≤ R.frames) (hRl : 8 + (yL + 11) + 40 * d ≤ R.locals) (hst : (stk.map fun v => v.category).sum ≤ 8) (hd : decode cc pc = .ok (.invokevirtual idx, 3)) (kk : ∀ (r : Int32) (h' : AH), K r h' → BW own cc nL ret l R tb nt L (.int r :: stk) (pc + 3) h' Q) : BW own cc nL ret l R tb nt L (.ref b :: stk) pc h Q :=
  B_callV (As := []) hC cs hs hcl hyC rfl hp.1 hp.2 hRf hRl hst hd (fun v h' q => by obtain ⟨r, rfl, q⟩ := q; exact kk r h' q)
theorem B_cV0v {y : MethodName} {yc : ByteArray} {yL idx d : Nat} {yr : Option FieldType} {b ci : Nat} {fl : List (Option Nat)} {C : String} {T : u_T} {N : Nat} {K : AH → Prop} (hC : Ct l y yc yL yr (rmD d) (.ref b :: []) h (Qv K)) (cs : csV own idx y yc yL yr 0) (hs : sh_all[b]? = some (.inr (ci, fl))) (hcl : vwCl[ci]? = some (C, T, N)) (hyC : y.cls = C) (hp : 3 ≤ nt ∧ (∀ k, k < 3 → tb k = tb0 k)) (hRf : d + 1 ≤ R.frames) (hRl : 8 + (yL + 11) + 40 * d ≤ R.locals) (hst : (stk.map fun v => v.category).sum ≤ 8) (hd : decode cc pc = .ok (.invokevirtual idx, 3)) (kk : ∀ (h' : AH), K h' → BW own cc nL ret l R tb nt L stk (pc + 3) h' Q) : BW own cc nL ret l R tb nt L (.ref b :: stk) pc h Q :=
  B_callV (As := []) hC cs hs hcl hyC rfl hp.1 hp.2 hRf hRl hst hd (fun v h' q => by obtain ⟨rfl, q⟩ := q; exact kk h' q)
theorem B_cV1i {y : MethodName} {yc : ByteArray} {yL idx d : Nat} {yr : Option FieldType} {b ci : Nat} {fl : List (Option Nat)} {C : String} {T : u_T} {N : Nat} {a1 : Value} {K : Int32 → AH → Prop} (hC : Ct l y yc yL yr (rmD d) (.ref b :: [a1]) h (Qi K)) (cs : csV own idx y yc yL yr 1) (hs : sh_all[b]? = some (.inr (ci, fl))) (hcl : vwCl[ci]? = some (C, T, N)) (hyC : y.cls = C) (hp : 3 ≤ nt ∧ (∀ k, k < 3 → tb k = tb0 k)) (hRf : d + 1 ≤ R.frames) (hRl : 8 + (yL + 11) + 40 * d ≤ R.locals) (hst : (stk.map fun v => v.category).sum ≤ 8) (hd : decode cc pc = .ok (.invokevirtual idx, 3)) (kk : ∀ (r : Int32) (h' : AH), K r h' → BW own cc nL ret l R tb nt L (.int r :: stk) (pc + 3) h' Q) : BW own cc nL ret l R tb nt L (a1 :: .ref b :: stk) pc h Q :=
  B_callV (As := [a1]) hC cs hs hcl hyC rfl hp.1 hp.2 hRf hRl hst hd (fun v h' q => by obtain ⟨r, rfl, q⟩ := q; exact kk r h' q)
theorem B_cV1v {y : MethodName} {yc : ByteArray} {yL idx d : Nat} {yr : Option FieldType} {b ci : Nat} {fl : List (Option Nat)} {C : String} {T : u_T} {N : Nat} {a1 : Value} {K : AH → Prop} (hC : Ct l y yc yL yr (rmD d) (.ref b :: [a1]) h (Qv K)) (cs : csV own idx y yc yL yr 1) (hs : sh_all[b]? = some (.inr (ci, fl))) (hcl : vwCl[ci]? = some (C, T, N)) (hyC : y.cls = C) (hp : 3 ≤ nt ∧ (∀ k, k < 3 → tb k = tb0 k)) (hRf : d + 1 ≤ R.frames) (hRl : 8 + (yL + 11) + 40 * d ≤ R.locals) (hst : (stk.map fun v => v.category).sum ≤ 8) (hd : decode cc pc = .ok (.invokevirtual idx, 3)) (kk : ∀ (h' : AH), K h' → BW own cc nL ret l R tb nt L stk (pc + 3) h' Q) : BW own cc nL ret l R tb nt L (a1 :: .ref b :: stk) pc h Q :=
  B_callV (As := [a1]) hC cs hs hcl hyC rfl hp.1 hp.2 hRf hRl hst hd (fun v h' q => by obtain ⟨rfl, q⟩ := q; exact kk h' q)
theorem B_cV2i {y : MethodName} {yc : ByteArray} {yL idx d : Nat} {yr : Option FieldType} {b ci : Nat} {fl : List (Option Nat)} {C : String} {T : u_T} {N : Nat} {a1 a2 : Value} {K : Int32 → AH → Prop} (hC : Ct l y yc yL yr (rmD d) (.ref b :: [a1, a2]) h (Qi K)) (cs : csV own idx y yc yL yr 2) (hs : sh_all[b]? = some (.inr (ci, fl))) (hcl : vwCl[ci]? = some (C, T, N)) (hyC : y.cls = C) (hp : 3 ≤ nt ∧ (∀ k, k < 3 → tb k = tb0 k)) (hRf : d + 1 ≤ R.frames) (hRl : 8 + (yL + 11) + 40 * d ≤ R.locals) (hst : (stk.map fun v => v.category).sum ≤ 8) (hd : decode cc pc = .ok (.invokevirtual idx, 3)) (kk : ∀ (r : Int32) (h' : AH), K r h' → BW own cc nL ret l R tb nt L (.int r :: stk) (pc + 3) h' Q) : BW own cc nL ret l R tb nt L (a2 :: a1 :: .ref b :: stk) pc h Q :=
  B_callV (As := [a1, a2]) hC cs hs hcl hyC rfl hp.1 hp.2 hRf hRl hst hd (fun v h' q => by obtain ⟨r, rfl, q⟩ := q; exact kk r h' q)
theorem B_cV2v {y : MethodName} {yc : ByteArray} {yL idx d : Nat} {yr : Option FieldType} {b ci : Nat} {fl : List (Option Nat)} {C : String} {T : u_T} {N : Nat} {a1 a2 : Value} {K : AH → Prop} (hC : Ct l y yc yL yr (rmD d) (.ref b :: [a1, a2]) h (Qv K)) (cs : csV own idx y yc yL yr 2) (hs : sh_all[b]? = some (.inr (ci, fl))) (hcl : vwCl[ci]? = some (C, T, N)) (hyC : y.cls = C) (hp : 3 ≤ nt ∧ (∀ k, k < 3 → tb k = tb0 k)) (hRf : d + 1 ≤ R.frames) (hRl : 8 + (yL + 11) + 40 * d ≤ R.locals) (hst : (stk.map fun v => v.category).sum ≤ 8) (hd : decode cc pc = .ok (.invokevirtual idx, 3)) (kk : ∀ (h' : AH), K h' → BW own cc nL ret l R tb nt L stk (pc + 3) h' Q) : BW own cc nL ret l R tb nt L (a2 :: a1 :: .ref b :: stk) pc h Q :=
  B_callV (As := [a1, a2]) hC cs hs hcl hyC rfl hp.1 hp.2 hRf hRl hst hd (fun v h' q => by obtain ⟨rfl, q⟩ := q; exact kk h' q)
theorem B_cV2l {y : MethodName} {yc : ByteArray} {yL idx d : Nat} {yr : Option FieldType} {b ci : Nat} {fl : List (Option Nat)} {C : String} {T : u_T} {N : Nat} {a1 a2 : Value} {K : Int64 → AH → Prop} (hC : Ct l y yc yL yr (rmD d) (.ref b :: [a1, a2]) h (Ql K)) (cs : csV own idx y yc yL yr 2) (hs : sh_all[b]? = some (.inr (ci, fl))) (hcl : vwCl[ci]? = some (C, T, N)) (hyC : y.cls = C) (hp : 3 ≤ nt ∧ (∀ k, k < 3 → tb k = tb0 k)) (hRf : d + 1 ≤ R.frames) (hRl : 8 + (yL + 11) + 40 * d ≤ R.locals) (hst : (stk.map fun v => v.category).sum ≤ 8) (hd : decode cc pc = .ok (.invokevirtual idx, 3)) (kk : ∀ (r : Int64) (h' : AH), K r h' → BW own cc nL ret l R tb nt L (.long r :: stk) (pc + 3) h' Q) : BW own cc nL ret l R tb nt L (a2 :: a1 :: .ref b :: stk) pc h Q :=
  B_callV (As := [a1, a2]) hC cs hs hcl hyC rfl hp.1 hp.2 hRf hRl hst hd (fun v h' q => by obtain ⟨r, rfl, q⟩ := q; exact kk r h' q)
theorem B_cV3i {y : MethodName} {yc : ByteArray} {yL idx d : Nat} {yr : Option FieldType} {b ci : Nat} {fl : List (Option Nat)} {C : String} {T : u_T} {N : Nat} {a1 a2 a3 : Value} {K : Int32 → AH → Prop} (hC : Ct l y yc yL yr (rmD d) (.ref b :: [a1, a2, a3]) h (Qi K)) (cs : csV own idx y yc yL yr 3) (hs : sh_all[b]? = some (.inr (ci, fl))) (hcl : vwCl[ci]? = some (C, T, N)) (hyC : y.cls = C) (hp : 3 ≤ nt ∧ (∀ k, k < 3 → tb k = tb0 k)) (hRf : d + 1 ≤ R.frames) (hRl : 8 + (yL + 11) + 40 * d ≤ R.locals) (hst : (stk.map fun v => v.category).sum ≤ 8) (hd : decode cc pc = .ok (.invokevirtual idx, 3)) (kk : ∀ (r : Int32) (h' : AH), K r h' → BW own cc nL ret l R tb nt L (.int r :: stk) (pc + 3) h' Q) : BW own cc nL ret l R tb nt L (a3 :: a2 :: a1 :: .ref b :: stk) pc h Q :=
  B_callV (As := [a1, a2, a3]) hC cs hs hcl hyC rfl hp.1 hp.2 hRf hRl hst hd (fun v h' q => by obtain ⟨r, rfl, q⟩ := q; exact kk r h' q)
theorem B_cV3v {y : MethodName} {yc : ByteArray} {yL idx d : Nat} {yr : Option FieldType} {b ci : Nat} {fl : List (Option Nat)} {C : String} {T : u_T} {N : Nat} {a1 a2 a3 : Value} {K : AH → Prop} (hC : Ct l y yc yL yr (rmD d) (.ref b :: [a1, a2, a3]) h (Qv K)) (cs : csV own idx y yc yL yr 3) (hs : sh_all[b]? = some (.inr (ci, fl))) (hcl : vwCl[ci]? = some (C, T, N)) (hyC : y.cls = C) (hp : 3 ≤ nt ∧ (∀ k, k < 3 → tb k = tb0 k)) (hRf : d + 1 ≤ R.frames) (hRl : 8 + (yL + 11) + 40 * d ≤ R.locals) (hst : (stk.map fun v => v.category).sum ≤ 8) (hd : decode cc pc = .ok (.invokevirtual idx, 3)) (kk : ∀ (h' : AH), K h' → BW own cc nL ret l R tb nt L stk (pc + 3) h' Q) : BW own cc nL ret l R tb nt L (a3 :: a2 :: a1 :: .ref b :: stk) pc h Q :=
  B_callV (As := [a1, a2, a3]) hC cs hs hcl hyC rfl hp.1 hp.2 hRf hRl hst hd (fun v h' q => by obtain ⟨rfl, q⟩ := q; exact kk h' q)
theorem B_cV4i {y : MethodName} {yc : ByteArray} {yL idx d : Nat} {yr : Option FieldType} {b ci : Nat} {fl : List (Option Nat)} {C : String} {T : u_T} {N : Nat} {a1 a2 a3 a4 : Value} {K : Int32 → AH → Prop} (hC : Ct l y yc yL yr (rmD d) (.ref b :: [a1, a2, a3, a4]) h (Qi K)) (cs : csV own idx y yc yL yr 4) (hs : sh_all[b]? = some (.inr (ci, fl))) (hcl : vwCl[ci]? = some (C, T, N)) (hyC : y.cls = C) (hp : 3 ≤ nt ∧ (∀ k, k < 3 → tb k = tb0 k)) (hRf : d + 1 ≤ R.frames) (hRl : 8 + (yL + 11) + 40 * d ≤ R.locals) (hst : (stk.map fun v => v.category).sum ≤ 8) (hd : decode cc pc = .ok (.invokevirtual idx, 3)) (kk : ∀ (r : Int32) (h' : AH), K r h' → BW own cc nL ret l R tb nt L (.int r :: stk) (pc + 3) h' Q) : BW own cc nL ret l R tb nt L (a4 :: a3 :: a2 :: a1 :: .ref b :: stk) pc h Q :=
  B_callV (As := [a1, a2, a3, a4]) hC cs hs hcl hyC rfl hp.1 hp.2 hRf hRl hst hd (fun v h' q => by obtain ⟨r, rfl, q⟩ := q; exact kk r h' q)
theorem B_cV4v {y : MethodName} {yc : ByteArray} {yL idx d : Nat} {yr : Option FieldType} {b ci : Nat} {fl : List (Option Nat)} {C : String} {T : u_T} {N : Nat} {a1 a2 a3 a4 : Value} {K : AH → Prop} (hC : Ct l y yc yL yr (rmD d) (.ref b :: [a1, a2, a3, a4]) h (Qv K)) (cs : csV own idx y yc yL yr 4) (hs : sh_all[b]? = some (.inr (ci, fl))) (hcl : vwCl[ci]? = some (C, T, N)) (hyC : y.cls = C) (hp : 3 ≤ nt ∧ (∀ k, k < 3 → tb k = tb0 k)) (hRf : d + 1 ≤ R.frames) (hRl : 8 + (yL + 11) + 40 * d ≤ R.locals) (hst : (stk.map fun v => v.category).sum ≤ 8) (hd : decode cc pc = .ok (.invokevirtual idx, 3)) (kk : ∀ (h' : AH), K h' → BW own cc nL ret l R tb nt L stk (pc + 3) h' Q) : BW own cc nL ret l R tb nt L (a4 :: a3 :: a2 :: a1 :: .ref b :: stk) pc h Q :=
  B_callV (As := [a1, a2, a3, a4]) hC cs hs hcl hyC rfl hp.1 hp.2 hRf hRl hst hd (fun v h' q => by obtain ⟨rfl, q⟩ := q; exact kk h' q)
theorem B_cV5i {y : MethodName} {yc : ByteArray} {yL idx d : Nat} {yr : Option FieldType} {b ci : Nat} {fl : List (Option Nat)} {C : String} {T : u_T} {N : Nat} {a1 a2 a3 a4 a5 : Value} {K : Int32 → AH → Prop} (hC : Ct l y yc yL yr (rmD d) (.ref b :: [a1, a2, a3, a4, a5]) h (Qi K)) (cs : csV own idx y yc yL yr 5) (hs : sh_all[b]? = some (.inr (ci, fl))) (hcl : vwCl[ci]? = some (C, T, N)) (hyC : y.cls = C) (hp : 3 ≤ nt ∧ (∀ k, k < 3 → tb k = tb0 k)) (hRf : d + 1 ≤ R.frames) (hRl : 8 + (yL + 11) + 40 * d ≤ R.locals) (hst : (stk.map fun v => v.category).sum ≤ 8) (hd : decode cc pc = .ok (.invokevirtual idx, 3)) (kk : ∀ (r : Int32) (h' : AH), K r h' → BW own cc nL ret l R tb nt L (.int r :: stk) (pc + 3) h' Q) : BW own cc nL ret l R tb nt L (a5 :: a4 :: a3 :: a2 :: a1 :: .ref b :: stk) pc h Q :=
  B_callV (As := [a1, a2, a3, a4, a5]) hC cs hs hcl hyC rfl hp.1 hp.2 hRf hRl hst hd (fun v h' q => by obtain ⟨r, rfl, q⟩ := q; exact kk r h' q)
theorem B_cV5v {y : MethodName} {yc : ByteArray} {yL idx d : Nat} {yr : Option FieldType} {b ci : Nat} {fl : List (Option Nat)} {C : String} {T : u_T} {N : Nat} {a1 a2 a3 a4 a5 : Value} {K : AH → Prop} (hC : Ct l y yc yL yr (rmD d) (.ref b :: [a1, a2, a3, a4, a5]) h (Qv K)) (cs : csV own idx y yc yL yr 5) (hs : sh_all[b]? = some (.inr (ci, fl))) (hcl : vwCl[ci]? = some (C, T, N)) (hyC : y.cls = C) (hp : 3 ≤ nt ∧ (∀ k, k < 3 → tb k = tb0 k)) (hRf : d + 1 ≤ R.frames) (hRl : 8 + (yL + 11) + 40 * d ≤ R.locals) (hst : (stk.map fun v => v.category).sum ≤ 8) (hd : decode cc pc = .ok (.invokevirtual idx, 3)) (kk : ∀ (h' : AH), K h' → BW own cc nL ret l R tb nt L stk (pc + 3) h' Q) : BW own cc nL ret l R tb nt L (a5 :: a4 :: a3 :: a2 :: a1 :: .ref b :: stk) pc h Q :=
  B_callV (As := [a1, a2, a3, a4, a5]) hC cs hs hcl hyC rfl hp.1 hp.2 hRf hRl hst hd (fun v h' q => by obtain ⟨rfl, q⟩ := q; exact kk h' q)
theorem B_cS0i {y : MethodName} {yc : ByteArray} {yL idx d : Nat} {yr : Option FieldType} {K : Int32 → AH → Prop} (hC : Ct l y yc yL yr (rmD d) [] h (Qi K)) (cs : csS own idx y yc yL yr 0) (hp : 3 ≤ nt ∧ (∀ k, k < 3 → tb k = tb0 k)) (hRf : d + 1 ≤ R.frames) (hRl : 8 + (yL + 11) + 40 * d ≤ R.locals) (hst : (stk.map fun v => v.category).sum ≤ 8) (hd : decode cc pc = .ok (.invokestatic idx, 3)) (kk : ∀ (r : Int32) (h' : AH), K r h' → BW own cc nL ret l R tb nt L (.int r :: stk) (pc + 3) h' Q) : BW own cc nL ret l R tb nt L (stk) pc h Q :=
  B_callS (As := []) hC cs rfl hp.1 hp.2 hRf hRl hst hd (fun v h' q => by obtain ⟨r, rfl, q⟩ := q; exact kk r h' q)
theorem B_cS0v {y : MethodName} {yc : ByteArray} {yL idx d : Nat} {yr : Option FieldType} {K : AH → Prop} (hC : Ct l y yc yL yr (rmD d) [] h (Qv K)) (cs : csS own idx y yc yL yr 0) (hp : 3 ≤ nt ∧ (∀ k, k < 3 → tb k = tb0 k)) (hRf : d + 1 ≤ R.frames) (hRl : 8 + (yL + 11) + 40 * d ≤ R.locals) (hst : (stk.map fun v => v.category).sum ≤ 8) (hd : decode cc pc = .ok (.invokestatic idx, 3)) (kk : ∀ (h' : AH), K h' → BW own cc nL ret l R tb nt L stk (pc + 3) h' Q) : BW own cc nL ret l R tb nt L (stk) pc h Q :=
  B_callS (As := []) hC cs rfl hp.1 hp.2 hRf hRl hst hd (fun v h' q => by obtain ⟨rfl, q⟩ := q; exact kk h' q)
theorem B_cS1i {y : MethodName} {yc : ByteArray} {yL idx d : Nat} {yr : Option FieldType} {a1 : Value} {K : Int32 → AH → Prop} (hC : Ct l y yc yL yr (rmD d) [a1] h (Qi K)) (cs : csS own idx y yc yL yr 1) (hp : 3 ≤ nt ∧ (∀ k, k < 3 → tb k = tb0 k)) (hRf : d + 1 ≤ R.frames) (hRl : 8 + (yL + 11) + 40 * d ≤ R.locals) (hst : (stk.map fun v => v.category).sum ≤ 8) (hd : decode cc pc = .ok (.invokestatic idx, 3)) (kk : ∀ (r : Int32) (h' : AH), K r h' → BW own cc nL ret l R tb nt L (.int r :: stk) (pc + 3) h' Q) : BW own cc nL ret l R tb nt L (a1 :: stk) pc h Q :=
  B_callS (As := [a1]) hC cs rfl hp.1 hp.2 hRf hRl hst hd (fun v h' q => by obtain ⟨r, rfl, q⟩ := q; exact kk r h' q)
theorem B_cS1v {y : MethodName} {yc : ByteArray} {yL idx d : Nat} {yr : Option FieldType} {a1 : Value} {K : AH → Prop} (hC : Ct l y yc yL yr (rmD d) [a1] h (Qv K)) (cs : csS own idx y yc yL yr 1) (hp : 3 ≤ nt ∧ (∀ k, k < 3 → tb k = tb0 k)) (hRf : d + 1 ≤ R.frames) (hRl : 8 + (yL + 11) + 40 * d ≤ R.locals) (hst : (stk.map fun v => v.category).sum ≤ 8) (hd : decode cc pc = .ok (.invokestatic idx, 3)) (kk : ∀ (h' : AH), K h' → BW own cc nL ret l R tb nt L stk (pc + 3) h' Q) : BW own cc nL ret l R tb nt L (a1 :: stk) pc h Q :=
  B_callS (As := [a1]) hC cs rfl hp.1 hp.2 hRf hRl hst hd (fun v h' q => by obtain ⟨rfl, q⟩ := q; exact kk h' q)
theorem B_cS2i {y : MethodName} {yc : ByteArray} {yL idx d : Nat} {yr : Option FieldType} {a1 a2 : Value} {K : Int32 → AH → Prop} (hC : Ct l y yc yL yr (rmD d) [a1, a2] h (Qi K)) (cs : csS own idx y yc yL yr 2) (hp : 3 ≤ nt ∧ (∀ k, k < 3 → tb k = tb0 k)) (hRf : d + 1 ≤ R.frames) (hRl : 8 + (yL + 11) + 40 * d ≤ R.locals) (hst : (stk.map fun v => v.category).sum ≤ 8) (hd : decode cc pc = .ok (.invokestatic idx, 3)) (kk : ∀ (r : Int32) (h' : AH), K r h' → BW own cc nL ret l R tb nt L (.int r :: stk) (pc + 3) h' Q) : BW own cc nL ret l R tb nt L (a2 :: a1 :: stk) pc h Q :=
  B_callS (As := [a1, a2]) hC cs rfl hp.1 hp.2 hRf hRl hst hd (fun v h' q => by obtain ⟨r, rfl, q⟩ := q; exact kk r h' q)
theorem B_cS2v {y : MethodName} {yc : ByteArray} {yL idx d : Nat} {yr : Option FieldType} {a1 a2 : Value} {K : AH → Prop} (hC : Ct l y yc yL yr (rmD d) [a1, a2] h (Qv K)) (cs : csS own idx y yc yL yr 2) (hp : 3 ≤ nt ∧ (∀ k, k < 3 → tb k = tb0 k)) (hRf : d + 1 ≤ R.frames) (hRl : 8 + (yL + 11) + 40 * d ≤ R.locals) (hst : (stk.map fun v => v.category).sum ≤ 8) (hd : decode cc pc = .ok (.invokestatic idx, 3)) (kk : ∀ (h' : AH), K h' → BW own cc nL ret l R tb nt L stk (pc + 3) h' Q) : BW own cc nL ret l R tb nt L (a2 :: a1 :: stk) pc h Q :=
  B_callS (As := [a1, a2]) hC cs rfl hp.1 hp.2 hRf hRl hst hd (fun v h' q => by obtain ⟨rfl, q⟩ := q; exact kk h' q)
theorem B_cS3i {y : MethodName} {yc : ByteArray} {yL idx d : Nat} {yr : Option FieldType} {a1 a2 a3 : Value} {K : Int32 → AH → Prop} (hC : Ct l y yc yL yr (rmD d) [a1, a2, a3] h (Qi K)) (cs : csS own idx y yc yL yr 3) (hp : 3 ≤ nt ∧ (∀ k, k < 3 → tb k = tb0 k)) (hRf : d + 1 ≤ R.frames) (hRl : 8 + (yL + 11) + 40 * d ≤ R.locals) (hst : (stk.map fun v => v.category).sum ≤ 8) (hd : decode cc pc = .ok (.invokestatic idx, 3)) (kk : ∀ (r : Int32) (h' : AH), K r h' → BW own cc nL ret l R tb nt L (.int r :: stk) (pc + 3) h' Q) : BW own cc nL ret l R tb nt L (a3 :: a2 :: a1 :: stk) pc h Q :=
  B_callS (As := [a1, a2, a3]) hC cs rfl hp.1 hp.2 hRf hRl hst hd (fun v h' q => by obtain ⟨r, rfl, q⟩ := q; exact kk r h' q)
theorem B_cS3v {y : MethodName} {yc : ByteArray} {yL idx d : Nat} {yr : Option FieldType} {a1 a2 a3 : Value} {K : AH → Prop} (hC : Ct l y yc yL yr (rmD d) [a1, a2, a3] h (Qv K)) (cs : csS own idx y yc yL yr 3) (hp : 3 ≤ nt ∧ (∀ k, k < 3 → tb k = tb0 k)) (hRf : d + 1 ≤ R.frames) (hRl : 8 + (yL + 11) + 40 * d ≤ R.locals) (hst : (stk.map fun v => v.category).sum ≤ 8) (hd : decode cc pc = .ok (.invokestatic idx, 3)) (kk : ∀ (h' : AH), K h' → BW own cc nL ret l R tb nt L stk (pc + 3) h' Q) : BW own cc nL ret l R tb nt L (a3 :: a2 :: a1 :: stk) pc h Q :=
  B_callS (As := [a1, a2, a3]) hC cs rfl hp.1 hp.2 hRf hRl hst hd (fun v h' q => by obtain ⟨rfl, q⟩ := q; exact kk h' q)
theorem B_cS4i {y : MethodName} {yc : ByteArray} {yL idx d : Nat} {yr : Option FieldType} {a1 a2 a3 a4 : Value} {K : Int32 → AH → Prop} (hC : Ct l y yc yL yr (rmD d) [a1, a2, a3, a4] h (Qi K)) (cs : csS own idx y yc yL yr 4) (hp : 3 ≤ nt ∧ (∀ k, k < 3 → tb k = tb0 k)) (hRf : d + 1 ≤ R.frames) (hRl : 8 + (yL + 11) + 40 * d ≤ R.locals) (hst : (stk.map fun v => v.category).sum ≤ 8) (hd : decode cc pc = .ok (.invokestatic idx, 3)) (kk : ∀ (r : Int32) (h' : AH), K r h' → BW own cc nL ret l R tb nt L (.int r :: stk) (pc + 3) h' Q) : BW own cc nL ret l R tb nt L (a4 :: a3 :: a2 :: a1 :: stk) pc h Q :=
  B_callS (As := [a1, a2, a3, a4]) hC cs rfl hp.1 hp.2 hRf hRl hst hd (fun v h' q => by obtain ⟨r, rfl, q⟩ := q; exact kk r h' q)
theorem B_cS4v {y : MethodName} {yc : ByteArray} {yL idx d : Nat} {yr : Option FieldType} {a1 a2 a3 a4 : Value} {K : AH → Prop} (hC : Ct l y yc yL yr (rmD d) [a1, a2, a3, a4] h (Qv K)) (cs : csS own idx y yc yL yr 4) (hp : 3 ≤ nt ∧ (∀ k, k < 3 → tb k = tb0 k)) (hRf : d + 1 ≤ R.frames) (hRl : 8 + (yL + 11) + 40 * d ≤ R.locals) (hst : (stk.map fun v => v.category).sum ≤ 8) (hd : decode cc pc = .ok (.invokestatic idx, 3)) (kk : ∀ (h' : AH), K h' → BW own cc nL ret l R tb nt L stk (pc + 3) h' Q) : BW own cc nL ret l R tb nt L (a4 :: a3 :: a2 :: a1 :: stk) pc h Q :=
  B_callS (As := [a1, a2, a3, a4]) hC cs rfl hp.1 hp.2 hRf hRl hst hd (fun v h' q => by obtain ⟨rfl, q⟩ := q; exact kk h' q)
theorem B_cS5i {y : MethodName} {yc : ByteArray} {yL idx d : Nat} {yr : Option FieldType} {a1 a2 a3 a4 a5 : Value} {K : Int32 → AH → Prop} (hC : Ct l y yc yL yr (rmD d) [a1, a2, a3, a4, a5] h (Qi K)) (cs : csS own idx y yc yL yr 5) (hp : 3 ≤ nt ∧ (∀ k, k < 3 → tb k = tb0 k)) (hRf : d + 1 ≤ R.frames) (hRl : 8 + (yL + 11) + 40 * d ≤ R.locals) (hst : (stk.map fun v => v.category).sum ≤ 8) (hd : decode cc pc = .ok (.invokestatic idx, 3)) (kk : ∀ (r : Int32) (h' : AH), K r h' → BW own cc nL ret l R tb nt L (.int r :: stk) (pc + 3) h' Q) : BW own cc nL ret l R tb nt L (a5 :: a4 :: a3 :: a2 :: a1 :: stk) pc h Q :=
  B_callS (As := [a1, a2, a3, a4, a5]) hC cs rfl hp.1 hp.2 hRf hRl hst hd (fun v h' q => by obtain ⟨r, rfl, q⟩ := q; exact kk r h' q)
theorem B_cS5v {y : MethodName} {yc : ByteArray} {yL idx d : Nat} {yr : Option FieldType} {a1 a2 a3 a4 a5 : Value} {K : AH → Prop} (hC : Ct l y yc yL yr (rmD d) [a1, a2, a3, a4, a5] h (Qv K)) (cs : csS own idx y yc yL yr 5) (hp : 3 ≤ nt ∧ (∀ k, k < 3 → tb k = tb0 k)) (hRf : d + 1 ≤ R.frames) (hRl : 8 + (yL + 11) + 40 * d ≤ R.locals) (hst : (stk.map fun v => v.category).sum ≤ 8) (hd : decode cc pc = .ok (.invokestatic idx, 3)) (kk : ∀ (h' : AH), K h' → BW own cc nL ret l R tb nt L stk (pc + 3) h' Q) : BW own cc nL ret l R tb nt L (a5 :: a4 :: a3 :: a2 :: a1 :: stk) pc h Q :=
  B_callS (As := [a1, a2, a3, a4, a5]) hC cs rfl hp.1 hp.2 hRf hRl hst hd (fun v h' q => by obtain ⟨rfl, q⟩ := q; exact kk h' q)
theorem B_cN0i {y : MethodName} {yc : ByteArray} {yL idx d : Nat} {yr : Option FieldType} {K : Int32 → AH → Prop} (hC : Ct l y yc yL yr (rmD d) [] h (Qi K)) (cs : csN own idx y yc yL yr 0) (hp : 3 ≤ nt ∧ (∀ k, k < 3 → tb k = tb0 k)) (hRf : d + 1 ≤ R.frames) (hRl : 8 + (yL + 11) + 40 * d ≤ R.locals) (hst : (stk.map fun v => v.category).sum ≤ 8) (hd : decode cc pc = .ok (.invokestatic idx, 3)) (kk : ∀ (r : Int32) (h' : AH), K r h' → BW own cc nL ret l R tb nt L (.int r :: stk) (pc + 3) h' Q) : BW own cc nL ret l R tb nt L (stk) pc h Q :=
  B_callN (As := []) hC cs rfl hp.1 hp.2 hRf hRl hst hd (fun v h' q => by obtain ⟨r, rfl, q⟩ := q; exact kk r h' q)
theorem B_cN0v {y : MethodName} {yc : ByteArray} {yL idx d : Nat} {yr : Option FieldType} {K : AH → Prop} (hC : Ct l y yc yL yr (rmD d) [] h (Qv K)) (cs : csN own idx y yc yL yr 0) (hp : 3 ≤ nt ∧ (∀ k, k < 3 → tb k = tb0 k)) (hRf : d + 1 ≤ R.frames) (hRl : 8 + (yL + 11) + 40 * d ≤ R.locals) (hst : (stk.map fun v => v.category).sum ≤ 8) (hd : decode cc pc = .ok (.invokestatic idx, 3)) (kk : ∀ (h' : AH), K h' → BW own cc nL ret l R tb nt L stk (pc + 3) h' Q) : BW own cc nL ret l R tb nt L (stk) pc h Q :=
  B_callN (As := []) hC cs rfl hp.1 hp.2 hRf hRl hst hd (fun v h' q => by obtain ⟨rfl, q⟩ := q; exact kk h' q)
theorem B_cN1i {y : MethodName} {yc : ByteArray} {yL idx d : Nat} {yr : Option FieldType} {a1 : Value} {K : Int32 → AH → Prop} (hC : Ct l y yc yL yr (rmD d) [a1] h (Qi K)) (cs : csN own idx y yc yL yr 1) (hp : 3 ≤ nt ∧ (∀ k, k < 3 → tb k = tb0 k)) (hRf : d + 1 ≤ R.frames) (hRl : 8 + (yL + 11) + 40 * d ≤ R.locals) (hst : (stk.map fun v => v.category).sum ≤ 8) (hd : decode cc pc = .ok (.invokestatic idx, 3)) (kk : ∀ (r : Int32) (h' : AH), K r h' → BW own cc nL ret l R tb nt L (.int r :: stk) (pc + 3) h' Q) : BW own cc nL ret l R tb nt L (a1 :: stk) pc h Q :=
  B_callN (As := [a1]) hC cs rfl hp.1 hp.2 hRf hRl hst hd (fun v h' q => by obtain ⟨r, rfl, q⟩ := q; exact kk r h' q)
theorem B_cN1v {y : MethodName} {yc : ByteArray} {yL idx d : Nat} {yr : Option FieldType} {a1 : Value} {K : AH → Prop} (hC : Ct l y yc yL yr (rmD d) [a1] h (Qv K)) (cs : csN own idx y yc yL yr 1) (hp : 3 ≤ nt ∧ (∀ k, k < 3 → tb k = tb0 k)) (hRf : d + 1 ≤ R.frames) (hRl : 8 + (yL + 11) + 40 * d ≤ R.locals) (hst : (stk.map fun v => v.category).sum ≤ 8) (hd : decode cc pc = .ok (.invokestatic idx, 3)) (kk : ∀ (h' : AH), K h' → BW own cc nL ret l R tb nt L stk (pc + 3) h' Q) : BW own cc nL ret l R tb nt L (a1 :: stk) pc h Q :=
  B_callN (As := [a1]) hC cs rfl hp.1 hp.2 hRf hRl hst hd (fun v h' q => by obtain ⟨rfl, q⟩ := q; exact kk h' q)
theorem B_cN2i {y : MethodName} {yc : ByteArray} {yL idx d : Nat} {yr : Option FieldType} {a1 a2 : Value} {K : Int32 → AH → Prop} (hC : Ct l y yc yL yr (rmD d) [a1, a2] h (Qi K)) (cs : csN own idx y yc yL yr 2) (hp : 3 ≤ nt ∧ (∀ k, k < 3 → tb k = tb0 k)) (hRf : d + 1 ≤ R.frames) (hRl : 8 + (yL + 11) + 40 * d ≤ R.locals) (hst : (stk.map fun v => v.category).sum ≤ 8) (hd : decode cc pc = .ok (.invokestatic idx, 3)) (kk : ∀ (r : Int32) (h' : AH), K r h' → BW own cc nL ret l R tb nt L (.int r :: stk) (pc + 3) h' Q) : BW own cc nL ret l R tb nt L (a2 :: a1 :: stk) pc h Q :=
  B_callN (As := [a1, a2]) hC cs rfl hp.1 hp.2 hRf hRl hst hd (fun v h' q => by obtain ⟨r, rfl, q⟩ := q; exact kk r h' q)
theorem B_cN2v {y : MethodName} {yc : ByteArray} {yL idx d : Nat} {yr : Option FieldType} {a1 a2 : Value} {K : AH → Prop} (hC : Ct l y yc yL yr (rmD d) [a1, a2] h (Qv K)) (cs : csN own idx y yc yL yr 2) (hp : 3 ≤ nt ∧ (∀ k, k < 3 → tb k = tb0 k)) (hRf : d + 1 ≤ R.frames) (hRl : 8 + (yL + 11) + 40 * d ≤ R.locals) (hst : (stk.map fun v => v.category).sum ≤ 8) (hd : decode cc pc = .ok (.invokestatic idx, 3)) (kk : ∀ (h' : AH), K h' → BW own cc nL ret l R tb nt L stk (pc + 3) h' Q) : BW own cc nL ret l R tb nt L (a2 :: a1 :: stk) pc h Q :=
  B_callN (As := [a1, a2]) hC cs rfl hp.1 hp.2 hRf hRl hst hd (fun v h' q => by obtain ⟨rfl, q⟩ := q; exact kk h' q)
theorem B_lcmp {x y : Int64} (hd : decode cc pc = .ok (.lcmp, 1)) (kk : BW own cc nL ret l R tb nt L (.int (lg_cmp x y) :: stk) (pc + 1) h Q) : BW own cc nL ret l R tb nt L (.long y :: .long x :: stk) pc h Q := by
  intro p e s m args below meth c D cA σ A H locs cells slots G ls F hP hS hL hR
  obtain ⟨hx, hb, hml, hown, hts, hK, hZ, hT, hN, hap, hAi, hAz, hcl, hsl⟩ := id F
  exact W.lcmp hx hb hd (kk p e s m args below meth c D cA σ A H locs cells slots G ls F hP hS hL hR)
end BR
theorem wk_n : wk [] [] := trivial
theorem wk_1 {v : Value} {as bs : List Value} (h : wk as bs) : wk (v :: as) (v :: bs) := ⟨Or.inr rfl, h⟩
theorem wk_0 {v : Value} {as bs : List Value} (h : wk as bs) : wk (.null :: as) (v :: bs) := ⟨Or.inl rfl, h⟩
theorem rm_f {d : Nat} (h : 1 ≤ d) : (d - 1) + 1 ≤ (rmD d).frames := by
  show d - 1 + 1 ≤ d
  omega
theorem rm_l {d yL : Nat} (h : 1 ≤ d) (hy : yL ≤ 20) : 8 + (yL + 11) + 40 * (d - 1) ≤ (rmD d).locals := by
  show _ ≤ 40 * d
  omega
theorem hp0 : 3 ≤ 3 ∧ ∀ k, k < 3 → tb0 k = tb0 k := ⟨Nat.le_refl _, fun _ _ => rfl⟩
theorem ite_p {c : Prop} [Decidable c] {A B G : Prop} (hM : if c then A else B) (kt : c → A → G) (kf : ¬ c → B → G) : G := by
  by_cases hc : c
  · rw [if_pos hc] at hM
    exact kt hc hM
  · rw [if_neg hc] at hM
    exact kf hc hM
theorem tsw_out {x : Int32} {n : Nat} (hn : n < 2 ^ 31) (h : ∀ j, j < n → ¬ x = nI j) : x.toInt < 0 ∨ (n : Int) ≤ x.toInt := by
  rcases Int.lt_or_le x.toInt 0 with q | q
  · exact Or.inl q
  · rcases Int.lt_or_le x.toInt n with z | z
    · exfalso
      obtain ⟨j, hj, e⟩ := vp_in_of (vp_in_iff.mpr ⟨q, z⟩) hn
      exact h j hj e
    · exact Or.inr z
theorem fits_I (x : Int32) : narrow .int (.int x) = .int x ∧ fits .int (.int x) = true := ⟨rfl, rfl⟩
theorem fits_Z {x : Int32} (h : zB x) : narrow .boolean (.int x) = .int x ∧ fits .boolean (.int x) = true := by rcases h with rfl | rfl <;> exact ⟨rfl, rfl⟩
