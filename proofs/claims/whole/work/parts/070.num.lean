theorem nlt {a b : Nat} (ha : a < 2147483648) (hb : b < 2147483648) : (nI a < nI b) = (a < b) := propext (nI_ltI ha hb)
theorem nle {a b : Nat} (ha : a < 2147483648) (hb : b < 2147483648) : (nI a ≤ nI b) = (a ≤ b) := propext (nI_leI ha hb)
theorem neq {a b : Nat} (ha : a < 2147483648) (hb : b < 2147483648) : (nI a = nI b) = (a = b) := propext (nI_eq ha hb)
theorem nsub {a b : Nat} (h : b ≤ a) : nI a - nI b = nI (a - b) := pk_sub h
theorem ncl {n : Nat} (h : n < 2147483648) : (nI n).toNatClampNeg = n := nI_clamp h
theorem nin {k n : Nat} (hk : k < n) (hn : n < 2147483648) : vp_in (nI k) n = True := eq_true (vp_in_nI hk hn)
theorem nneg {k : Nat} (h : k < 2147483648) : (nI k = -1) = False := eq_false (fun e => by
  have := congrArg Int32.toInt e
  rw [nI_toInt h] at this
  have e2 : (-1 : Int32).toInt = -1 := by decide
  omega)
theorem nneg2 {k : Nat} (h : k < 2147483648) : (nI k = -2) = False := eq_false (fun e => by
  have := congrArg Int32.toInt e
  rw [nI_toInt h] at this
  have e2 : (-2 : Int32).toInt = -2 := by decide
  omega)
theorem m1_lt {k : Nat} (h : k < 2147483648) : ((-1 : Int32) < nI k) = True := eq_true (by
  rw [Int32.lt_iff_toInt_lt, nI_toInt h]
  have e2 : (-1 : Int32).toInt = -1 := by decide
  omega)
theorem m1_le {k : Nat} (h : k < 2147483648) : (nI k ≤ (-1 : Int32)) = False := eq_false (by
  rw [Int32.le_iff_toInt_le, nI_toInt h]
  have e2 : (-1 : Int32).toInt = -1 := by decide
  omega)
theorem nm1 {k : Nat} (h : 0 < k) : nI k + (-1) = nI (k - 1) := by
  obtain ⟨j, rfl⟩ : ∃ j, k = j + 1 := ⟨k - 1, by omega⟩
  rw [pk_m1]
  rfl
/-- every number is one that can't be below 0, or is below 0 -/
theorem i32_cases (x : Int32) : x < nI 0 ∨ ∃ k, k < 2147483648 ∧ x = nI k := by
  rcases Classical.em (x < 0) with h | h
  · exact Or.inl h
  · obtain ⟨j, h1, h2⟩ := nI_of h
    exact Or.inr ⟨j, h1, h2⟩
theorem neg_eq {x : Int32} {k : Nat} (h : x < nI 0) (hk : k < 2147483648) : (x = nI k) = False := eq_false (fun e => by
  rw [e, nlt hk (by omega)] at h
  omega)
theorem neg_lt {x : Int32} {k : Nat} (h : x < nI 0) (hk : k < 2147483648) : (x < nI k) = True := eq_true (by
  rw [Int32.lt_iff_toInt_lt, nI_toInt (by omega)] at h ⊢
  omega)
theorem neg_le {x : Int32} {k : Nat} (h : x < nI 0) (hk : k < 2147483648) : (nI k ≤ x) = False := eq_false (by
  rw [Int32.lt_iff_toInt_lt, nI_toInt (by omega)] at h
  rw [Int32.le_iff_toInt_le, nI_toInt (by omega)]
  omega)
theorem neg_lt' {x : Int32} {k : Nat} (h : x < nI 0) (hk : k < 2147483648) : (nI k < x) = False := eq_false (by
  rw [Int32.lt_iff_toInt_lt, nI_toInt (by omega)] at h ⊢
  omega)
theorem neg_in {x : Int32} {n : Nat} (h : x < nI 0) : vp_in x n = False := eq_false (fun q => q (Or.inl h))
theorem bt_nI (a i : Nat) : (nI a).toBitVec.getLsbD i = (decide (i < 32) && a.testBit i) := by
  show (BitVec.ofNat 32 a).getLsbD i = _
  rw [BitVec.getLsbD_ofNat]
theorem bor (a b : Nat) : nI a ||| nI b = nI (a ||| b) := by
  apply Int32.toBitVec_inj.mp
  apply BitVec.eq_of_getLsbD_eq
  intro i hi
  rw [bt_nI, Nat.testBit_or]
  show ((nI a).toBitVec ||| (nI b).toBitVec).getLsbD i = _
  rw [BitVec.getLsbD_or, bt_nI, bt_nI]
  simp [hi]
theorem bsh1 : ∀ o, o < 12 → nI 1 <<< (nI o &&& 31) = nI (2 ^ o) := by decide +kernel
theorem bsm : ∀ o, o < 12 → ((nI o &&& 31).toBitVec.smod 32).toNat = o := by decide +kernel
theorem bget {a o : Nat} (ha : a < 2147483648) (ho : o < 12) : (nI a >>> (nI o &&& 31)) &&& nI 1 = nI (if a.testBit o then 1 else 0) := by
  rw [pk_shrN ha _ o (bsm o ho), pk_andN (Nat.lt_of_le_of_lt (Nat.div_le_self _ _) (by omega)) 1 (by decide), Nat.testBit_eq_decide_div_mod_eq]
  have : a / 2 ^ o % 2 = 0 ∨ a / 2 ^ o % 2 = 1 := by omega
  rcases this with h | h <;> simp [h]
def clr (a o : Nat) : Nat := if a.testBit o then a - 2 ^ o else a
theorem bclr_d : (List.range 64).all (fun a => (List.range 6).all (fun o => decide (nI a &&& ((nI 1 <<< (nI o &&& 31)) ^^^ -1) = nI (clr a o)))) = true := by decide +kernel
theorem bclr {a o : Nat} (ha : a < 64) (ho : o < 6) : nI a &&& ((nI 1 <<< (nI o &&& 31)) ^^^ -1) = nI (clr a o) := by
  have h1 := List.all_eq_true.mp bclr_d a (List.mem_range.mpr ha)
  have h2 := List.all_eq_true.mp h1 o (List.mem_range.mpr ho)
  exact of_decide_eq_true h2
/-- sets of the six owners -/
def b2n (b : Bool) : Nat := if b then 1 else 0
def mk6 (p : Nat → Bool) : Nat := b2n (p 0) + 2 * b2n (p 1) + 4 * b2n (p 2) + 8 * b2n (p 3) + 16 * b2n (p 4) + 32 * b2n (p 5)
theorem b2n_lt (b : Bool) : b2n b < 2 := by cases b <;> decide
theorem mk6_lt (p : Nat → Bool) : mk6 p < 64 := by
  have := b2n_lt (p 0); have := b2n_lt (p 1); have := b2n_lt (p 2); have := b2n_lt (p 3); have := b2n_lt (p 4); have := b2n_lt (p 5)
  unfold mk6
  omega
theorem mk6_tb_d : ∀ a b c d e f : Bool, ∀ o, o < 6 → (b2n a + 2 * b2n b + 4 * b2n c + 8 * b2n d + 16 * b2n e + 32 * b2n f).testBit o = (match o with | 0 => a | 1 => b | 2 => c | 3 => d | 4 => e | _ => f) := by decide +kernel
theorem mk6_tb (p : Nat → Bool) {o : Nat} (ho : o < 6) : (mk6 p).testBit o = p o := by
  unfold mk6
  rw [mk6_tb_d _ _ _ _ _ _ o ho]
  match o, ho with
  | 0, _ => rfl
  | 1, _ => rfl
  | 2, _ => rfl
  | 3, _ => rfl
  | 4, _ => rfl
  | 5, _ => rfl
theorem tb_hi {a o : Nat} (ha : a < 64) (ho : ¬ o < 6) : a.testBit o = false := Nat.testBit_lt_two_pow (Nat.lt_of_lt_of_le ha (by
  have : 2 ^ 6 ≤ 2 ^ o := Nat.pow_le_pow_right (by omega) (by omega)
  omega))
theorem eq6 {a b : Nat} (ha : a < 64) (hb : b < 64) (h : ∀ o, o < 6 → a.testBit o = b.testBit o) : a = b := by
  apply Nat.eq_of_testBit_eq
  intro o
  by_cases ho : o < 6
  · exact h o ho
  · rw [tb_hi ha ho, tb_hi hb ho]
theorem or_lt64 {a b : Nat} (ha : a < 64) (hb : b < 64) : a ||| b < 64 := Nat.or_lt_two_pow (n := 6) ha hb
theorem mk6_or (p q : Nat → Bool) : mk6 p ||| mk6 q = mk6 (fun o => p o || q o) := by
  refine eq6 (or_lt64 (mk6_lt p) (mk6_lt q)) (mk6_lt _) (fun o ho => ?_)
  rw [Nat.testBit_or, mk6_tb p ho, mk6_tb q ho, mk6_tb _ ho]
theorem mk6_cong {p q : Nat → Bool} (h : ∀ o, o < 6 → p o = q o) : mk6 p = mk6 q := by
  unfold mk6
  rw [h 0 (by omega), h 1 (by omega), h 2 (by omega), h 3 (by omega), h 4 (by omega), h 5 (by omega)]
theorem mk6_0 : mk6 (fun _ => false) = 0 := by decide
theorem mk6_of {a : Nat} (ha : a < 64) : mk6 (fun o => a.testBit o) = a := eq6 (mk6_lt _) ha (fun o ho => mk6_tb _ ho)
theorem pow_lt64 {o : Nat} (ho : o < 6) : 2 ^ o < 64 := by
  have : 2 ^ o < 2 ^ 6 := Nat.pow_lt_pow_right (by omega) ho
  omega
theorem mk6_1 {o : Nat} (ho : o < 6) : 2 ^ o = mk6 (fun j => j == o) := by
  refine eq6 (pow_lt64 ho) (mk6_lt _) (fun j hj => ?_)
  rw [mk6_tb _ hj, Nat.testBit_two_pow]
  by_cases e : o = j
  · subst e; simp
  · have e2 : ¬ j = o := fun q => e q.symm
    simp [e, e2]
theorem clr_d : (List.range 64).all (fun a => (List.range 6).all (fun o => (List.range 6).all (fun j => decide (clr a o < 64 ∧ (clr a o).testBit j = (a.testBit j && !(j == o)))))) = true := by decide +kernel
theorem clr_tb {a o j : Nat} (ha : a < 64) (ho : o < 6) (hj : j < 6) : clr a o < 64 ∧ (clr a o).testBit j = (a.testBit j && !(j == o)) := by
  have h1 := List.all_eq_true.mp clr_d a (List.mem_range.mpr ha)
  have h2 := List.all_eq_true.mp h1 o (List.mem_range.mpr ho)
  exact of_decide_eq_true (List.all_eq_true.mp h2 j (List.mem_range.mpr hj))
theorem clr_mk {p : Nat → Bool} {o : Nat} (ho : o < 6) : clr (mk6 p) o = mk6 (fun j => p j && !(j == o)) := by
  refine eq6 (clr_tb (mk6_lt p) ho ho).1 (mk6_lt _) (fun j hj => ?_)
  rw [(clr_tb (mk6_lt p) ho hj).2, mk6_tb _ hj, mk6_tb _ hj]
theorem mk6_z {p : Nat → Bool} : mk6 p = 0 ↔ ∀ o, o < 6 → p o = false := by
  constructor
  · intro h o ho
    rw [← mk6_tb p ho, h, Nat.zero_testBit]
  · intro h
    rw [← mk6_0]
    exact mk6_cong h
/-- which modes do not go together -/
def cl (a b : Nat) : Bool := match a with
  | 1 => b == 5
  | 2 => b == 3 || b == 5
  | 3 => b == 2 || b == 4 || b == 5
  | 4 => b == 3 || b == 4 || b == 5
  | _ => true
def ab (m : Nat) : Nat := if m = 2 then 1 else 3
theorem cl_t : ∀ a, a < 6 → 1 ≤ a → ∀ b, b < 6 → 1 ≤ b → ((tCL a >>> (nI b &&& 31)) &&& nI 1 = nI 0) = (cl a b = false) := by
  have h : ∀ a, a < 6 → 1 ≤ a → ∀ b, b < 6 → 1 ≤ b → (((tCL a >>> (nI b &&& 31)) &&& nI 1 = nI 0) ↔ (cl a b = false)) := by decide +kernel
  exact fun a h1 h2 b h3 h4 => propext (h a h1 h2 b h3 h4)
theorem upr (h : AH) (i k : Nat) (x : Int32) (a j : Nat) : up h i k x a j = if a = i ∧ j = k then x else h a j := by
  unfold up
  by_cases e : a = i
  · rw [if_pos e]
    unfold upd
    by_cases e2 : j = k
    · rw [if_pos e2, if_pos ⟨e, e2⟩]
    · rw [if_neg e2, if_neg (fun q => e2 q.2)]
  · rw [if_neg e, if_neg (fun q => e q.1)]
theorem up_s (h : AH) (i k : Nat) (x : Int32) : up h i k x i k = x := by rw [upr, if_pos ⟨rfl, rfl⟩]
theorem up_c {h : AH} {i k : Nat} {x : Int32} {a j : Nat} (e : a ≠ i) : up h i k x a j = h a j := by rw [upr, if_neg (fun q => e q.1)]
theorem up_k {h : AH} {i k : Nat} {x : Int32} {a j : Nat} (e : j ≠ k) : up h i k x a j = h a j := by rw [upr, if_neg (fun q => e q.2)]
