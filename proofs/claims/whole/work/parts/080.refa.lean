/-! the reference: what it tells -/
theorem zB1 : zB (nI 1) = True := eq_true (Or.inr rfl)
theorem zB0 : zB (nI 0) = True := eq_true (Or.inl rfl)
theorem in_y {F m : Nat} {x : Int32} {h : AH} {K : Int32 → AH → Prop} (hm : m < 2000000000) (hx : inr x (m + 1)) : P_X8_in F x (nI 0) (nI m) h K = K (nI 1) h := by
  obtain ⟨k, hk, rfl⟩ := hx
  simp (disch := omega) only [P_X8_in, Nat.not_lt_zero, nneg, nneg2, nlt, nle, neq, nI_add, pk_mul, nsub, ncl, nin, and_true, true_and, not_true_eq_false, not_false_eq_true, ↓reduceIte, Nat.reduceAdd, if_neg, if_pos]
theorem in_n {F m : Nat} {x : Int32} {h : AH} {K : Int32 → AH → Prop} (hm : m < 2000000000) (hx : ¬ inr x (m + 1)) : P_X8_in F x (nI 0) (nI m) h K = K (nI 0) h := by
  rcases inr_not hx with q | ⟨k, h1, h2, rfl⟩
  · simp only [P_X8_in, q, if_true]
  · simp (disch := omega) only [P_X8_in, Nat.not_lt_zero, nneg, nneg2, nlt, nle, neq, nI_add, pk_mul, nsub, ncl, nin, and_true, true_and, not_true_eq_false, not_false_eq_true, ↓reduceIte, Nat.reduceAdd, if_neg, if_pos]
theorem isOwner_ry {F : Nat} {x : Int32} {h : AH} {K : Int32 → AH → Prop} (hx : inr x 6) : P_X8_isOwner F x h K = K (nI 1) h := by
  unfold P_X8_isOwner
  rw [in_y (by omega) hx, zB1, true_and]
theorem isOwner_rn {F : Nat} {x : Int32} {h : AH} {K : Int32 → AH → Prop} (hx : ¬ inr x 6) : P_X8_isOwner F x h K = K (nI 0) h := by
  unfold P_X8_isOwner
  rw [in_n (by omega) hx, zB0, true_and]
theorem has_e {F s o : Nat} {h : AH} {K : Int32 → AH → Prop} (hs : s < 2147483648) (ho : o < 12) : P_X8_has F (nI s) (nI o) h K = K (nI (if s.testBit o then 1 else 0)) h := by
  unfold P_X8_has
  rw [bget hs ho]
  cases s.testBit o <;> simp (disch := omega) only [Nat.not_lt_zero, nneg, nneg2, nlt, nle, neq, nI_add, pk_mul, nsub, ncl, nin, and_true, true_and, not_true_eq_false, not_false_eq_true, ↓reduceIte, Nat.reduceAdd, if_neg, if_pos, if_true, if_false, Bool.false_eq_true]
def tgm (a : Nat) : Nat := match a with | 1 => 30 | 2 => 22 | 3 => 10 | 4 => 6 | _ => 0
theorem tgm_d : ∀ a, a < 6 → 1 ≤ a → ∀ b, b < 6 → 1 ≤ b → (tgm a).testBit b = !cl a b := by decide +kernel
theorem goT_e {F a c : Nat} {h : AH} {K : Int32 → AH → Prop} (ha1 : 1 ≤ a) (ha : a ≤ 5) (hc1 : 1 ≤ c) (hc : c ≤ 5) : P_X8_goTogether F (nI a) (nI c) h K = K (nI (if cl a c then 0 else 1)) h := by
  have e : P_X8_together F (nI a) h (fun (r2 : Int32) (h1 : AH) => P_X8_has F r2 (nI c) h1 (fun (r4 : Int32) (h3 : AH) => zB r4 ∧ K r4 h3)) = P_X8_has F (nI (tgm a)) (nI c) h (fun (r4 : Int32) (h3 : AH) => zB r4 ∧ K r4 h3) := by
    unfold P_X8_together
    rcases (show a = 1 ∨ a = 2 ∨ a = 3 ∨ a = 4 ∨ a = 5 by omega) with rfl | rfl | rfl | rfl | rfl <;> simp (disch := omega) only [Nat.not_lt_zero, nneg, nneg2, nlt, nle, neq, nI_add, pk_mul, nsub, ncl, nin, and_true, true_and, not_true_eq_false, not_false_eq_true, ↓reduceIte, Nat.reduceAdd, if_pos, if_neg, tgm]
  have hlt : tgm a < 2147483648 := by
    rcases (show a = 1 ∨ a = 2 ∨ a = 3 ∨ a = 4 ∨ a = 5 by omega) with rfl | rfl | rfl | rfl | rfl <;> decide
  unfold P_X8_goTogether
  rw [e, has_e hlt (by omega), tgm_d a (by omega) ha1 c (by omega) hc1]
  cases cl a c <;> simp [zB1, zB0]
theorem wIn {n : Nat} : nI n - nI 1 = wI n := rfl
section RA
variable {n : Nat} {W B : Nat → Nat} {C : CT} {ln pl : LN} {h : AH}
theorem isThing_ry {F : Nat} {x : Int32} {K : Int32 → AH → Prop} (r0 : h 57 0 = nI n) (hn : n ≤ 12) (hx : inr x n) : P_X8_isThing F x h K = K (nI 1) h := by
  unfold P_X8_isThing
  simp (disch := omega) only [Nat.not_lt_zero, nneg, nneg2, nlt, nle, neq, nI_add, pk_mul, nsub, ncl, nin, and_true, true_and, not_true_eq_false, not_false_eq_true, ↓reduceIte, Nat.reduceAdd, r0]
  obtain ⟨m, rfl⟩ : ∃ m, n = m + 1 := ⟨n - 1, by obtain ⟨k, hk, _⟩ := hx; omega⟩
  simp (disch := omega) only [Nat.not_lt_zero, nneg, nneg2, nlt, nle, neq, nI_add, pk_mul, nsub, ncl, nin, and_true, true_and, not_true_eq_false, not_false_eq_true, ↓reduceIte, Nat.reduceAdd]
  rw [show m + 1 - 1 = m by omega, in_y (by omega) hx, zB1, true_and]
theorem isThing_rn {F : Nat} {x : Int32} {K : Int32 → AH → Prop} (r0 : h 57 0 = nI n) (hn : n ≤ 12) (hx : ¬ inr x n) : P_X8_isThing F x h K = K (nI 0) h := by
  unfold P_X8_isThing
  simp (disch := omega) only [ncl, nin, true_and, r0]
  cases n with
  | zero =>
    rw [wIn, wI_0]
    rcases i32_cases x with q | ⟨k, q1, rfl⟩
    · simp only [P_X8_in, q, if_true, zB0, true_and]
    · simp (disch := omega) only [P_X8_in, Nat.not_lt_zero, nneg, nneg2, nlt, nle, neq, nI_add, pk_mul, nsub, ncl, nin, and_true, true_and, not_true_eq_false, not_false_eq_true, ↓reduceIte, Nat.reduceAdd, m1_lt, if_true, zB0, if_neg]
  | succ m =>
    rw [nsub (by omega), show m + 1 - 1 = m by omega, in_n (by omega) hx, zB0, true_and]
theorem isAsked_y {F : Nat} {m : Int32} {K : Int32 → AH → Prop} (h3 : m = nI 2 ∨ m = nI 4 ∨ m = nI 5) : P_X8_isAsked F m h K = K (nI 1) h := by
  unfold P_X8_isAsked
  rcases h3 with rfl | rfl | rfl <;> simp (disch := omega) only [Nat.not_lt_zero, nneg, nneg2, nlt, nle, neq, nI_add, pk_mul, nsub, ncl, nin, and_true, true_and, not_true_eq_false, not_false_eq_true, ↓reduceIte, Nat.reduceAdd, if_neg, if_pos]
theorem isAsked_n {F : Nat} {m : Int32} {K : Int32 → AH → Prop} (h3 : ¬ (m = nI 2 ∨ m = nI 4 ∨ m = nI 5)) : P_X8_isAsked F m h K = K (nI 0) h := by
  unfold P_X8_isAsked
  have h4 : ¬ m = nI 2 := fun q => h3 (Or.inl q)
  have h5 : ¬ m = nI 4 := fun q => h3 (Or.inr (Or.inl q))
  have h6 : ¬ m = nI 5 := fun q => h3 (Or.inr (Or.inr q))
  simp only [h4, h5, h6, if_false, not_false_eq_true, if_true]
theorem isAsk_ry {F : Nat} {o t m : Int32} {K : Int32 → AH → Prop} (r0 : h 57 0 = nI n) (hn : n ≤ 12) (hx : isA n o t m) : P_X8_isAsk F o t m h K = K (nI 1) h := by
  obtain ⟨h1, h2, h3⟩ := hx
  simp (disch := omega) only [P_X8_isAsk, isOwner_ry h1, isThing_ry r0 hn h2, isAsked_y h3, Nat.not_lt_zero, nneg, nneg2, nlt, nle, neq, nI_add, pk_mul, nsub, ncl, nin, and_true, true_and, not_true_eq_false, not_false_eq_true, ↓reduceIte, Nat.reduceAdd, if_neg, if_pos]
theorem isAsk_rn {F : Nat} {o t m : Int32} {K : Int32 → AH → Prop} (r0 : h 57 0 = nI n) (hn : n ≤ 12) (hx : ¬ isA n o t m) : P_X8_isAsk F o t m h K = K (nI 0) h := by
  by_cases h1 : inr o 6
  · by_cases h2 : inr t n
    · have h3 : ¬ (m = nI 2 ∨ m = nI 4 ∨ m = nI 5) := fun q => hx ⟨h1, h2, q⟩
      simp (disch := omega) only [P_X8_isAsk, isOwner_ry h1, isThing_ry r0 hn h2, isAsked_n h3, Nat.not_lt_zero, nneg, nneg2, nlt, nle, neq, nI_add, pk_mul, nsub, ncl, nin, and_true, true_and, not_true_eq_false, not_false_eq_true, ↓reduceIte, Nat.reduceAdd, if_neg, if_pos]
    · simp (disch := omega) only [P_X8_isAsk, isOwner_ry h1, isThing_rn r0 hn h2, Nat.not_lt_zero, nneg, nneg2, nlt, nle, neq, nI_add, pk_mul, nsub, ncl, nin, and_true, true_and, not_true_eq_false, not_false_eq_true, ↓reduceIte, Nat.reduceAdd, if_neg, if_pos]
  · simp (disch := omega) only [P_X8_isAsk, isOwner_rn h1, Nat.not_lt_zero, nneg, nneg2, nlt, nle, neq, nI_add, pk_mul, nsub, ncl, nin, and_true, true_and, not_true_eq_false, not_false_eq_true, ↓reduceIte, Nat.reduceAdd, if_neg, if_pos]
def bn (x : Bool) : Int32 := nI (if x then 1 else 0)
theorem barAt_e {F o t m : Nat} {K : Int32 → AH → Prop} (hR : RG 57 n W B C ln pl h) (hn : n ≤ 12) (hb : ∀ t o m, C t o m < 2147483648) (hFu : 20 ≤ F) (ho : o < 6) (ht : t < n) (hm1 : 1 ≤ m) (hm : m ≤ 5) : P_X8_isBarredAt F (nI o) (nI t) (nI m) h K = K (bn (hcl C t m o)) h := by
  obtain ⟨r0, rW, rB, rC, -⟩ := hR
  unfold P_X8_isBarredAt
  have st : ∀ N k, 1 ≤ k → k ≤ 5 → X8_isBarredAt_c3 F K (N + 1) (nI o) (nI t) (nI m) (nI k) h = (if (decide (0 < C t o k) && cl m k) = true then K (nI 1) h else X8_isBarredAt_c3 F K N (nI o) (nI t) (nI m) (nI (k + 1)) h) := by
    intro N k hk1 hk
    have hbk := hb t o k
    rw [X8_isBarredAt_c3_s]
    simp (disch := omega) only [Nat.not_lt_zero, nneg, nneg2, nlt, nle, neq, nI_add, pk_mul, nsub, ncl, nin, and_true, true_and, not_true_eq_false, not_false_eq_true, ↓reduceIte, Nat.reduceAdd, if_pos, if_neg, P_X8_at, rC, X8_isBarredAt_c35]
    by_cases e : C t o k ≤ 0
    · rw [if_pos e]
      have : (decide (0 < C t o k) && cl m k) = false := by simp; omega
      rw [this, if_neg (by simp)]
    · rw [if_neg e, goT_e hm1 hm hk1 hk]
      have e2 : decide (0 < C t o k) = true := by simp; omega
      rw [e2, Bool.true_and]
      cases cl m k <;> simp (disch := omega) only [Nat.not_lt_zero, nneg, nneg2, nlt, nle, neq, nI_add, pk_mul, nsub, ncl, nin, and_true, true_and, not_true_eq_false, not_false_eq_true, ↓reduceIte, Nat.reduceAdd, if_pos, if_neg, if_true, if_false, Bool.false_eq_true]
  obtain ⟨f, hf⟩ : ∃ f, F = f + 6 := ⟨F - 6, by omega⟩
  have key : ∀ f, X8_isBarredAt_c3 F K (f + 6) (nI o) (nI t) (nI m) (nI 1) h = K (bn (hcl C t m o)) h := by
    intro f
    rw [st (f + 5) 1 (by omega) (by omega), st (f + 4) 2 (by omega) (by omega), st (f + 3) 3 (by omega) (by omega), st (f + 2) 4 (by omega) (by omega), st (f + 1) 5 (by omega) (by omega), X8_isBarredAt_c3_s]
    simp (disch := omega) only [Nat.not_lt_zero, nneg, nneg2, nlt, nle, neq, nI_add, pk_mul, nsub, ncl, nin, and_true, true_and, not_true_eq_false, not_false_eq_true, ↓reduceIte, Nat.reduceAdd, if_pos, if_neg]
    unfold hcl bn
    cases (decide (0 < C t o 1) && cl m 1) <;> cases (decide (0 < C t o 2) && cl m 2) <;> cases (decide (0 < C t o 3) && cl m 3) <;> cases (decide (0 < C t o 4) && cl m 4) <;> cases (decide (0 < C t o 5) && cl m 5) <;> simp
  have := key f
  rw [← hf] at this
  exact this
theorem above_e {F m : Nat} {K : Int32 → AH → Prop} (hm : m = 2 ∨ m = 4 ∨ m = 5) : P_X8_above F (nI m) h K = K (nI (ab m)) h := by
  unfold P_X8_above
  rcases hm with rfl | rfl | rfl <;> simp (disch := omega) only [Nat.not_lt_zero, nneg, nneg2, nlt, nle, neq, nI_add, pk_mul, nsub, ncl, nin, and_true, true_and, not_true_eq_false, not_false_eq_true, ↓reduceIte, Nat.reduceAdd, if_pos, if_neg, ab]
theorem bn_t {K : Int32 → AH → Prop} {x : Bool} : K (bn x) h = if x = true then K (nI 1) h else K (nI 0) h := by cases x <;> rfl
theorem isB_l {F o m : Nat} {K : Int32 → AH → Prop} (hR : RG 57 n W B C ln pl h) (hW : ∀ t, t < n → W t ≤ t) (hn : n ≤ 12) (hb : ∀ t o m, C t o m < 2147483648) (hFu : 20 ≤ F) (ho : o < 6) (hm : m = 2 ∨ m = 4 ∨ m = 5) : ∀ (f N c : Nat), c ≤ f → c ≤ n → f + 1 ≤ N → X8_isBarred_c22 F K N (nI m) (nI o) (wI c) h = K (bn ((ch W f c).any (fun w => hcl C w (ab m) o))) h := by
  intro f
  induction f with
  | zero =>
    intro N c hc _ hN
    obtain ⟨N, rfl⟩ : ∃ k, N = k + 1 := ⟨N - 1, by omega⟩
    have : c = 0 := by omega
    subst this
    rw [X8_isBarred_c22_s, wI_0, if_pos rfl]
    rfl
  | succ f ih =>
    intro N c hc hcn hN
    obtain ⟨N, rfl⟩ : ∃ k, N = k + 1 := ⟨N - 1, by omega⟩
    rw [X8_isBarred_c22_s]
    cases c with
    | zero =>
      rw [wI_0, if_pos rfl]
      rfl
    | succ c =>
      have hab := ab_b m
      have hwc := hW c (by omega)
      have rW := hR.2.1 c (by omega)
      rw [wI_s]
      simp (disch := omega) only [Nat.not_lt_zero, nneg, nneg2, nlt, nle, neq, nI_add, pk_mul, nsub, ncl, nin, and_true, true_and, not_true_eq_false, not_false_eq_true, ↓reduceIte, Nat.reduceAdd]
      rw [above_e hm, barAt_e hR hn hb hFu ho (by omega) hab.1 hab.2]
      simp only [ch, List.any_cons]
      cases e : hcl C c (ab m) o with
      | true => simp (disch := omega) only [bn, if_true, Nat.not_lt_zero, nneg, nneg2, nlt, nle, neq, nI_add, pk_mul, nsub, ncl, nin, and_true, true_and, not_true_eq_false, not_false_eq_true, ↓reduceIte, Nat.reduceAdd, if_pos, if_neg, Bool.true_or]
      | false =>
        simp (disch := omega) only [bn, Bool.false_eq_true, if_false, Nat.not_lt_zero, nneg, nneg2, nlt, nle, neq, nI_add, pk_mul, nsub, ncl, nin, and_true, true_and, not_true_eq_false, not_false_eq_true, ↓reduceIte, Nat.reduceAdd, if_pos, if_neg, Bool.false_or, rW]
        rw [ih N (W c) (by omega) (by omega) (by omega)]
        rfl
theorem isB_e {F o t m : Nat} {K : Int32 → AH → Prop} (hR : RG 57 n W B C ln pl h) (hW : ∀ t, t < n → W t ≤ t) (hn : n ≤ 12) (hb : ∀ t o m, C t o m < 2147483648) (hFu : 20 ≤ F) (ho : o < 6) (ht : t < n) (hm : m = 2 ∨ m = 4 ∨ m = 5) : P_X8_isBarred F (nI t) (nI m) (nI o) h K = K (bn (brd W C t m o)) h := by
  have hwc := hW t ht
  have rW := hR.2.1 t ht
  unfold P_X8_isBarred
  rw [barAt_e hR hn hb hFu ho ht (by omega) (by omega)]
  unfold brd
  cases e : hcl C t m o with
  | true => simp (disch := omega) only [bn, if_true, Nat.not_lt_zero, nneg, nneg2, nlt, nle, neq, nI_add, pk_mul, nsub, ncl, nin, and_true, true_and, not_true_eq_false, not_false_eq_true, ↓reduceIte, Nat.reduceAdd, if_pos, if_neg, Bool.true_or]
  | false =>
    simp (disch := omega) only [bn, Bool.false_eq_true, if_false, Nat.not_lt_zero, nneg, nneg2, nlt, nle, neq, nI_add, pk_mul, nsub, ncl, nin, and_true, true_and, not_true_eq_false, not_false_eq_true, ↓reduceIte, Nat.reduceAdd, if_pos, if_neg, Bool.false_or, rW]
    rw [isB_l hR hW hn hb hFu ho hm 12 F (W t) (by omega) (by omega) (by omega)]
    rfl
theorem isR_e {F o t : Nat} {K : Int32 → AH → Prop} (hR : RG 57 n W B C ln pl h) (hn : n ≤ 12) (hb : ∀ t o m, C t o m < 2147483648) (ho : o < 6) (ht : t < n) : P_X8_isRaise F (nI o) (nI t) h K = K (bn (rai C o t)) h := by
  obtain ⟨r0, rW, rB, rC, -⟩ := hR
  have h2 := hb t o 2
  have h4 := hb t o 4
  have h5 := hb t o 5
  unfold P_X8_isRaise rai
  simp (disch := omega) only [Nat.not_lt_zero, nneg, nneg2, nlt, nle, neq, nI_add, pk_mul, nsub, ncl, nin, and_true, true_and, not_true_eq_false, not_false_eq_true, ↓reduceIte, Nat.reduceAdd, if_pos, if_neg, P_X8_at, rC]
  by_cases e2 : 0 < C t o 2
  · simp [e2, bn]
  · by_cases e4 : 0 < C t o 4
    · simp [e2, e4, bn]
    · by_cases e5 : 0 < C t o 5
      · have : ¬ C t o 5 ≤ 0 := by omega
        simp [e2, e4, e5, bn]
        intro z
        omega
      · have : C t o 5 ≤ 0 := by omega
        simp [e2, e4, e5, bn]
        intro z
        omega
end RA
