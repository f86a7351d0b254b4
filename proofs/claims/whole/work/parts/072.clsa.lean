/-! the class's table: what it tells, and what an ask is hindered by -/
theorem isOwner_y {F : Nat} {x : Int32} {h : AH} {K : Int32 → AH → Prop} (hx : inr x 6) : P_X7_isOwner F x h K = K (nI 1) h := by
  obtain ⟨k, hk, rfl⟩ := hx
  simp (disch := omega) only [P_X7_isOwner, Nat.not_lt_zero, nneg, nneg2, nlt, nle, neq, nI_add, pk_mul, nsub, ncl, nin, and_true, true_and, not_true_eq_false, not_false_eq_true, ↓reduceIte, Nat.reduceAdd, if_neg, if_pos]
theorem isOwner_n {F : Nat} {x : Int32} {h : AH} {K : Int32 → AH → Prop} (hx : ¬ inr x 6) : P_X7_isOwner F x h K = K (nI 0) h := by
  rcases inr_not hx with q | ⟨k, h1, h2, rfl⟩
  · simp only [P_X7_isOwner, q, if_true]
  · simp (disch := omega) only [P_X7_isOwner, Nat.not_lt_zero, nneg, nneg2, nlt, nle, neq, nI_add, pk_mul, nsub, ncl, nin, and_true, true_and, not_true_eq_false, not_false_eq_true, ↓reduceIte, Nat.reduceAdd, if_neg, if_pos]
theorem isThing_y {F b n : Nat} {x : Int32} {h : AH} {K : Int32 → AH → Prop} (r0 : h b 0 = nI n) (hn : n ≤ 12) (hx : inr x n) : P_X5_isThing F b x h K = K (nI 1) h := by
  obtain ⟨k, hk, rfl⟩ := hx
  simp (disch := omega) only [P_X5_isThing, r0, Nat.not_lt_zero, nneg, nneg2, nlt, nle, neq, nI_add, pk_mul, nsub, ncl, nin, and_true, true_and, not_true_eq_false, not_false_eq_true, ↓reduceIte, Nat.reduceAdd, if_neg, if_pos]
theorem isThing_n {F b n : Nat} {x : Int32} {h : AH} {K : Int32 → AH → Prop} (r0 : h b 0 = nI n) (hn : n ≤ 12) (hx : ¬ inr x n) : P_X5_isThing F b x h K = K (nI 0) h := by
  rcases inr_not hx with q | ⟨k, h1, h2, rfl⟩
  · simp only [P_X5_isThing, q, if_true]
  · simp (disch := omega) only [P_X5_isThing, r0, Nat.not_lt_zero, nneg, nneg2, nlt, nle, neq, nI_add, pk_mul, nsub, ncl, nin, and_true, true_and, not_true_eq_false, not_false_eq_true, ↓reduceIte, Nat.reduceAdd, if_neg, if_pos]
def isA (n : Nat) (o t m : Int32) : Prop := inr o 6 ∧ inr t n ∧ (m = nI 2 ∨ m = nI 4 ∨ m = nI 5)
theorem isA_of {n : Nat} {o t m : Int32} (h : isA n o t m) : ∃ q : Nat × Nat × Nat, vq n q ∧ o = nI q.1 ∧ t = nI q.2.1 ∧ m = nI q.2.2 := by
  obtain ⟨⟨o, ho, rfl⟩, ⟨t, ht, rfl⟩, rfl | rfl | rfl⟩ := h
  · exact ⟨(o, t, 2), ⟨ho, ht, Or.inl rfl⟩, rfl, rfl, rfl⟩
  · exact ⟨(o, t, 4), ⟨ho, ht, Or.inr (Or.inl rfl)⟩, rfl, rfl, rfl⟩
  · exact ⟨(o, t, 5), ⟨ho, ht, Or.inr (Or.inr rfl)⟩, rfl, rfl, rfl⟩
theorem isA_vq {n : Nat} {q : Nat × Nat × Nat} (h : vq n q) : isA n (nI q.1) (nI q.2.1) (nI q.2.2) := ⟨⟨_, h.1, rfl⟩, ⟨_, h.2.1, rfl⟩, by rcases h.2.2 with e | e | e <;> rw [e] <;> simp⟩
theorem isAsk_y {F b n : Nat} {o t m : Int32} {h : AH} {K : Int32 → AH → Prop} (r0 : h b 0 = nI n) (hn : n ≤ 12) (hx : isA n o t m) : P_X5_isAsk F b o t m h K = K (nI 1) h := by
  obtain ⟨h1, h2, h3⟩ := hx
  simp (disch := omega) only [P_X5_isAsk, isOwner_y h1, isThing_y r0 hn h2, Nat.not_lt_zero, nneg, nneg2, nlt, nle, neq, nI_add, pk_mul, nsub, ncl, nin, and_true, true_and, not_true_eq_false, not_false_eq_true, ↓reduceIte, Nat.reduceAdd, if_neg, if_pos]
  rcases h3 with rfl | rfl | rfl <;> simp (disch := omega) only [Nat.not_lt_zero, nneg, nneg2, nlt, nle, neq, nI_add, pk_mul, nsub, ncl, nin, and_true, true_and, not_true_eq_false, not_false_eq_true, ↓reduceIte, Nat.reduceAdd, if_neg, if_pos]
theorem isAsk_n {F b n : Nat} {o t m : Int32} {h : AH} {K : Int32 → AH → Prop} (r0 : h b 0 = nI n) (hn : n ≤ 12) (hx : ¬ isA n o t m) : P_X5_isAsk F b o t m h K = K (nI 0) h := by
  by_cases h1 : inr o 6
  · by_cases h2 : inr t n
    · have h3 : ¬ (m = nI 2 ∨ m = nI 4 ∨ m = nI 5) := fun q => hx ⟨h1, h2, q⟩
      have h4 : ¬ m = nI 2 := fun q => h3 (Or.inl q)
      have h5 : ¬ m = nI 4 := fun q => h3 (Or.inr (Or.inl q))
      have h6 : ¬ m = nI 5 := fun q => h3 (Or.inr (Or.inr q))
      simp (disch := omega) only [P_X5_isAsk, isOwner_y h1, isThing_y r0 hn h2, Nat.not_lt_zero, nneg, nneg2, nlt, nle, neq, nI_add, pk_mul, nsub, ncl, nin, and_true, true_and, not_true_eq_false, not_false_eq_true, ↓reduceIte, Nat.reduceAdd, if_neg, if_pos, h4, h5, h6]
    · simp (disch := omega) only [P_X5_isAsk, isOwner_y h1, isThing_n r0 hn h2, Nat.not_lt_zero, nneg, nneg2, nlt, nle, neq, nI_add, pk_mul, nsub, ncl, nin, and_true, true_and, not_true_eq_false, not_false_eq_true, ↓reduceIte, Nat.reduceAdd, if_neg, if_pos]
  · simp (disch := omega) only [P_X5_isAsk, isOwner_n h1, Nat.not_lt_zero, nneg, nneg2, nlt, nle, neq, nI_add, pk_mul, nsub, ncl, nin, and_true, true_and, not_true_eq_false, not_false_eq_true, ↓reduceIte, Nat.reduceAdd, if_neg, if_pos]
theorem hasBit_e {F s o : Nat} {h : AH} {K : Int32 → AH → Prop} (hs : s < 2147483648) (ho : o < 12) : P_X7_hasBit F (nI s) (nI o) h K = K (nI (if s.testBit o then 1 else 0)) h := by
  unfold P_X7_hasBit
  rw [bget hs ho]
  cases s.testBit o <;> simp (disch := omega) only [Nat.not_lt_zero, nneg, nneg2, nlt, nle, neq, nI_add, pk_mul, nsub, ncl, nin, and_true, true_and, not_true_eq_false, not_false_eq_true, ↓reduceIte, Nat.reduceAdd, if_neg, if_pos, if_true, if_false, Bool.false_eq_true]
section CA
variable {b n : Nat} {W B : Nat → Nat} {C : CT} {ln pl : LN} {g : Nat} {h : AH}
theorem waiting_n {F o : Nat} {K : Int32 → AH → Prop} (hR : RC b n W B C ln pl g h) (ho : o < 6) (hq : ∀ q ∈ ln, q.1 ≠ o) : P_X5_isWaiting F b (nI o) h K = K (nI 0) h := by
  obtain ⟨-, -, -, -, -, -, -, -, rz, -⟩ := hR
  simp (disch := omega) only [P_X5_isWaiting, Nat.not_lt_zero, nneg, nneg2, nlt, nle, neq, nI_add, pk_mul, nsub, ncl, nin, and_true, true_and, not_true_eq_false, not_false_eq_true, ↓reduceIte, Nat.reduceAdd, if_neg, if_pos, rz o ho hq]
theorem waiting_y {F : Nat} {q : Nat × Nat × Nat} {K : Int32 → AH → Prop} (hR : RC b n W B C ln pl g h) (hv : vq n q) (hq : q ∈ ln) : P_X5_isWaiting F b (nI q.1) h K = K (nI 1) h := by
  obtain ⟨-, -, -, -, -, -, -, ra, -, -⟩ := hR
  have ho := hv.1
  have hm := hv.2.2
  simp (disch := omega) only [P_X5_isWaiting, Nat.not_lt_zero, nneg, nneg2, nlt, nle, neq, nI_add, pk_mul, nsub, ncl, nin, and_true, true_and, not_true_eq_false, not_false_eq_true, ↓reduceIte, Nat.reduceAdd, if_neg, if_pos, (ra q hq).2]
theorem sub1_add {a m : Nat} (hm : 1 ≤ m) : nI a - nI 1 + nI m = nI (a + m - 1) := by
  obtain ⟨j, rfl⟩ : ∃ j, m = j + 1 := ⟨m - 1, by omega⟩
  rw [show a + (j + 1) - 1 = a + j by omega, ← nI_add a j, ← nI_add j 1, Int32.add_comm (nI j) (nI 1), ← Int32.add_assoc, Int32.sub_add_cancel]
theorem isRaise_e {F o t : Nat} {K : Int32 → AH → Prop} (hR : RC b n W B C ln pl g h) (ho : o < 6) (ht : t < 12) : P_X5_isRaise F b (nI o) (nI t) h K = K (nI (if rai C o t then 1 else 0)) h := by
  obtain ⟨-, -, -, -, rH, -⟩ := hR
  simp (disch := omega) only [P_X5_isRaise, Nat.not_lt_zero, nneg, nneg2, nlt, nle, neq, nI_add, pk_mul, nsub, ncl, nin, and_true, true_and, not_true_eq_false, not_false_eq_true, ↓reduceIte, Nat.reduceAdd, sub1_add, if_neg, if_pos, rH, bor, mk6_or]
  rw [bget (Nat.lt_trans (mk6_lt _) (by omega)) (by omega), mk6_tb _ ho]
  unfold rai
  cases (decide (0 < C t o 2) || decide (0 < C t o 4) || decide (0 < C t o 5)) <;> simp (disch := omega) only [Nat.not_lt_zero, nneg, nneg2, nlt, nle, neq, nI_add, pk_mul, nsub, ncl, nin, and_true, true_and, not_true_eq_false, not_false_eq_true, ↓reduceIte, Nat.reduceAdd, if_neg, if_pos, if_true, if_false, Bool.false_eq_true]
theorem tCL_in : ∀ m, m < 6 → vp_in (nI m) 6 = True := fun m hm => nin hm (by omega)
/-- the inner loop: the modes at one thing -/
theorem bar_in {F N a m up : Nat} {x1 x3 : Int32} {s : Nat} {rc12 : Int32 → Int32 → Int32 → Int32 → Int32 → Int32 → AH → Prop} {K : Int32 → AH → Prop} (hR : RC b n W B C ln pl g h) (hN : 6 ≤ N) (ha : a < 12) (hm1 : 1 ≤ m) (hm : m ≤ 5) :
    X5_barring_c35 F b rc12 K N x1 x3 (nI s) (nI a) (nI m) (nI up) (nI (a * 5) - nI 1) (nI 1) h = (vp_in (nI a) 12 ∧ (vp_in x3 6 ∧ (rc12 x1 x3 (nI (s ||| mk6 (hcl C a m))) (h (b + 1) a) (tMA x3.toNatClampNeg) (nI (up + 1)) h))) := by
  obtain ⟨f, rfl⟩ : ∃ f, N = f + 6 := ⟨N - 6, by omega⟩
  obtain ⟨-, -, -, -, rH, -⟩ := hR
  have e0 : ∀ k, 1 ≤ k → k ≤ 5 → ∀ (z : Nat) (N : Nat), X5_barring_c35 F b rc12 K (N + 1) x1 x3 (nI z) (nI a) (nI m) (nI up) (nI (a * 5) - nI 1) (nI k) h = X5_barring_c35 F b rc12 K N x1 x3 (nI (z ||| mk6 (fun o => decide (0 < C a o k) && cl m k))) (nI a) (nI m) (nI up) (nI (a * 5) - nI 1) (nI (k + 1)) h := by
    intro k hk1 hk z N
    rw [X5_barring_c35_s]
    simp (disch := omega) only [Nat.not_lt_zero, nneg, nneg2, nlt, nle, neq, nI_add, pk_mul, nsub, ncl, nin, and_true, true_and, not_true_eq_false, not_false_eq_true, ↓reduceIte, Nat.reduceAdd, if_neg, if_pos, sub1_add, rH, bor, X5_barring_c70]
    simp only [cl_t m (show m < 6 by omega) hm1 k (show k < 6 by omega) hk1]
    cases hc : cl m k with
    | false =>
      have e : mk6 (fun o => decide (0 < C a o k) && false) = 0 := by
        rw [← mk6_0]
        exact mk6_cong (fun o _ => by simp)
      simp only [if_true, e, Nat.or_zero]
    | true =>
      have e : (fun o => decide (0 < C a o k) && true) = (fun o => decide (0 < C a o k)) := by
        funext o
        simp
      simp (disch := omega) only [Bool.true_eq_false, if_false, e, Nat.not_lt_zero, nneg, nneg2, nlt, nle, neq, nI_add, pk_mul, nsub, ncl, nin, and_true, true_and, not_true_eq_false, not_false_eq_true, ↓reduceIte, Nat.reduceAdd]
  rw [show f + 6 = f + 1 + 1 + 1 + 1 + 1 + 1 by omega, e0 1 (by omega) (by omega), e0 2 (by omega) (by omega), e0 3 (by omega) (by omega), e0 4 (by omega) (by omega), e0 5 (by omega) (by omega)]
  rw [X5_barring_c35_s]
  simp (disch := omega) only [Nat.not_lt_zero, nneg, nneg2, nlt, nle, neq, nI_add, pk_mul, nsub, ncl, nin, and_true, true_and, not_true_eq_false, not_false_eq_true, ↓reduceIte, Nat.reduceAdd, if_pos, if_neg]
  simp only [Nat.or_assoc, mk6_or]
  rfl
end CA
