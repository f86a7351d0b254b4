/-! what is told of the state -/
theorem wI_eq {c t : Nat} (hc : c ≤ 12) (ht : t < 12) : (wI c = nI t) = (c = t + 1) := by
  cases c with
  | zero =>
    rw [wI_0]
    refine propext ⟨fun e => ?_, fun e => by omega⟩
    exact absurd e.symm (of_eq_false (nneg (k := t) (by omega)))
  | succ c =>
    rw [wI_s]
    refine propext ⟨fun e => ?_, fun e => ?_⟩
    · have := (nI_eq (by omega) (by omega)).mp e
      omega
    · have : c = t := by omega
      rw [this]
theorem wI_m1 {c : Nat} (hc : c ≤ 12) : (wI c = -1) = (c = 0) := by
  cases c with
  | zero => simp [wI_0]
  | succ c =>
    rw [wI_s, nneg (by omega)]
    simp
theorem wI_lt {c : Nat} (hc : c ≤ 12) : (wI c < nI 0) = (c = 0) := by
  cases c with
  | zero => rw [wI_0]; simp; decide
  | succ c =>
    rw [wI_s, nlt (by omega) (by omega)]
    simp
def hbt (C : CT) (t m o : Nat) : Nat → Nat → Bool
  | 0, _ => false
  | d + 1, k => ((m == 0 || m == k) && decide (0 < C t o k)) || hbt C t m o d (k + 1)
def orTo (f : Nat → Bool) : Nat → Nat
  | 0 => 0
  | i + 1 => orTo f i ||| (if f i = true then 2 ^ i else 0)
theorem orTo_lt (f : Nat → Bool) : ∀ i, i ≤ 12 → orTo f i < 4096
  | 0, _ => by unfold orTo; omega
  | i + 1, h => by
    unfold orTo
    refine Nat.or_lt_two_pow (n := 12) (orTo_lt f i (by omega)) ?_
    split
    · exact Nat.pow_lt_pow_right (by omega) (by omega)
    · omega
theorem orTo_6 (f : Nat → Bool) : orTo f 6 = mk6 f := by
  have : ∀ i, i ≤ 6 → orTo f i = mk6 (fun j => decide (j < i) && f j) := by
    intro i
    induction i with
    | zero => intro _; rw [mk6_s0]; rfl
    | succ i ih =>
      intro h
      rw [orTo, ih (by omega), mk6_st f (by omega)]
  rw [this 6 (by omega), mk6_s6]
theorem orTo_z {f : Nat → Bool} : ∀ i, (∀ p, p < i → f p = false) → orTo f i = 0
  | 0, _ => rfl
  | i + 1, h => by
    unfold orTo
    rw [orTo_z i (fun p hp => h p (by omega)), h i (by omega)]
    simp
section CB
variable {n : Nat} {W B : Nat → Nat} {C : CT} {ln pl : LN} {h : AH} {F : Nat} {K : Int32 → AH → Prop}
theorem hold_in {rc24 : Int32 → Int32 → Int32 → Int32 → AH → Prop} {t m o : Nat} (hR : RG 57 n W B C ln pl h) (hn : n ≤ 12) (hb : ∀ t o m, C t o m < 2147483648) (ht : t < n) (ho : o < 6) (hm : m ≤ 5) : ∀ (d N k s : Nat), k + d = 6 → 1 ≤ k → d + 1 ≤ N → (s ||| 2 ^ o ||| 2 ^ o = s ||| 2 ^ o) →
    X8_holders_c34 F rc24 K N (nI t) (nI m) (nI s) (nI o) (nI k) h = rc24 (nI t) (nI m) (nI (s ||| (if hbt C t m o d k = true then 2 ^ o else 0))) (nI (o + 1)) h := by
  obtain ⟨r0, rW, rB, rC, -⟩ := hR
  intro d
  induction d with
  | zero =>
    intro N k s h1 h2 h3 h4
    obtain ⟨N, rfl⟩ : ∃ k, N = k + 1 := ⟨N - 1, by omega⟩
    have : k = 6 := by omega
    subst this
    rw [X8_holders_c34_s]
    simp (disch := omega) only [Nat.not_lt_zero, nneg, nneg2, nlt, nle, neq, nI_add, pk_mul, nsub, ncl, nin, and_true, true_and, not_true_eq_false, not_false_eq_true, ↓reduceIte, Nat.reduceAdd, if_pos, if_neg, hbt, Bool.false_eq_true, Nat.or_zero]
  | succ d ih =>
    intro N k s h1 h2 h3 h4
    obtain ⟨N, rfl⟩ : ∃ k, N = k + 1 := ⟨N - 1, by omega⟩
    have hb2 := hb t o k
    have ihn := ih N (k + 1) s (by omega) (by omega) (by omega) h4
    have ihy := ih N (k + 1) (s ||| 2 ^ o) (by omega) (by omega) (by omega) (by rw [h4, h4])
    have ey : s ||| 2 ^ o ||| (if hbt C t m o d (k + 1) = true then 2 ^ o else 0) = s ||| 2 ^ o := by
      split
      · exact h4
      · simp
    rw [ey] at ihy
    rw [X8_holders_c34_s]
    by_cases e : m = 0 ∨ m = k
    · have e2 : (m == 0 || m == k) = true := by rcases e with e | e <;> simp [e]
      have core : X8_holders_c51 F rc24 (X8_holders_c34 F rc24 K N) K (nI t) (nI m) (nI o) (nI k) (nI s) h = rc24 (nI t) (nI m) (nI (s ||| (if hbt C t m o (d + 1) k = true then 2 ^ o else 0))) (nI (o + 1)) h := by
        unfold hbt
        rw [e2]
        by_cases e3 : 0 < C t o k
        · simp (disch := omega) only [X8_holders_c51, P_X8_at, Nat.not_lt_zero, nneg, nneg2, nlt, nle, neq, nI_add, pk_mul, nsub, ncl, nin, and_true, true_and, not_true_eq_false, not_false_eq_true, ↓reduceIte, Nat.reduceAdd, if_pos, if_neg, rC, X8_holders_c75, e3, decide_true, Bool.true_or]
          rw [bsh1 o (by omega), bor]
          exact ihy
        · have e4 : C t o k = 0 := by omega
          simp (disch := omega) only [X8_holders_c51, P_X8_at, Nat.not_lt_zero, nneg, nneg2, nlt, nle, neq, nI_add, pk_mul, nsub, ncl, nin, and_true, true_and, not_true_eq_false, not_false_eq_true, ↓reduceIte, Nat.reduceAdd, if_pos, if_neg, rC, X8_holders_c75, X8_holders_c74, e4, Nat.lt_irrefl, decide_false, Bool.true_and, Bool.false_or, bor, Nat.or_zero, Nat.le_refl]
          exact ihn
      rcases e with e | e
      · subst e
        simp (disch := omega) only [Nat.not_lt_zero, nneg, nneg2, nlt, nle, neq, nI_add, pk_mul, nsub, ncl, nin, and_true, true_and, not_true_eq_false, not_false_eq_true, ↓reduceIte, Nat.reduceAdd, if_pos, if_neg]
        exact core
      · subst e
        simp (disch := omega) only [Nat.not_lt_zero, nneg, nneg2, nlt, nle, neq, nI_add, pk_mul, nsub, ncl, nin, and_true, true_and, not_true_eq_false, not_false_eq_true, ↓reduceIte, Nat.reduceAdd, if_pos, if_neg]
        exact core
    · have e2 : (m == 0 || m == k) = false := by simp; omega
      unfold hbt
      rw [e2]
      have e5 : ¬ m = 0 := fun z => e (Or.inl z)
      have e6 : ¬ m = k := fun z => e (Or.inr z)
      simp (disch := omega) only [Nat.not_lt_zero, nneg, nneg2, nlt, nle, neq, nI_add, pk_mul, nsub, ncl, nin, and_true, true_and, not_true_eq_false, not_false_eq_true, ↓reduceIte, Nat.reduceAdd, if_pos, if_neg, e5, e6, X8_holders_c74, X8_holders_c75, bor, Nat.or_zero, Bool.false_and, Bool.false_or]
      exact ihn
theorem or_self2 (s p : Nat) : s ||| p ||| p = s ||| p := by rw [Nat.or_assoc, Nat.or_self]
theorem hold_l {t m : Nat} (hR : RG 57 n W B C ln pl h) (hn : n ≤ 12) (hb : ∀ t o m, C t o m < 2147483648) (hFu : 20 ≤ F) (ht : t < n) (hm : m ≤ 5) : ∀ (d N o : Nat), o + d = 6 → d + 1 ≤ N →
    X8_holders_c24 F K N (nI t) (nI m) (nI (orTo (fun o => hbt C t m o 5 1) o)) (nI o) h = K (nI (mk6 (fun o => hbt C t m o 5 1))) h := by
  intro d
  induction d with
  | zero =>
    intro N o h1 h2
    obtain ⟨N, rfl⟩ : ∃ k, N = k + 1 := ⟨N - 1, by omega⟩
    have : o = 6 := by omega
    subst this
    rw [X8_holders_c24_s]
    simp (disch := omega) only [Nat.not_lt_zero, nneg, nneg2, nlt, nle, neq, nI_add, pk_mul, nsub, ncl, nin, and_true, true_and, not_true_eq_false, not_false_eq_true, ↓reduceIte, Nat.reduceAdd, if_pos, if_neg, orTo_6]
  | succ d ih =>
    intro N o h1 h2
    obtain ⟨N, rfl⟩ : ∃ k, N = k + 1 := ⟨N - 1, by omega⟩
    have ih2 := ih N (o + 1) (by omega) (by omega)
    rw [X8_holders_c24_s]
    simp (disch := omega) only [Nat.not_lt_zero, nneg, nneg2, nlt, nle, neq, nI_add, pk_mul, nsub, ncl, nin, and_true, true_and, not_true_eq_false, not_false_eq_true, ↓reduceIte, Nat.reduceAdd, if_pos, if_neg]
    rw [hold_in hR hn hb ht (by omega) hm 5 F 1 _ (by omega) (by omega) (by omega) (or_self2 _ _)]
    unfold orTo at ih2
    exact ih2
theorem hany_l {b t : Nat} {g : Nat} (hR : RC b n W B C ln pl g h) (ht : t < 12) : ∀ (d N k s : Nat), k + d = 6 → 1 ≤ k → d + 1 ≤ N →
    X5_holdersInAny_c4 F b K N (nI t) (nI s) (nI k) h = K (nI (s ||| mk6 (fun o => hbt C t 0 o d k))) h := by
  obtain ⟨r0, rW, rB, rC, rH, -⟩ := hR
  intro d
  induction d with
  | zero =>
    intro N k s h1 h2 h3
    obtain ⟨N, rfl⟩ : ∃ k, N = k + 1 := ⟨N - 1, by omega⟩
    have : k = 6 := by omega
    subst this
    rw [X5_holdersInAny_c4_s]
    have e : mk6 (fun o => hbt C t 0 o 0 6) = 0 := mk6_0
    simp (disch := omega) only [Nat.not_lt_zero, nneg, nneg2, nlt, nle, neq, nI_add, pk_mul, nsub, ncl, nin, and_true, true_and, not_true_eq_false, not_false_eq_true, ↓reduceIte, Nat.reduceAdd, if_pos, if_neg, e, Nat.or_zero]
  | succ d ih =>
    intro N k s h1 h2 h3
    obtain ⟨N, rfl⟩ : ∃ k, N = k + 1 := ⟨N - 1, by omega⟩
    rw [X5_holdersInAny_c4_s]
    simp (disch := omega) only [Nat.not_lt_zero, nneg, nneg2, nlt, nle, neq, nI_add, pk_mul, nsub, ncl, nin, and_true, true_and, not_true_eq_false, not_false_eq_true, ↓reduceIte, Nat.reduceAdd, if_pos, if_neg, P_X5_row, rH, bor]
    rw [ih N (k + 1) _ (by omega) (by omega) (by omega), Nat.or_assoc, mk6_or]
    rfl
end CB
section CB2
variable {m F : Nat} {h : AH} {G Z : AH → Prop} {x y z : Int32}
theorem call_holders (hFu : 500 ≤ F) (hI : INV m h) (hm : m < 513) (kk : ∀ h', INV (m + 1) h' → G h') : P_X7_holders F x y h (fun r h1 => P_X8_holders F x y h1 (fun r' h3 => if r = r' then G h3 else Z h3)) := by
  obtain ⟨c, l, n, W, B, C, ln, pl, g, hs⟩ := hI
  have hc := ST_c hs
  have hn := hs.2.2.1.1
  have hb : ∀ t o m, C t o m < 2147483648 := fun t o m => by have := hs.2.2.1.2.2.2.2.1 t o m; omega
  have done := kk _ (INV_s hs hm)
  unfold P_X7_holders P_X8_holders
  by_cases hx : inr x n
  · rw [isThing_y hs.1.1 hn hx]
    by_cases hy : ins y 0 5
    · have e1 := hx
      have e2 := hy
      obtain ⟨t, ht, rfl⟩ := hx
      obtain ⟨k, hk1, hk2, rfl⟩ := hy
      have hr : X8_holders_c24 F (fun r' h3 => if nI (mk6 (fun o => hbt C t k o 5 1)) = r' then G h3 else Z h3) F (nI t) (nI k) (nI 0) (nI 0) h := by
        have := hold_l (F := F) (K := fun r' h3 => if nI (mk6 (fun o => hbt C t k o 5 1)) = r' then G h3 else Z h3) hs.2.1.1 hn hb (by omega) ht hk2 6 F 0 (by omega) (by omega)
        rw [orTo] at this
        rw [this, if_pos rfl]
        exact done
      by_cases e0 : k = 0
      · subst e0
        simp (disch := omega) only [Nat.not_lt_zero, nneg, nneg2, nlt, nle, neq, nI_add, pk_mul, nsub, ncl, nin, and_true, true_and, not_true_eq_false, not_false_eq_true, ↓reduceIte, Nat.reduceAdd, if_pos, if_neg, P_X5_holdersInAny]
        rw [hany_l hs.1 (by omega) 5 F 1 0 (by omega) (by omega) (by omega), Nat.zero_or]
        simp (disch := omega) only [isThing_ry hs.2.1.1.1 hn e1, inA_y (a := 0) (b := 5) (by omega) e2, Nat.not_lt_zero, nneg, nneg2, nlt, nle, neq, nI_add, pk_mul, nsub, ncl, nin, and_true, true_and, not_true_eq_false, not_false_eq_true, ↓reduceIte, Nat.reduceAdd, if_pos, if_neg]
        exact hr
      · have e3 : ins (nI k) 1 5 := ⟨k, by omega, by omega, rfl⟩
        obtain ⟨r0, rW, rB, rC, rH, -⟩ := hs.1
        have e4 : mk6 (fun o => hbt C t k o 5 1) = mk6 (fun o => decide (0 < C t o k)) := mk6_cong (fun o _ => by
          have : k = 1 ∨ k = 2 ∨ k = 3 ∨ k = 4 ∨ k = 5 := by omega
          rcases this with e | e | e | e | e <;> subst e <;> simp [hbt])
        rw [e4] at hr
        simp (disch := omega) only [Nat.not_lt_zero, nneg, nneg2, nlt, nle, neq, nI_add, pk_mul, nsub, ncl, nin, and_true, true_and, not_true_eq_false, not_false_eq_true, ↓reduceIte, Nat.reduceAdd, if_pos, if_neg, isMode_y e3, P_X5_row, rH]
        simp (disch := omega) only [isThing_ry hs.2.1.1.1 hn e1, inA_y (a := 0) (b := 5) (by omega) e2, Nat.not_lt_zero, nneg, nneg2, nlt, nle, neq, nI_add, pk_mul, nsub, ncl, nin, and_true, true_and, not_true_eq_false, not_false_eq_true, ↓reduceIte, Nat.reduceAdd, if_pos, if_neg]
        exact hr
    · have e3 : ¬ ins y 1 5 := fun ⟨k, a, b, c⟩ => hy ⟨k, by omega, b, c⟩
      have e4 : ¬ y = nI 0 := fun e => hy ⟨0, by omega, by omega, e⟩
      simp only [e4, not_false_eq_true, if_true, isMode_n e3]
      simp (disch := omega) only [Nat.not_lt_zero, nneg, nneg2, nlt, nle, neq, nI_add, pk_mul, nsub, ncl, nin, and_true, true_and, not_true_eq_false, not_false_eq_true, ↓reduceIte, Nat.reduceAdd, if_pos, if_neg, isThing_ry hs.2.1.1.1 hn hx, inA_n (a := 0) (b := 5) (by omega) (by omega) hy, if_true]
      exact done
  · simp (disch := omega) only [isThing_n hs.1.1 hn hx, Nat.not_lt_zero, nneg, nneg2, nlt, nle, neq, nI_add, pk_mul, nsub, ncl, nin, and_true, true_and, not_true_eq_false, not_false_eq_true, ↓reduceIte, Nat.reduceAdd, if_pos, if_neg, isThing_rn hs.2.1.1.1 hn hx, if_true]
    exact done
theorem call_waits (hFu : 500 ≤ F) (hI : INV m h) (hm : m < 513) (kk : ∀ h', INV (m + 1) h' → G h') : P_X7_waits F x h (fun r h1 => P_X8_waits F x h1 (fun r' h3 => if r = r' then G h3 else Z h3)) := by
  obtain ⟨c, l, n, W, B, C, ln, pl, g, hs⟩ := hI
  have hc := ST_c hs
  have hF := hs.2.2.1
  have hn := hF.1
  have hL : ∀ q, q ∈ ln → q.1 < 6 := fun q hq => (WF_v hF q hq).1
  have hlen := WF_6 hF
  have hb : ∀ t o m, C t o m < 2147483648 := fun t o m => by have := hs.2.2.1.2.2.2.2.1 t o m; omega
  have done := kk _ (INV_s hs hm)
  unfold P_X7_waits P_X8_waits
  by_cases hx : inr x 6
  · rw [isOwner_y hx]
    simp only [isOwner_ry hx]
    obtain ⟨o, ho, rfl⟩ := hx
    simp (disch := omega) only [Nat.not_lt_zero, nneg, nneg2, nlt, nle, neq, nI_add, pk_mul, nsub, ncl, nin, and_true, true_and, not_true_eq_false, not_false_eq_true, ↓reduceIte, Nat.reduceAdd, if_pos, if_neg]
    rw [waiting_e hs.1 (WF_v hF) ho]
    cases e : inL ln o with
    | false =>
      simp (disch := omega) only [Bool.false_eq_true, if_false, Nat.not_lt_zero, nneg, nneg2, nlt, nle, neq, nI_add, pk_mul, nsub, ncl, nin, and_true, true_and, not_true_eq_false, not_false_eq_true, ↓reduceIte, Nat.reduceAdd, if_pos, if_neg]
      refine place_n hs.2.1.1 hL hlen ho (by omega) e ?_
      simp only [not_true_eq_false, if_false, if_true]
      exact done
    | true =>
      obtain ⟨pre, q, rest, hl, hq, hpre⟩ := in_split e
      have hqm : q ∈ ln := by rw [hl]; simp
      have hv := WF_v hF q hqm
      obtain ⟨v1, v2, v3⟩ := hv
      have ra := hs.1.2.2.2.2.2.2.2.1 q hqm
      have hpl : pre.length < 6 := by rw [hl] at hlen; simp at hlen; omega
      have rk := hs.2.1.1.2.2.2.2.2.1 pre.length q (by rw [hl]; simp)
      rw [hq] at ra v1
      have hm5 : q.2.2 ≤ 5 := by omega
      simp (disch := omega) only [if_true, Nat.not_lt_zero, nneg, nneg2, nlt, nle, neq, nI_add, pk_mul, nsub, ncl, nin, and_true, true_and, not_true_eq_false, not_false_eq_true, ↓reduceIte, Nat.reduceAdd, if_pos, if_neg, ra.1, ra.2]
      rw [isRaise_e hs.1 ho (by omega)]
      have hm1 : q.2.2 < 6 := by omega
      have ht1 : q.2.1 < 12 := by omega
      cases er : rai C o q.2.1 with
      | false =>
        simp (disch := omega) only [Bool.false_eq_true, if_false, if_true, Nat.not_lt_zero, nneg, nneg2, nlt, nle, neq, nI_add, pk_mul, nsub, ncl, nin, and_true, true_and, not_true_eq_false, not_false_eq_true, ↓reduceIte, Nat.reduceAdd, if_pos, if_neg]
        refine place_y hs.2.1.1 hL hlen ho (by omega) hl hq hpre ?_
        simp (disch := omega) only [Nat.not_lt_zero, nneg, nneg2, nlt, nle, neq, nI_add, pk_mul, nsub, ncl, nin, and_true, true_and, not_true_eq_false, not_false_eq_true, ↓reduceIte, Nat.reduceAdd, if_pos, if_neg, rk.2.1, rk.2.2]
        rw [isR_e hs.2.1.1 hn hb ho v2, er]
        simp (disch := omega) only [bn, Bool.false_eq_true, if_false, if_true, Nat.not_lt_zero, nneg, nneg2, nlt, nle, neq, nI_add, pk_mul, nsub, ncl, nin, and_true, true_and, not_true_eq_false, not_false_eq_true, ↓reduceIte, Nat.reduceAdd, if_pos, if_neg]
        exact done
      | true =>
        simp (disch := omega) only [if_false, if_true, Nat.not_lt_zero, nneg, nneg2, nlt, nle, neq, nI_add, pk_mul, nsub, ncl, nin, and_true, true_and, not_true_eq_false, not_false_eq_true, ↓reduceIte, Nat.reduceAdd, if_pos, if_neg]
        refine place_y hs.2.1.1 hL hlen ho (by omega) hl hq hpre ?_
        simp (disch := omega) only [Nat.not_lt_zero, nneg, nneg2, nlt, nle, neq, nI_add, pk_mul, nsub, ncl, nin, and_true, true_and, not_true_eq_false, not_false_eq_true, ↓reduceIte, Nat.reduceAdd, if_pos, if_neg, rk.2.1, rk.2.2]
        rw [isR_e hs.2.1.1 hn hb ho v2, er]
        simp (disch := omega) only [bn, if_false, if_true, Nat.not_lt_zero, nneg, nneg2, nlt, nle, neq, nI_add, pk_mul, nsub, ncl, nin, and_true, true_and, not_true_eq_false, not_false_eq_true, ↓reduceIte, Nat.reduceAdd, if_pos, if_neg]
        exact done
  · simp (disch := omega) only [isOwner_rn hx, isOwner_n hx, Nat.not_lt_zero, nneg, nneg2, nlt, nle, neq, nI_add, pk_mul, nsub, ncl, nin, and_true, true_and, not_true_eq_false, not_false_eq_true, ↓reduceIte, Nat.reduceAdd, if_pos, if_neg, if_true]
    exact done
end CB2
