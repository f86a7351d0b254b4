/-! the class's table: the least of a ring, copying -/
def asum (C : CT) (n o : Nat) : Nat := sumTo (fun t => C t o 2 + C t o 4 + C t o 5) n
theorem sumTo_b {f : Nat → Nat} {c : Nat} (h : ∀ p, f p ≤ c) : ∀ n, sumTo f n ≤ n * c
  | 0 => by simp [sumTo]
  | n + 1 => by
    have := sumTo_b h n
    have := h n
    rw [sumTo, Nat.succ_mul]
    omega
theorem asum_lt {C : CT} {n o c : Nat} (hn : n ≤ 12) (h : ∀ t o m, C t o m ≤ c) (hc : c < 10000000) : asum C n o < 400000000 := by
  have := sumTo_b (f := fun t => C t o 2 + C t o 4 + C t o 5) (c := 3 * c) (fun t => by have := h t o 2; have := h t o 4; have := h t o 5; omega) n
  have h2 : n * (3 * c) ≤ 12 * (3 * c) := Nat.mul_le_mul_right _ hn
  unfold asum
  omega
def lsS (cnt : Nat → Nat) (s : Nat) : Nat → Nat → Option Nat → Option Nat
  | 0, _, acc => acc
  | d + 1, o, acc => lsS cnt s d (o + 1) (if s.testBit o = true ∧ (∀ p, acc = some p → cnt o ≤ cnt p) then some o else acc)
def lst (cnt : Nat → Nat) (s : Nat) : Option Nat := lsS cnt s 6 0 none
theorem lsS_lt (cnt : Nat → Nat) (s : Nat) : ∀ (d o : Nat) (acc : Option Nat) (p : Nat), o + d = 6 → (∀ q, acc = some q → q < 6) → lsS cnt s d o acc = some p → p < 6
  | 0, o, acc, p, _, ha, h => ha p h
  | d + 1, o, acc, p, hd, ha, h => by
    refine lsS_lt cnt s d (o + 1) _ p (by omega) (fun q hq => ?_) h
    split at hq
    · cases hq; omega
    · exact ha q hq
theorem lst_lt {cnt : Nat → Nat} {s p : Nat} (h : lst cnt s = some p) : p < 6 := lsS_lt cnt s 6 0 none p (by omega) (fun q hq => by cases hq) h
section CG
variable {b n : Nat} {W B : Nat → Nat} {pl : LN} {C : CT} {ln : LN} {g : Nat} {h : AH}
theorem asked_l {F o : Nat} {K : Int32 → AH → Prop} (hR : RC b n W B C ln pl g h) (hn : n ≤ 12) (ho : o < 6) (hFu : 20 ≤ F) : ∀ (r N t : Nat), t + r = n → r + 1 ≤ N → X5_askedCounts_c4 F b K N (nI o) (nI (asum C t o)) (nI t) h = K (nI (asum C n o)) h := by
  obtain ⟨r0, rW, rB, rC, -⟩ := hR
  intro r
  induction r with
  | zero =>
    intro N t h1 h2
    obtain ⟨N, rfl⟩ : ∃ k, N = k + 1 := ⟨N - 1, by omega⟩
    have : t = n := by omega
    subst this
    rw [X5_askedCounts_c4_s, r0]
    simp (disch := omega) only [Nat.not_lt_zero, nneg, nneg2, nlt, nle, neq, nI_add, pk_mul, nsub, ncl, nin, and_true, true_and, not_true_eq_false, not_false_eq_true, ↓reduceIte, Nat.reduceAdd, if_pos, if_neg]
  | succ r ih =>
    intro N t h1 h2
    obtain ⟨N, rfl⟩ : ∃ k, N = k + 1 := ⟨N - 1, by omega⟩
    rw [X5_askedCounts_c4_s, r0]
    simp (disch := omega) only [Nat.not_lt_zero, nneg, nneg2, nlt, nle, neq, nI_add, pk_mul, nsub, ncl, nin, and_true, true_and, not_true_eq_false, not_false_eq_true, ↓reduceIte, Nat.reduceAdd, if_pos, if_neg]
    obtain ⟨f, hf⟩ : ∃ f, F = f + 4 := ⟨F - 4, by omega⟩
    have key : ∀ f, X5_askedCounts_c15 F b (X5_askedCounts_c4 F b K N) K (f + 4) (nI o) (nI (asum C t o)) (nI t) (nI 0) h = X5_askedCounts_c4 F b K N (nI o) (nI (asum C (t + 1) o)) (nI (t + 1)) h := by
      intro f
      have e2 : tAM 0 = nI 2 := rfl
      have e4 : tAM 1 = nI 4 := rfl
      have e5 : tAM 2 = nI 5 := rfl
      rw [X5_askedCounts_c15_s]
      simp (disch := omega) only [Nat.not_lt_zero, nneg, nneg2, nlt, nle, neq, nI_add, pk_mul, nsub, ncl, nin, and_true, true_and, not_true_eq_false, not_false_eq_true, ↓reduceIte, Nat.reduceAdd, if_pos, if_neg, P_X5_cell, e2, rC]
      rw [X5_askedCounts_c15_s]
      simp (disch := omega) only [Nat.not_lt_zero, nneg, nneg2, nlt, nle, neq, nI_add, pk_mul, nsub, ncl, nin, and_true, true_and, not_true_eq_false, not_false_eq_true, ↓reduceIte, Nat.reduceAdd, if_pos, if_neg, P_X5_cell, e4, rC]
      rw [X5_askedCounts_c15_s]
      simp (disch := omega) only [Nat.not_lt_zero, nneg, nneg2, nlt, nle, neq, nI_add, pk_mul, nsub, ncl, nin, and_true, true_and, not_true_eq_false, not_false_eq_true, ↓reduceIte, Nat.reduceAdd, if_pos, if_neg, P_X5_cell, e5, rC]
      rw [X5_askedCounts_c15_s]
      simp (disch := omega) only [Nat.not_lt_zero, nneg, nneg2, nlt, nle, neq, nI_add, pk_mul, nsub, ncl, nin, and_true, true_and, not_true_eq_false, not_false_eq_true, ↓reduceIte, Nat.reduceAdd, if_pos, if_neg]
      have : asum C t o + C t o 2 + C t o 4 + C t o 5 = asum C (t + 1) o := by
        unfold asum
        rw [sumTo]
        omega
      rw [this]
    have := key f
    rw [← hf] at this
    rw [this]
    exact ih N (t + 1) (by omega) (by omega)
theorem asked_e {F o : Nat} {K : Int32 → AH → Prop} (hR : RC b n W B C ln pl g h) (hn : n ≤ 12) (ho : o < 6) (hFu : 20 ≤ F) : P_X5_askedCounts F b (nI o) h K = K (nI (asum C n o)) h :=
  asked_l hR hn ho hFu n F 0 (by omega) (by omega)
theorem least_l {c F s : Nat} {K : Int32 → AH → Prop} (hR : RC b n W B C ln pl g h) (hF : WF c n W B C ln pl) (hFu : 20 ≤ F) (hc : c < 10000000) (hs : s < 64) : ∀ (d N o : Nat) (acc : Option Nat) (x3 : Int32), o + d = 6 → d + 1 ≤ N → (∀ p, acc = some p → p < 6 ∧ x3 = nI (asum C n p)) →
    X5_leastOf_c7 F b K N (nI s) (match acc with | none => -1 | some p => nI p) x3 (nI o) h = K (match lsS (asum C n) s d o acc with | none => -1 | some p => nI p) h := by
  have hlt := fun p => asum_lt (o := p) hF.1 hF.2.2.2.2.1 hc
  intro d
  induction d with
  | zero =>
    intro N o acc x3 h1 h2 ha
    obtain ⟨N, rfl⟩ : ∃ k, N = k + 1 := ⟨N - 1, by omega⟩
    rw [X5_leastOf_c7_s]
    simp (disch := omega) only [Nat.not_lt_zero, nneg, nneg2, nlt, nle, neq, nI_add, pk_mul, nsub, ncl, nin, and_true, true_and, not_true_eq_false, not_false_eq_true, ↓reduceIte, Nat.reduceAdd, if_pos, if_neg, lsS]
  | succ d ih =>
    intro N o acc x3 h1 h2 ha
    obtain ⟨N, rfl⟩ : ∃ k, N = k + 1 := ⟨N - 1, by omega⟩
    rw [X5_leastOf_c7_s]
    simp (disch := omega) only [Nat.not_lt_zero, nneg, nneg2, nlt, nle, neq, nI_add, pk_mul, nsub, ncl, nin, and_true, true_and, not_true_eq_false, not_false_eq_true, ↓reduceIte, Nat.reduceAdd, if_pos, if_neg]
    rw [hasBit_e (by omega) (by omega)]
    unfold lsS
    cases ht : s.testBit o with
    | false =>
      simp (disch := omega) only [Bool.false_eq_true, if_false, false_and, Nat.not_lt_zero, nneg, nneg2, nlt, nle, neq, nI_add, pk_mul, nsub, ncl, nin, and_true, true_and, not_true_eq_false, not_false_eq_true, ↓reduceIte, Nat.reduceAdd, if_pos, if_neg, X5_leastOf_c50]
      exact ih N (o + 1) acc x3 (by omega) (by omega) ha
    | true =>
      simp (disch := omega) only [if_true, true_and, Nat.not_lt_zero, nneg, nneg2, nlt, nle, neq, nI_add, pk_mul, nsub, ncl, nin, and_true, true_and, not_true_eq_false, not_false_eq_true, ↓reduceIte, Nat.reduceAdd, if_pos, if_neg, X5_leastOf_c50, X5_leastOf_c44]
      rw [asked_e hR hF.1 (by omega) hFu]
      have h2o := hlt o
      have yes := ih N (o + 1) (some o) (nI (asum C n o)) (by omega) (by omega) (fun p hp => by cases hp; exact ⟨by omega, rfl⟩)
      cases acc with
      | none =>
        have e : ∀ p : Nat, (none : Option Nat) = some p → asum C n o ≤ asum C n p := fun p hp => by cases hp
        rw [if_pos (by decide), if_pos e]
        exact yes
      | some p =>
        obtain ⟨hp, rfl⟩ := ha p rfl
        have h2p := hlt p
        by_cases e : asum C n o ≤ asum C n p
        · have e2 : ∀ q : Nat, some p = some q → asum C n o ≤ asum C n q := fun q hq => by cases hq; exact e
          rw [if_pos e2]
          simp (disch := omega) only [Nat.not_lt_zero, nneg, nneg2, nlt, nle, neq, nI_add, pk_mul, nsub, ncl, nin, and_true, true_and, not_true_eq_false, not_false_eq_true, ↓reduceIte, Nat.reduceAdd, if_pos, if_neg]
          exact yes
        · have e2 : ¬ ∀ q : Nat, some p = some q → asum C n o ≤ asum C n q := fun z => e (z p rfl)
          rw [if_neg e2]
          simp (disch := omega) only [Nat.not_lt_zero, nneg, nneg2, nlt, nle, neq, nI_add, pk_mul, nsub, ncl, nin, and_true, true_and, not_true_eq_false, not_false_eq_true, ↓reduceIte, Nat.reduceAdd, if_pos, if_neg]
          exact ih N (o + 1) (some p) (nI (asum C n p)) (by omega) (by omega) ha
theorem least_e {c F s : Nat} {K : Int32 → AH → Prop} (hR : RC b n W B C ln pl g h) (hF : WF c n W B C ln pl) (hFu : 20 ≤ F) (hc : c < 10000000) (hs : s < 64) :
    P_X5_leastOf F b (nI s) h K = K (match lst (asum C n) s with | none => -1 | some p => nI p) h :=
  least_l hR hF hFu hc hs 6 F 0 none (nI 0) (by omega) (by omega) (fun p hp => by cases hp)
theorem cpA_s {s d m k : Nat} (hk : k < m) : cpA h s d 0 0 m d k = h s k := by
  unfold cpA
  rw [if_pos rfl]
  unfold va_cpy
  rw [if_pos ⟨by omega, by omega⟩]
  congr 1
  omega
theorem cpA_c {s d m a k : Nat} (e : a ≠ d) : cpA h s d 0 0 m a k = h a k := by
  unfold cpA
  rw [if_neg e]
theorem copy_e {F b0 g' : Nat} {K : AH → Prop} (hR : RC b0 n W B C ln pl g h) (hF : n ≤ 12 ∧ ln.length ≤ 6 ∧ pl.length ≤ 12 ∧ (∀ q ∈ ln, vq n q)) (hbb : b0 + 12 ≤ b ∨ b + 12 ≤ b0) (hg : h b 13 = nI g')
    (kk : ∀ h', RC b n W B C ln pl g' h' → fr b h h' → K h') : P_X5_copyFrom F b b0 h K := by
  obtain ⟨r0, rW, rB, rC, rH, rL, rk, ra, rz, rP, rp, rg⟩ := hR
  obtain ⟨f1, f2, f3, f4⟩ := hF
  unfold P_X5_copyFrom
  have ne : ∀ i j, i < 12 → j < 12 → b0 + i ≠ b + j := fun i j hi hj => by omega
  have n0 : ∀ j, j < 12 → b0 ≠ b + j := fun j hj => ne 0 j (by omega) hj
  have m0 : ∀ i, i < 12 → b0 + i ≠ b := fun i hi => ne i 0 hi (by omega)
  have nn : b0 ≠ b := by omega
  have bb : ∀ j, 0 < j → b ≠ b + j := fun j hj => by omega
  have pp : ∀ i j, i ≠ j → b + i ≠ b + j := fun i j hij => by omega
  have p0 : ∀ j, 0 < j → b + j ≠ b := fun j hj => by omega
  refine kk _ ⟨?_, ?_, ?_, ?_, ?_, ?_, ?_, ?_, ?_, ?_, ?_, ?_⟩ (fun a ha => ?_)
  · simp (disch := omega) only [cpA_c, up_c, up_k, up_s, cpA_s, ne, n0, m0, bb, pp, p0]
    exact r0
  · intro t ht
    have h3 := rW t ht
    simp (disch := omega) only [cpA_c, up_c, up_k, up_s, cpA_s]
    exact h3
  · intro t ht
    have h3 := rB t ht
    simp (disch := omega) only [cpA_c, up_c, up_k, up_s, cpA_s]
    exact h3
  · intro t o m h1 h2 h3 h4
    have h5 := rC t o m h1 h2 h3 h4
    simp (disch := omega) only [cpA_c, up_c, up_k, up_s, cpA_s]
    exact h5
  · intro t m h1 h3 h4
    have h5 := rH t m h1 h3 h4
    simp (disch := omega) only [cpA_c, up_c, up_k, up_s, cpA_s]
    exact h5
  · simp (disch := omega) only [cpA_c, up_c, up_k, up_s, cpA_s]
    exact rL
  · intro k q hq
    have h5 := rk k q hq
    have hk := (List.getElem?_eq_some_iff.mp hq).1
    simp (disch := omega) only [cpA_c, up_c, up_k, up_s, cpA_s]
    exact h5
  · intro q hq
    have h5 := ra q hq
    have hk := (f4 q hq).1
    simp (disch := omega) only [cpA_c, up_c, up_k, up_s, cpA_s]
    exact h5
  · intro o h1 h2
    have h5 := rz o h1 h2
    simp (disch := omega) only [cpA_c, up_c, up_k, up_s, cpA_s]
    exact h5
  · simp (disch := omega) only [cpA_c, up_c, up_k, up_s, cpA_s]
    exact rP
  · intro k q hq
    have h5 := rp k q hq
    have hk := (List.getElem?_eq_some_iff.mp hq).1
    simp (disch := omega) only [cpA_c, up_c, up_k, up_s, cpA_s]
    exact h5
  · simp (disch := omega) only [cpA_c, up_c, up_k, up_s, cpA_s]
    exact hg
  · funext k
    simp (disch := omega) only [cpA_c, up_c, up_k, up_s, cpA_s]
end CG
