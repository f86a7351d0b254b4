section CB
variable {b n : Nat} {W B : Nat → Nat} {C : CT} {ln pl : LN} {g : Nat} {h : AH}
theorem tMA_ab {m : Nat} (hm : m = 2 ∨ m = 4 ∨ m = 5) : tMA m = nI (ab m) := by rcases hm with rfl | rfl | rfl <;> rfl
theorem ab_b (m : Nat) : 1 ≤ ab m ∧ ab m ≤ 5 := by unfold ab; split <;> omega
theorem bar_ch {F o m : Nat} {K : Int32 → AH → Prop} (hR : RC b n W B C ln pl g h) (hW : ∀ t, t < n → W t ≤ t) (hn : n ≤ 12) (hm : m = 2 ∨ m = 4 ∨ m = 5) (hF : 20 ≤ F) : ∀ (f N c s up : Nat), c ≤ f → c ≤ n → up + f = 12 → f + 1 ≤ N →
    X5_barring_c12 F b K N (nI o) (nI m) (nI s) (wI c) (nI (ab m)) (nI up) h = K (nI (s ||| mk6 (fun j => (ch W f c).any (fun w => hcl C w (ab m) j))) &&& ((nI 1 <<< (nI o &&& 31)) ^^^ -1)) h := by
  intro f
  induction f with
  | zero =>
    intro N c s up hc _ hu hN
    obtain ⟨N, rfl⟩ : ∃ k, N = k + 1 := ⟨N - 1, by omega⟩
    have hc0 : c = 0 := by omega
    subst hc0
    rw [X5_barring_c12_s]
    simp (disch := omega) only [Nat.not_lt_zero, nneg, nneg2, nlt, nle, neq, nI_add, pk_mul, nsub, ncl, nin, and_true, true_and, not_true_eq_false, not_false_eq_true, ↓reduceIte, Nat.reduceAdd, if_neg, if_pos, ch, List.any_nil, mk6_0, Nat.or_zero]
  | succ f ih =>
    intro N c s up hc hcn hu hN
    obtain ⟨N, rfl⟩ : ∃ k, N = k + 1 := ⟨N - 1, by omega⟩
    rw [X5_barring_c12_s]
    cases c with
    | zero =>
      simp (disch := omega) only [Nat.not_lt_zero, nneg, nneg2, nlt, nle, neq, nI_add, pk_mul, nsub, ncl, nin, and_true, true_and, not_true_eq_false, not_false_eq_true, ↓reduceIte, Nat.reduceAdd, if_neg, if_pos, ch, List.any_nil, mk6_0, Nat.or_zero, wI_0]
      rw [if_pos (by decide)]
    | succ c =>
      have hb := ab_b m
      rw [wI_s]
      simp (disch := omega) only [Nat.not_lt_zero, nneg, nneg2, nlt, nle, neq, nI_add, pk_mul, nsub, ncl, nin, and_true, true_and, not_true_eq_false, not_false_eq_true, ↓reduceIte, Nat.reduceAdd, if_neg, if_pos]
      rw [bar_in hR (by omega) (by omega) hb.1 hb.2]
      have hrW := hR.2.1 c (by omega)
      have hwc := hW c (by omega)
      have hm6 : m < 6 := by omega
      simp (disch := omega) only [Nat.not_lt_zero, nneg, nneg2, nlt, nle, neq, nI_add, pk_mul, nsub, ncl, nin, and_true, true_and, not_true_eq_false, not_false_eq_true, ↓reduceIte, Nat.reduceAdd, hrW, tMA_ab hm]
      rw [ih N (W c) _ (up + 1) (by omega) (by omega) (by omega) (by omega)]
      rw [Nat.or_assoc, mk6_or]
      simp only [ch, List.any_cons]
theorem ch_fuel (W : Nat → Nat) (n : Nat) (hW : ∀ t, t < n → W t ≤ t) : ∀ (f g c : Nat), c ≤ f → c ≤ g → c ≤ n → ch W f c = ch W g c := by
  intro f
  induction f with
  | zero =>
    intro g c h1 _ _
    have : c = 0 := by omega
    subst this
    cases g <;> rfl
  | succ f ih =>
    intro g c h1 h2 h3
    cases c with
    | zero => cases g <;> rfl
    | succ c =>
      obtain ⟨g, rfl⟩ : ∃ k, g = k + 1 := ⟨g - 1, by omega⟩
      have := hW c (by omega)
      simp only [ch]
      rw [ih g (W c) (by omega) (by omega) (by omega)]
theorem barring_e {F o t m : Nat} {K : Int32 → AH → Prop} (hR : RC b n W B C ln pl g h) (hW : ∀ t, t < n → W t ≤ t) (hn : n ≤ 12) (ho : o < 6) (ht : t < n) (hm : m = 2 ∨ m = 4 ∨ m = 5) (hF : 20 ≤ F) :
    P_X5_barring F b (nI o) (nI t) (nI m) h K = K (nI (mk6 (fun j => brd W C t m j && !(j == o)))) h := by
  unfold P_X5_barring
  obtain ⟨f, rfl⟩ : ∃ f, F = f + 1 := ⟨F - 1, by omega⟩
  have e : ∀ N, 13 ≤ N → X5_barring_c12 (f + 1) b K (N + 1) (nI o) (nI m) (nI 0) (nI t) (nI m) (nI 0) h = K (nI (mk6 (fun j => brd W C t m j && !(j == o)))) h := by
    intro N hN
    rw [X5_barring_c12_s]
    simp (disch := omega) only [Nat.not_lt_zero, nneg, nneg2, nlt, nle, neq, nI_add, pk_mul, nsub, ncl, nin, and_true, true_and, not_true_eq_false, not_false_eq_true, ↓reduceIte, Nat.reduceAdd, if_neg, if_pos]
    rw [bar_in hR (by omega) (by omega) (by omega) (by omega)]
    have hrW := hR.2.1 t ht
    have hwc := hW t ht
    simp (disch := omega) only [Nat.not_lt_zero, nneg, nneg2, nlt, nle, neq, nI_add, pk_mul, nsub, ncl, nin, and_true, true_and, not_true_eq_false, not_false_eq_true, ↓reduceIte, Nat.reduceAdd, hrW, tMA_ab hm]
    rw [bar_ch hR hW hn hm hF 11 N (W t) _ (0 + 1) (by omega) (by omega) (by omega) (by omega), ch_fuel W n hW 11 12 (W t) (by omega) (by omega) (by omega)]
    rw [Nat.zero_or, mk6_or, bclr (mk6_lt _) ho, clr_mk ho]
    rfl
  have := e f
  by_cases hf : 13 ≤ f
  · exact e f hf
  · omega
theorem tw_mem {α : Type} {p : α → Bool} {q : α} : ∀ {l : List α}, q ∈ l.takeWhile p → p q = true ∧ q ∈ l
  | [], h => by simp at h
  | a :: l, h => by
    by_cases e : p a = true
    · rw [List.takeWhile_cons_of_pos e] at h
      rcases List.mem_cons.mp h with rfl | h
      · exact ⟨e, List.mem_cons_self⟩
      · obtain ⟨h1, h2⟩ := tw_mem h
        exact ⟨h1, List.mem_cons_of_mem _ h2⟩
    · rw [List.takeWhile_cons_of_neg e] at h
      cases h
theorem beqc (a b : Nat) : (a == b) = (b == a) := by
  rw [Bool.eq_iff_iff, beq_iff_eq, beq_iff_eq]
  exact eq_comm
theorem bhd_own (t m o : Nat) (l : LN) : bhd t m (l.takeWhile (fun q => q.1 != o)) o = false := by
  unfold bhd
  rw [List.any_eq_false]
  intro q hq
  have h1 := (tw_mem hq).1
  have h2 : (q.1 == o) = false := by simpa using h1
  simp [h2]
theorem stand_l {F o t m : Nat} {K : Int32 → AH → Prop} (hR : RC b n W B C ln pl g h) (hL : ∀ q, q ∈ ln → vq n q) (hlen : ln.length ≤ 6) (hn : n ≤ 12) (ho : o < 6) (ht : t < n) (hm : m = 2 ∨ m = 4 ∨ m = 5) : ∀ (rest pre : LN) (s N : Nat), ln = pre ++ rest → rest.length + 1 ≤ N →
    X5_standingAhead_c6 F b K N (nI o) (nI t) (nI m) (nI s) (nI pre.length) h = K (nI (s ||| mk6 (fun j => bhd t m (rest.takeWhile (fun q => q.1 != o)) j))) h := by
  obtain ⟨-, -, -, -, -, rL, rk, ra, -, -⟩ := hR
  intro rest
  induction rest with
  | nil =>
    intro pre s N hl hN
    obtain ⟨N, rfl⟩ : ∃ k, N = k + 1 := ⟨N - 1, by simp at hN; omega⟩
    rw [X5_standingAhead_c6_s, rL]
    have : ln.length = pre.length := by rw [hl]; simp
    simp (disch := omega) only [Nat.not_lt_zero, nneg, nneg2, nlt, nle, neq, nI_add, pk_mul, nsub, ncl, nin, and_true, true_and, not_true_eq_false, not_false_eq_true, ↓reduceIte, Nat.reduceAdd, if_neg, if_pos, bhd, List.takeWhile_nil, List.any_nil, mk6_0, Nat.or_zero]
  | cons q rest ih =>
    intro pre s N hl hN
    obtain ⟨N, rfl⟩ : ∃ k, N = k + 1 := ⟨N - 1, by simp at hN; omega⟩
    have hlen2 : ln.length = pre.length + rest.length + 1 := by rw [hl]; simp; omega
    have hk : ln[pre.length]? = some q := by rw [hl]; simp
    have hq : q ∈ ln := by rw [hl]; simp
    have hv := hL q hq
    have hq1 := hv.1
    have hq2 := hv.2.1
    have hq3 := hv.2.2
    have hN2 : rest.length + 1 ≤ N := by simp at hN; omega
    have ih2 := ih (pre ++ [q])
    simp only [List.length_append, List.length_cons, List.length_nil, Nat.zero_add] at ih2
    rw [X5_standingAhead_c6_s, rL]
    simp (disch := omega) only [Nat.not_lt_zero, nneg, nneg2, nlt, nle, neq, nI_add, pk_mul, nsub, ncl, nin, and_true, true_and, not_true_eq_false, not_false_eq_true, ↓reduceIte, Nat.reduceAdd, if_neg, if_pos, rk _ q hk, (ra q hq).1, (ra q hq).2]
    by_cases e : q.1 = o
    · rw [if_pos e]
      have : List.takeWhile (fun q => q.1 != o) (q :: rest) = [] := by simp [e]
      rw [this]
      simp only [bhd, List.any_nil, mk6_0, Nat.or_zero]
    · rw [if_neg e]
      have ht : List.takeWhile (fun q => q.1 != o) (q :: rest) = q :: rest.takeWhile (fun q => q.1 != o) := by simp [e]
      rw [ht]
      simp (disch := omega) only [cl_t m (show m < 6 by omega) (show 1 ≤ m by omega) q.2.2 (show q.2.2 < 6 by omega) (show 1 ≤ q.2.2 by omega), X5_standingAhead_c58, X5_standingAhead_c85, Nat.not_lt_zero, nneg, nneg2, nlt, nle, neq, nI_add, pk_mul, nsub, ncl, nin, and_true, true_and, not_true_eq_false, not_false_eq_true, ↓reduceIte, Nat.reduceAdd, (ra q hq).1, if_true, if_false, ite_self]
      cases c1 : cl m q.2.2 with
      | false =>
        simp only [if_true]
        rw [ih2 s N (by rw [hl]; simp) hN2]
        have : (fun j => bhd t m (q :: rest.takeWhile (fun q => q.1 != o)) j) = (fun j => bhd t m (rest.takeWhile (fun q => q.1 != o)) j) := by
          funext j
          simp [bhd, c1]
        rw [this]
      | true =>
        simp only [Bool.true_eq_false, if_false, bsh1 q.1 (show q.1 < 12 by omega), bor]
        by_cases e2 : q.2.1 = t
        · simp (disch := omega) only [e2, not_true_eq_false, if_false, Nat.not_lt_zero, nneg, nneg2, nlt, nle, neq, nI_add, pk_mul, nsub, ncl, nin, and_true, true_and, not_true_eq_false, not_false_eq_true, ↓reduceIte, Nat.reduceAdd, if_neg, if_pos]
          rw [ih2 _ N (by rw [hl]; simp) hN2, Nat.or_assoc, mk6_1 hq1, mk6_or]
          have : (fun o_1 => o_1 == q.1 || bhd t m (rest.takeWhile (fun q => q.1 != o)) o_1) = (fun j => bhd t m (q :: rest.takeWhile (fun q => q.1 != o)) j) := by
            funext j
            simp only [bhd, List.any_cons, c1, e2, beq_self_eq_true, Bool.and_true, beqc j q.1]
          rw [this]
        · simp (disch := omega) only [e2, not_false_eq_true, if_true, Nat.not_lt_zero, nneg, nneg2, nlt, nle, neq, nI_add, pk_mul, nsub, ncl, nin, and_true, true_and, not_true_eq_false, not_false_eq_true, ↓reduceIte, Nat.reduceAdd, if_pos, if_neg]
          rw [ih2 s N (by rw [hl]; simp) hN2]
          have : (fun j => bhd t m (q :: rest.takeWhile (fun q => q.1 != o)) j) = (fun j => bhd t m (rest.takeWhile (fun q => q.1 != o)) j) := by
            funext j
            simp [bhd, e2]
          rw [this]
/-- whom an ask is hindered by: of what stands ahead of its owner in the line -/
theorem hind_e {c F o t m : Nat} {K : Int32 → AH → Prop} (hR : RC b n W B C ln pl g h) (hF : WF c n W B C ln pl) (hFu : 20 ≤ F) (hv : vq n (o, t, m)) :
    P_X5_hindrances F b (nI o) (nI t) (nI m) h K = K (nI (hnd W C o t m (ln.takeWhile (fun q => q.1 != o)))) h := by
  obtain ⟨f1, f2, -, -, -, -, f7, f8, -, -⟩ := hF
  obtain ⟨ho, ht, hm⟩ := hv
  have hlen := WF_len f7 f8
  simp only at ho ht hm
  unfold P_X5_hindrances
  rw [barring_e hR f2 f1 ho ht hm hFu, isRaise_e hR ho (by omega)]
  cases hr : rai C o t with
  | true =>
    simp (disch := omega) only [if_true, Nat.not_lt_zero, nneg, nneg2, nlt, nle, neq, nI_add, pk_mul, nsub, ncl, nin, and_true, true_and, not_true_eq_false, not_false_eq_true, ↓reduceIte, Nat.reduceAdd, if_neg, if_pos]
    have : hnd W C o t m (ln.takeWhile (fun q => q.1 != o)) = mk6 (fun j => brd W C t m j && !(j == o)) := by
      unfold hnd
      exact mk6_cong (fun j _ => by simp [hr, Bool.and_comm])
    rw [this]
  | false =>
    simp (disch := omega) only [Bool.false_eq_true, if_false, Nat.not_lt_zero, nneg, nneg2, nlt, nle, neq, nI_add, pk_mul, nsub, ncl, nin, and_true, true_and, not_true_eq_false, not_false_eq_true, ↓reduceIte, Nat.reduceAdd, if_neg, if_pos]
    unfold P_X5_standingAhead
    have := stand_l (F := F) (K := fun (r6 : Int32) (h5 : AH) => K (nI (mk6 fun j => brd W C t m j && !(j == o)) ||| r6) h5) hR f7 hlen f1 ho ht hm ln [] 0 F rfl (by omega)
    rw [show ([] : LN).length = 0 from rfl] at this
    rw [this, bor, Nat.zero_or, mk6_or]
    have : hnd W C o t m (ln.takeWhile (fun q => q.1 != o)) = mk6 (fun j => (brd W C t m j && !(j == o)) || bhd t m (ln.takeWhile (fun q => q.1 != o)) j) := by
      unfold hnd
      refine mk6_cong (fun j _ => ?_)
      by_cases e : j = o
      · subst e
        simp [bhd_own]
      · have e2 : (j == o) = false := by simpa using e
        simp [e2, hr]
    rw [this]
/-- some waiting ask for that thing is a raise -/
def anyR (C : CT) (ln : LN) (t : Nat) : Bool := ln.any (fun q => q.2.1 == t && rai C q.1 t)
theorem raiseW_l {F t : Nat} {K : Int32 → AH → Prop} (hR : RC b n W B C ln pl g h) (hL : ∀ q, q ∈ ln → vq n q) (hlen : ln.length ≤ 6) (hn : n ≤ 12) (ht : t < n) : ∀ (rest pre : LN) (N : Nat), ln = pre ++ rest → rest.length + 1 ≤ N →
    X5_raiseWaits_c2 F b K N (nI t) (nI pre.length) h = K (nI (if anyR C rest t then 1 else 0)) h := by
  have hR0 := hR
  obtain ⟨-, -, -, -, -, rL, rk, ra, -, -⟩ := hR
  intro rest
  induction rest with
  | nil =>
    intro pre N hl hN
    obtain ⟨N, rfl⟩ : ∃ k, N = k + 1 := ⟨N - 1, by simp at hN; omega⟩
    rw [X5_raiseWaits_c2_s, rL]
    have : ln.length = pre.length := by rw [hl]; simp
    simp (disch := omega) only [Nat.not_lt_zero, nneg, nneg2, nlt, nle, neq, nI_add, pk_mul, nsub, ncl, nin, and_true, true_and, not_true_eq_false, not_false_eq_true, ↓reduceIte, Nat.reduceAdd, if_neg, if_pos, anyR, List.any_nil, Bool.false_eq_true, if_false]
  | cons q rest ih =>
    intro pre N hl hN
    obtain ⟨N, rfl⟩ : ∃ k, N = k + 1 := ⟨N - 1, by simp at hN; omega⟩
    have hlen2 : ln.length = pre.length + rest.length + 1 := by rw [hl]; simp; omega
    have hk : ln[pre.length]? = some q := by rw [hl]; simp
    have hq : q ∈ ln := by rw [hl]; simp
    have hv := hL q hq
    have hq1 := hv.1
    have hq2 := hv.2.1
    have hN2 : rest.length + 1 ≤ N := by simp at hN; omega
    have ih2 := ih (pre ++ [q]) N (by rw [hl]; simp) hN2
    simp only [List.length_append, List.length_cons, List.length_nil, Nat.zero_add] at ih2
    rw [X5_raiseWaits_c2_s, rL]
    simp (disch := omega) only [Nat.not_lt_zero, nneg, nneg2, nlt, nle, neq, nI_add, pk_mul, nsub, ncl, nin, and_true, true_and, not_true_eq_false, not_false_eq_true, ↓reduceIte, Nat.reduceAdd, if_neg, if_pos, rk _ q hk, (ra q hq).1, X5_raiseWaits_c41]
    by_cases e : q.2.1 = t
    · simp only [e, not_true_eq_false, if_false]
      rw [isRaise_e hR0 hq1 (by omega)]
      cases hr : rai C q.1 t with
      | true => simp (disch := omega) only [if_true, Nat.not_lt_zero, nneg, nneg2, nlt, nle, neq, nI_add, pk_mul, nsub, ncl, nin, and_true, true_and, not_true_eq_false, not_false_eq_true, ↓reduceIte, Nat.reduceAdd, if_neg, if_pos, anyR, List.any_cons, e, hr, beq_self_eq_true, Bool.true_and, Bool.true_or]
      | false =>
        simp (disch := omega) only [Bool.false_eq_true, if_false, Nat.not_lt_zero, nneg, nneg2, nlt, nle, neq, nI_add, pk_mul, nsub, ncl, nin, and_true, true_and, not_true_eq_false, not_false_eq_true, ↓reduceIte, Nat.reduceAdd, if_neg, if_pos]
        have hb : anyR C (q :: rest) t = anyR C rest t := by simp [anyR, hr]
        rw [ih2, hb]
    · simp only [e, not_false_eq_true, if_true]
      have hb : anyR C (q :: rest) t = anyR C rest t := by simp [anyR, e]
      rw [ih2, hb]
theorem raiseW_e {c F t : Nat} {K : Int32 → AH → Prop} (hR : RC b n W B C ln pl g h) (hF : WF c n W B C ln pl) (hFu : 20 ≤ F) (ht : t < n) :
    P_X5_raiseWaits F b (nI t) h K = K (nI (if anyR C ln t then 1 else 0)) h := by
  obtain ⟨f1, f2, -, -, -, -, f7, f8, -, -⟩ := hF
  have hlen := WF_len f7 f8
  exact raiseW_l hR f7 hlen f1 ht ln [] F rfl (by omega)
end CB
