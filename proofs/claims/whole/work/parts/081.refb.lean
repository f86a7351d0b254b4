/-! the reference: the line, whom an ask is barred by -/
theorem in_split {ln : LN} {o : Nat} (h : inL ln o = true) : ∃ (pre : LN) (q : Nat × Nat × Nat) (rest : LN), ln = pre ++ q :: rest ∧ q.1 = o ∧ ∀ p ∈ pre, p.1 ≠ o := by
  induction ln with
  | nil => simp [inL] at h
  | cons a l ih =>
    by_cases e : a.1 = o
    · exact ⟨[], a, l, rfl, e, fun p hp => by cases hp⟩
    · have h2 : inL l o = true := by
        simp [inL, e] at h ⊢
        exact h
      obtain ⟨pre, q, rest, h3, h4, h5⟩ := ih h2
      refine ⟨a :: pre, q, rest, by rw [h3]; rfl, h4, fun p hp => ?_⟩
      rcases List.mem_cons.mp hp with rfl | hp
      · exact e
      · exact h5 p hp
section RB
variable {n : Nat} {W B : Nat → Nat} {C : CT} {ln pl : LN} {h : AH}
theorem place_l {F o : Nat} {K : Int32 → AH → Prop} (hR : RG 57 n W B C ln pl h) (hL : ∀ q, q ∈ ln → q.1 < 6) (hlen : ln.length ≤ 6) (ho : o < 6) : ∀ (rest pre : LN) (N : Nat), ln = pre ++ rest → rest.length + 1 ≤ N → (∀ p ∈ pre, p.1 ≠ o) →
    ((inL rest o = false → K (-1) h) ∧ (∀ p2 q r2, rest = p2 ++ q :: r2 → q.1 = o → (∀ p ∈ p2, p.1 ≠ o) → K (nI (pre.length + p2.length)) h)) → X8_placeOf_c2 F K N (nI o) (nI pre.length) h := by
  obtain ⟨-, -, -, -, rL, rk, -⟩ := hR
  intro rest
  induction rest with
  | nil =>
    intro pre N hl hN _ hk
    obtain ⟨N, rfl⟩ : ∃ k, N = k + 1 := ⟨N - 1, by simp at hN; omega⟩
    have : ln.length = pre.length := by rw [hl]; simp
    rw [X8_placeOf_c2_s]
    simp (disch := omega) only [Nat.not_lt_zero, nneg, nneg2, nlt, nle, neq, nI_add, pk_mul, nsub, ncl, nin, and_true, true_and, not_true_eq_false, not_false_eq_true, ↓reduceIte, Nat.reduceAdd, if_pos, if_neg, rL]
    exact hk.1 rfl
  | cons q rest ih =>
    intro pre N hl hN hpre hk
    obtain ⟨N, rfl⟩ : ∃ k, N = k + 1 := ⟨N - 1, by simp at hN; omega⟩
    have hlen2 : ln.length = pre.length + rest.length + 1 := by rw [hl]; simp; omega
    have hkk : ln[pre.length]? = some q := by rw [hl]; simp
    have hq1 := hL q (by rw [hl]; simp)
    have hN2 : rest.length + 1 ≤ N := by simp at hN; omega
    rw [X8_placeOf_c2_s]
    simp (disch := omega) only [Nat.not_lt_zero, nneg, nneg2, nlt, nle, neq, nI_add, pk_mul, nsub, ncl, nin, and_true, true_and, not_true_eq_false, not_false_eq_true, ↓reduceIte, Nat.reduceAdd, if_pos, if_neg, rL, (rk _ q hkk).1]
    by_cases e : q.1 = o
    · simp only [e, not_true_eq_false, if_false]
      have := hk.2 [] q rest rfl e (fun p hp => by cases hp)
      simpa using this
    · simp only [e, not_false_eq_true, if_true]
      have := ih (pre ++ [q]) N (by rw [hl]; simp) hN2 (fun p hp => by
        rcases List.mem_append.mp hp with hp | hp
        · exact hpre p hp
        · simp at hp; rw [hp]; exact e) ⟨fun hi => hk.1 (by simp [inL, e] at hi ⊢; exact hi), fun p2 q' r2 h1 h2 h3 => by
          have := hk.2 (q :: p2) q' r2 (by rw [h1]; rfl) h2 (fun p hp => by
            rcases List.mem_cons.mp hp with rfl | hp
            · exact e
            · exact h3 p hp)
          simp only [List.length_cons, List.length_append, List.length_nil] at this ⊢
          rw [show pre.length + (0 + 1) + p2.length = pre.length + (p2.length + 1) by omega]
          exact this⟩
      simpa using this
theorem place_n {F o : Nat} {K : Int32 → AH → Prop} (hR : RG 57 n W B C ln pl h) (hL : ∀ q, q ∈ ln → q.1 < 6) (hlen : ln.length ≤ 6) (ho : o < 6) (hFu : 20 ≤ F) (hi : inL ln o = false) (hk : K (-1) h) : P_X8_placeOf F (nI o) h K := by
  unfold P_X8_placeOf
  refine place_l hR hL hlen ho ln [] F rfl (by omega) (fun p hp => by cases hp) ⟨fun _ => hk, fun p2 q r2 h1 h2 _ => ?_⟩
  have := inL_f hi q (by rw [h1]; simp)
  exact absurd h2 this
theorem place_y {F o : Nat} {K : Int32 → AH → Prop} (hR : RG 57 n W B C ln pl h) (hL : ∀ q, q ∈ ln → q.1 < 6) (hlen : ln.length ≤ 6) (ho : o < 6) (hFu : 20 ≤ F) {pre rest : LN} {q : Nat × Nat × Nat} (hl : ln = pre ++ q :: rest) (hq : q.1 = o) (hp : ∀ p ∈ pre, p.1 ≠ o) (hk : K (nI pre.length) h) : P_X8_placeOf F (nI o) h K := by
  unfold P_X8_placeOf
  refine place_l hR hL hlen ho ln [] F rfl (by omega) (fun p hp => by cases hp) ⟨fun hi => ?_, fun p2 q2 r2 h1 h2 h3 => ?_⟩
  · exact absurd hq (inL_f hi q (by rw [hl]; simp))
  · have : p2 = pre := by
      have a1 : ln.takeWhile (fun p => p.1 != o) = p2 := by
        rw [h1, List.takeWhile_append_of_pos (fun p hp => by simpa using h3 p hp)]
        simp [h2]
      have a2 : ln.takeWhile (fun p => p.1 != o) = pre := by
        rw [hl, List.takeWhile_append_of_pos (fun p hp2 => by simpa using hp p hp2)]
        simp [hq]
      exact a1.symm.trans a2
    subst this
    simpa using hk
theorem inLine_e {F o : Nat} {K : Int32 → AH → Prop} (hR : RG 57 n W B C ln pl h) (hL : ∀ q, q ∈ ln → q.1 < 6) (hlen : ln.length ≤ 6) (ho : o < 6) (hFu : 20 ≤ F) (hk : K (bn (inL ln o)) h) : P_X8_isInLine F (nI o) h K := by
  unfold P_X8_isInLine
  cases e : inL ln o with
  | false =>
    rw [e] at hk
    refine place_n hR hL hlen ho hFu e ?_
    rw [if_pos rfl]
    exact hk
  | true =>
    rw [e] at hk
    obtain ⟨pre, q, rest, hl, hq, hp⟩ := in_split e
    have hpl : pre.length ≤ 6 := by rw [hl] at hlen; simp at hlen; omega
    refine place_y hR hL hlen ho hFu hl hq hp ?_
    simp (disch := omega) only [Nat.not_lt_zero, nneg, nneg2, nlt, nle, neq, nI_add, pk_mul, nsub, ncl, nin, and_true, true_and, not_true_eq_false, not_false_eq_true, ↓reduceIte, Nat.reduceAdd]
    exact hk
/-- the line's part: who stands ahead -/
theorem bar64 {F o t m : Nat} {K : Int32 → AH → Prop} (hR : RG 57 n W B C ln pl h) (hL : ∀ q, q ∈ ln → vq n q) (hlen : ln.length ≤ 6) (hn : n ≤ 12) (ho : o < 6) (ht : t < n) (hm : m = 2 ∨ m = 4 ∨ m = 5) (tot : LN) (htot : ∃ r, ln = tot ++ r) : ∀ (rest pre : LN) (s N : Nat), tot = pre ++ rest → rest.length + 1 ≤ N →
    X8_barring_c64 F K N (nI o) (nI t) (nI m) (nI tot.length) (nI s) (nI pre.length) h = K (nI (s ||| mk6 (bhd t m rest)) &&& ((nI 1 <<< (nI o &&& 31)) ^^^ -1)) h := by
  obtain ⟨r, hr⟩ := htot
  obtain ⟨-, -, -, -, rL, rk, -⟩ := hR
  have htl : tot.length ≤ 6 := by rw [hr] at hlen; simp at hlen; omega
  intro rest
  induction rest with
  | nil =>
    intro pre s N hl hN
    obtain ⟨N, rfl⟩ : ∃ k, N = k + 1 := ⟨N - 1, by simp at hN; omega⟩
    have : tot.length = pre.length := by rw [hl]; simp
    rw [X8_barring_c64_s]
    have e : mk6 (bhd t m []) = 0 := mk6_0
    simp (disch := omega) only [Nat.not_lt_zero, nneg, nneg2, nlt, nle, neq, nI_add, pk_mul, nsub, ncl, nin, and_true, true_and, not_true_eq_false, not_false_eq_true, ↓reduceIte, Nat.reduceAdd, if_pos, if_neg, e, Nat.or_zero]
  | cons q rest ih =>
    intro pre s N hl hN
    obtain ⟨N, rfl⟩ : ∃ k, N = k + 1 := ⟨N - 1, by simp at hN; omega⟩
    have hlen2 : tot.length = pre.length + rest.length + 1 := by rw [hl]; simp; omega
    have hkk : ln[pre.length]? = some q := by rw [hr, hl]; simp
    have hv := hL q (by rw [hr, hl]; simp)
    have hq1 := hv.1
    have hq2 := hv.2.1
    have hq3 := hv.2.2
    have hN2 : rest.length + 1 ≤ N := by simp at hN; omega
    have ih2 := fun s => ih (pre ++ [q]) s N (by rw [hl]; simp) hN2
    simp only [List.length_append, List.length_cons, List.length_nil, Nat.zero_add] at ih2
    have rq := rk _ q hkk
    rw [X8_barring_c64_s]
    simp (disch := omega) only [Nat.not_lt_zero, nneg, nneg2, nlt, nle, neq, nI_add, pk_mul, nsub, ncl, nin, and_true, true_and, not_true_eq_false, not_false_eq_true, ↓reduceIte, Nat.reduceAdd, if_pos, if_neg, rq.1, rq.2.1, rq.2.2, X8_barring_c129]
    by_cases e : q.2.1 = t
    · simp only [e, not_true_eq_false, if_false]
      rw [goT_e (by omega) (by omega) (by omega) (by omega)]
      cases hc : cl m q.2.2 with
      | false =>
        simp (disch := omega) only [Bool.false_eq_true, if_false, Nat.not_lt_zero, nneg, nneg2, nlt, nle, neq, nI_add, pk_mul, nsub, ncl, nin, and_true, true_and, not_true_eq_false, not_false_eq_true, ↓reduceIte, Nat.reduceAdd, if_pos, if_neg]
        rw [ih2 s]
        have : bhd t m (q :: rest) = bhd t m rest := by
          funext j
          simp [bhd, hc]
        rw [this]
      | true =>
        simp (disch := omega) only [if_true, Nat.not_lt_zero, nneg, nneg2, nlt, nle, neq, nI_add, pk_mul, nsub, ncl, nin, and_true, true_and, not_true_eq_false, not_false_eq_true, ↓reduceIte, Nat.reduceAdd, if_pos, if_neg, rq.1, bsh1 q.1 (show q.1 < 12 by omega), bor]
        rw [ih2 _, Nat.or_assoc, mk6_1 hq1, mk6_or]
        have : (fun o => o == q.1 || bhd t m rest o) = bhd t m (q :: rest) := by
          funext j
          simp only [bhd, List.any_cons, hc, e, beq_self_eq_true, Bool.and_true, beqc j q.1]
        rw [this]
    · simp only [e, not_false_eq_true, if_true]
      rw [ih2 s]
      have : bhd t m (q :: rest) = bhd t m rest := by
        funext j
        simp [bhd, e]
      rw [this]
theorem bar6 {F o t m k : Nat} {K : Int32 → AH → Prop} (hR : RG 57 n W B C ln pl h) (hW : ∀ t, t < n → W t ≤ t) (hn : n ≤ 12) (hb : ∀ t o m, C t o m < 2147483648) (hFu : 20 ≤ F) (ho : o < 6) (ht : t < n) (hm : m = 2 ∨ m = 4 ∨ m = 5)
    (kk : P_X8_isRaise F (nI o) (nI t) h (fun (r2 : Int32) (h1 : AH) => if r2 = nI 0 then (X8_barring_c64 F K F (nI o) (nI t) (nI m) (nI k) (nI (mk6 (fun j => !(j == o) && brd W C t m j))) (nI 0) h1) else (K (nI (mk6 (fun j => !(j == o) && brd W C t m j))) h1))) : ∀ (d N i : Nat), i + d = 6 → d + 1 ≤ N →
    X8_barring_c6 F K N (nI o) (nI t) (nI m) (nI k) (nI (mk6 (fun j => decide (j < i) && (!(j == o) && brd W C t m j)))) (nI i) h := by
  intro d
  induction d with
  | zero =>
    intro N i h1 h2
    obtain ⟨N, rfl⟩ : ∃ k, N = k + 1 := ⟨N - 1, by omega⟩
    have e : mk6 (fun j => decide (j < i) && (!(j == o) && brd W C t m j)) = mk6 (fun j => !(j == o) && brd W C t m j) := mk6_cong (fun j hj => by
      have : decide (j < i) = true := by simp; omega
      rw [this, Bool.true_and])
    rw [X8_barring_c6_s, e]
    simp (disch := omega) only [Nat.not_lt_zero, nneg, nneg2, nlt, nle, neq, nI_add, pk_mul, nsub, ncl, nin, and_true, true_and, not_true_eq_false, not_false_eq_true, ↓reduceIte, Nat.reduceAdd, if_pos, if_neg]
    exact kk
  | succ d ih =>
    intro N i h1 h2
    obtain ⟨N, rfl⟩ : ∃ k, N = k + 1 := ⟨N - 1, by omega⟩
    have ih2 := ih N (i + 1) (by omega) (by omega)
    rw [X8_barring_c6_s]
    simp (disch := omega) only [Nat.not_lt_zero, nneg, nneg2, nlt, nle, neq, nI_add, pk_mul, nsub, ncl, nin, and_true, true_and, not_true_eq_false, not_false_eq_true, ↓reduceIte, Nat.reduceAdd, if_pos, if_neg, X8_barring_c39, X8_barring_c40]
    by_cases e : i = o
    · rw [if_pos e]
      have e2 : mk6 (fun j => decide (j < i) && (!(j == o) && brd W C t m j)) = mk6 (fun j => decide (j < i + 1) && (!(j == o) && brd W C t m j)) := mk6_cong (fun j hj => by
        by_cases e3 : j = o
        · simp [e3]
        · have : decide (j < i) = decide (j < i + 1) := by rw [decide_eq_decide]; omega
          rw [this])
      rw [e2, bor, Nat.or_zero]
      exact ih2
    · rw [if_neg e, isB_e hR hW hn hb hFu (by omega) ht hm]
      have step : ∀ x : Bool, brd W C t m i = x → nI (mk6 (fun j => decide (j < i) && (!(j == o) && brd W C t m j))) ||| nI (if x then 2 ^ i else 0) = nI (mk6 (fun j => decide (j < i + 1) && (!(j == o) && brd W C t m j))) := by
        intro x hx
        rw [bor]
        congr 1
        have e5 : (if x then 2 ^ i else 0) = mk6 (fun j => j == i && x) := by
          cases x with
          | false => simp [mk6_0]
          | true => simp only [if_true, Bool.and_true]; exact mk6_1 (by omega)
        rw [e5, mk6_or]
        refine mk6_cong (fun j hj => ?_)
        by_cases e3 : j = i
        · subst e3
          have : (j == o) = false := by simpa using e
          simp [this, hx]
        · have a1 : decide (j < i) = decide (j < i + 1) := by rw [decide_eq_decide]; omega
          have a2 : (j == i) = false := by simpa using e3
          rw [a1, a2]
          simp
      cases hx : brd W C t m i with
      | false =>
        have := step false hx
        simp only [Bool.false_eq_true, if_false] at this
        simp (disch := omega) only [bn, Bool.false_eq_true, if_false, Nat.not_lt_zero, nneg, nneg2, nlt, nle, neq, nI_add, pk_mul, nsub, ncl, nin, and_true, true_and, not_true_eq_false, not_false_eq_true, ↓reduceIte, Nat.reduceAdd, if_pos, if_neg, this]
        exact ih2
      | true =>
        have := step true hx
        simp only [if_true] at this
        simp (disch := omega) only [bn, if_true, Nat.not_lt_zero, nneg, nneg2, nlt, nle, neq, nI_add, pk_mul, nsub, ncl, nin, and_true, true_and, not_true_eq_false, not_false_eq_true, ↓reduceIte, Nat.reduceAdd, if_pos, if_neg, bsh1, this]
        exact ih2
theorem rbar_e {c F o t m : Nat} {K : Int32 → AH → Prop} {tot : LN} (hR : RG 57 n W B C ln pl h) (hF : WF c n W B C ln pl) (hc : c < 2000000000) (hFu : 20 ≤ F) (hv : vq n (o, t, m)) (htot : ∃ r, ln = tot ++ r) : K (nI (hnd W C o t m tot)) h → P_X8_barring F (nI o) (nI t) (nI m) (nI tot.length) h K := by
  intro kk
  obtain ⟨ho, ht, hm⟩ := hv
  simp only at ho ht hm
  have hb : ∀ t o m, C t o m < 2147483648 := fun t o m => Nat.lt_of_le_of_lt (hF.2.2.2.2.1 t o m) (by omega)
  have hlen := WF_6 hF
  have htl : tot.length ≤ 6 := by obtain ⟨r, hr⟩ := htot; rw [hr] at hlen; simp at hlen; omega
  unfold P_X8_barring
  have e0 : nI 0 = nI (mk6 (fun j => decide (j < 0) && (!(j == o) && brd W C t m j))) := by
    have : mk6 (fun j => decide (j < 0) && (!(j == o) && brd W C t m j)) = 0 := (mk6_cong (q := fun _ => false) (fun j _ => by simp)).trans mk6_0
    rw [this]
  have := bar6 (K := K) (k := tot.length) hR hF.2.1 hF.1 hb hFu ho ht hm ?_ 6 F 0 (by omega) (by omega)
  · rw [← e0] at this
    exact this
  · rw [isR_e hR hF.1 hb ho ht]
    cases hr : rai C o t with
    | true =>
      simp (disch := omega) only [bn, if_true, Nat.not_lt_zero, nneg, nneg2, nlt, nle, neq, nI_add, pk_mul, nsub, ncl, nin, and_true, true_and, not_true_eq_false, not_false_eq_true, ↓reduceIte, Nat.reduceAdd, if_pos, if_neg]
      have : hnd W C o t m tot = mk6 (fun j => !(j == o) && brd W C t m j) := by
        unfold hnd
        exact mk6_cong (fun j _ => by simp [hr])
      rw [← this]
      exact kk
    | false =>
      simp (disch := omega) only [bn, Bool.false_eq_true, if_false, Nat.not_lt_zero, nneg, nneg2, nlt, nle, neq, nI_add, pk_mul, nsub, ncl, nin, and_true, true_and, not_true_eq_false, not_false_eq_true, ↓reduceIte, Nat.reduceAdd, if_pos, if_neg]
      have h64 := bar64 (K := K) (F := F) hR (WF_v hF) hlen hF.1 ho ht hm tot htot tot [] (mk6 (fun j => !(j == o) && brd W C t m j)) F rfl (by omega)
      rw [show ([] : LN).length = 0 from rfl] at h64
      rw [h64, mk6_or, bclr (mk6_lt _) ho, clr_mk ho]
      have : hnd W C o t m tot = mk6 (fun j => ((!(j == o) && brd W C t m j) || bhd t m tot j) && !(j == o)) := by
        unfold hnd
        refine mk6_cong (fun j _ => ?_)
        cases (j == o) <;> simp [hr]
      rw [← this]
      exact kk
theorem canBe_e {c F o t m : Nat} {K : Int32 → AH → Prop} (hR : RG 57 n W B C ln pl h) (hF : WF c n W B C ln pl) (hc : c < 2000000000) (hFu : 20 ≤ F) (hv : vq n (o, t, m)) (kk : K (bn (decide (hnd W C o t m ln = 0))) h) : P_X8_canBe F (nI o) (nI t) (nI m) h K := by
  have rL := hR.2.2.2.2.1
  have hlt := hnd_lt W C o t m ln
  unfold P_X8_canBe
  simp (disch := omega) only [Nat.not_lt_zero, nneg, nneg2, nlt, nle, neq, nI_add, pk_mul, nsub, ncl, nin, and_true, true_and, not_true_eq_false, not_false_eq_true, ↓reduceIte, Nat.reduceAdd, rL]
  refine rbar_e hR hF hc hFu hv ⟨[], by simp⟩ ?_
  by_cases e : hnd W C o t m ln = 0
  · simp (disch := omega) only [Nat.not_lt_zero, nneg, nneg2, nlt, nle, neq, nI_add, pk_mul, nsub, ncl, nin, and_true, true_and, not_true_eq_false, not_false_eq_true, ↓reduceIte, Nat.reduceAdd, e, if_pos, if_neg]
    simpa [e, bn] using kk
  · simp (disch := omega) only [Nat.not_lt_zero, nneg, nneg2, nlt, nle, neq, nI_add, pk_mul, nsub, ncl, nin, and_true, true_and, not_true_eq_false, not_false_eq_true, ↓reduceIte, Nat.reduceAdd, if_pos, if_neg]
    simpa [e, bn] using kk
theorem barK_e {c F : Nat} {K : Int32 → AH → Prop} {pre rest : LN} {q : Nat × Nat × Nat} (hR : RG 57 n W B C ln pl h) (hF : WF c n W B C ln pl) (hc : c < 2000000000) (hFu : 20 ≤ F) (hl : ln = pre ++ q :: rest) (kk : K (nI (hnd W C q.1 q.2.1 q.2.2 pre)) h) : P_X8_barringAt F (nI pre.length) h K := by
  have hlen := WF_6 hF
  have hpl : pre.length < 6 := by rw [hl] at hlen; simp at hlen; omega
  have rq := hR.2.2.2.2.2.1 pre.length q (by rw [hl]; simp)
  have hv := WF_v hF q (by rw [hl]; simp)
  unfold P_X8_barringAt
  simp (disch := omega) only [Nat.not_lt_zero, nneg, nneg2, nlt, nle, neq, nI_add, pk_mul, nsub, ncl, nin, and_true, true_and, not_true_eq_false, not_false_eq_true, ↓reduceIte, Nat.reduceAdd, rq.1, rq.2.1, rq.2.2]
  exact rbar_e (o := q.1) (t := q.2.1) (m := q.2.2) hR hF hc hFu hv ⟨q :: rest, hl⟩ kk
theorem otherR_l {c F o t : Nat} {K : Int32 → AH → Prop} (hR : RG 57 n W B C ln pl h) (hF : WF c n W B C ln pl) (hc : c < 2000000000) (hFu : 20 ≤ F) (ho : o < 6) (ht : t < n) (hno : ∀ q ∈ ln, q.1 ≠ o) : ∀ (rest pre : LN) (N : Nat), ln = pre ++ rest → rest.length + 1 ≤ N → X8_isOtherRaise_c2 F K N (nI o) (nI t) (nI pre.length) h = K (bn (anyR C rest t)) h := by
  have hb : ∀ t o m, C t o m < 2147483648 := fun t o m => Nat.lt_of_le_of_lt (hF.2.2.2.2.1 t o m) (by omega)
  have hlen := WF_6 hF
  have hL := WF_v hF
  have hn := hF.1
  have hR0 := hR
  obtain ⟨-, -, -, -, rL, rk, -⟩ := hR
  intro rest
  induction rest with
  | nil =>
    intro pre N hl hN
    obtain ⟨N, rfl⟩ : ∃ k, N = k + 1 := ⟨N - 1, by simp at hN; omega⟩
    have : ln.length = pre.length := by rw [hl]; simp
    rw [X8_isOtherRaise_c2_s]
    simp (disch := omega) only [Nat.not_lt_zero, nneg, nneg2, nlt, nle, neq, nI_add, pk_mul, nsub, ncl, nin, and_true, true_and, not_true_eq_false, not_false_eq_true, ↓reduceIte, Nat.reduceAdd, if_pos, if_neg, rL, anyR, List.any_nil, bn, Bool.false_eq_true, if_false]
  | cons q rest ih =>
    intro pre N hl hN
    obtain ⟨N, rfl⟩ : ∃ k, N = k + 1 := ⟨N - 1, by simp at hN; omega⟩
    have hlen2 : ln.length = pre.length + rest.length + 1 := by rw [hl]; simp; omega
    have rq := rk pre.length q (by rw [hl]; simp)
    have hq : q ∈ ln := by rw [hl]; simp
    have hv := hL q hq
    have hq1 := hv.1
    have hq2 := hv.2.1
    have hqo := hno q hq
    have hN2 : rest.length + 1 ≤ N := by simp at hN; omega
    have ih2 := ih (pre ++ [q]) N (by rw [hl]; simp) hN2
    simp only [List.length_append, List.length_cons, List.length_nil, Nat.zero_add] at ih2
    rw [X8_isOtherRaise_c2_s]
    simp (disch := omega) only [Nat.not_lt_zero, nneg, nneg2, nlt, nle, neq, nI_add, pk_mul, nsub, ncl, nin, and_true, true_and, not_true_eq_false, not_false_eq_true, ↓reduceIte, Nat.reduceAdd, if_pos, if_neg, rL, rq.1, rq.2.1, X8_isOtherRaise_c61, hqo, if_false]
    by_cases e : q.2.1 = t
    · simp only [e, not_true_eq_false, if_false]
      rw [isR_e hR0 hn hb hq1 ht]
      cases hr : rai C q.1 t with
      | true =>
        have : anyR C (q :: rest) t = true := by simp [anyR, e, hr]
        rw [this]
        simp (disch := omega) only [bn, if_true, Nat.not_lt_zero, nneg, nneg2, nlt, nle, neq, nI_add, pk_mul, nsub, ncl, nin, and_true, true_and, not_true_eq_false, not_false_eq_true, ↓reduceIte, Nat.reduceAdd, if_pos, if_neg]
      | false =>
        have : anyR C (q :: rest) t = anyR C rest t := by simp [anyR, hr]
        rw [this]
        simp (disch := omega) only [bn, Bool.false_eq_true, if_false, Nat.not_lt_zero, nneg, nneg2, nlt, nle, neq, nI_add, pk_mul, nsub, ncl, nin, and_true, true_and, not_true_eq_false, not_false_eq_true, ↓reduceIte, Nat.reduceAdd, if_pos, if_neg]
        exact ih2
    · simp only [e, not_false_eq_true, if_true]
      have : anyR C (q :: rest) t = anyR C rest t := by simp [anyR, e]
      rw [this]
      exact ih2
end RB
