/-! the calls: both sides answer alike -/
theorem inL_of {ln : LN} {o : Nat} (h : inL ln o = true) : ∃ q ∈ ln, q.1 = o := by
  obtain ⟨q, hq, e⟩ := List.any_eq_true.mp h
  exact ⟨q, hq, by simpa using e⟩
theorem waiting_e {b n : Nat} {W B : Nat → Nat} {C : CT} {ln pl : LN} {g : Nat} {h : AH} {F o : Nat} {K : Int32 → AH → Prop} (hR : RC b n W B C ln pl g h) (hv : ∀ q, q ∈ ln → vq n q) (ho : o < 6) : P_X5_isWaiting F b (nI o) h K = K (nI (if inL ln o = true then 1 else 0)) h := by
  cases e : inL ln o with
  | false => rw [waiting_n hR ho (inL_f e)]; rfl
  | true =>
    obtain ⟨q, hq, rfl⟩ := inL_of e
    rw [waiting_y hR (hv q hq) hq]
    rfl
def ins (x : Int32) (a b : Nat) : Prop := ∃ k, a ≤ k ∧ k ≤ b ∧ x = nI k
theorem ins_not {x : Int32} {a b : Nat} (h : ¬ ins x a b) : x < nI 0 ∨ ∃ k, (k < a ∨ b < k) ∧ k < 2147483648 ∧ x = nI k := by
  rcases i32_cases x with q | ⟨k, q1, q2⟩
  · exact Or.inl q
  · refine Or.inr ⟨k, ?_, q1, q2⟩
    rcases Nat.lt_or_ge k a with z | z
    · exact Or.inl z
    · rcases Nat.lt_or_ge b k with z2 | z2
      · exact Or.inr z2
      · exact absurd ⟨k, z, z2, q2⟩ h
theorem inA_y {F a b : Nat} {x : Int32} {h : AH} {K : Int32 → AH → Prop} (hb : b < 2000000000) (hx : ins x a b) : P_X8_in F x (nI a) (nI b) h K = K (nI 1) h := by
  obtain ⟨k, h1, h2, rfl⟩ := hx
  unfold P_X8_in
  simp (disch := omega) only [Nat.not_lt_zero, nneg, nneg2, nlt, nle, neq, nI_add, pk_mul, nsub, ncl, nin, and_true, true_and, not_true_eq_false, not_false_eq_true, ↓reduceIte, Nat.reduceAdd, if_pos, if_neg]
theorem inA_n {F a b : Nat} {x : Int32} {h : AH} {K : Int32 → AH → Prop} (ha : a < 2000000000) (hb : b < 2000000000) (hx : ¬ ins x a b) : P_X8_in F x (nI a) (nI b) h K = K (nI 0) h := by
  unfold P_X8_in
  rcases ins_not hx with q | ⟨k, q1, q2, rfl⟩
  · simp only [neg_lt (k := a) q (by omega), if_true]
  · by_cases e : k < a
    · simp (disch := omega) only [Nat.not_lt_zero, nneg, nneg2, nlt, nle, neq, nI_add, pk_mul, nsub, ncl, nin, and_true, true_and, not_true_eq_false, not_false_eq_true, ↓reduceIte, Nat.reduceAdd, if_pos, if_neg]
    · simp (disch := omega) only [Nat.not_lt_zero, nneg, nneg2, nlt, nle, neq, nI_add, pk_mul, nsub, ncl, nin, and_true, true_and, not_true_eq_false, not_false_eq_true, ↓reduceIte, Nat.reduceAdd, if_pos, if_neg]
theorem isMode_y {F : Nat} {x : Int32} {h : AH} {K : Int32 → AH → Prop} (hx : ins x 1 5) : P_X7_isMode F x h K = K (nI 1) h := by
  obtain ⟨k, h1, h2, rfl⟩ := hx
  unfold P_X7_isMode
  simp (disch := omega) only [Nat.not_lt_zero, nneg, nneg2, nlt, nle, neq, nI_add, pk_mul, nsub, ncl, nin, and_true, true_and, not_true_eq_false, not_false_eq_true, ↓reduceIte, Nat.reduceAdd, if_pos, if_neg]
theorem isMode_n {F : Nat} {x : Int32} {h : AH} {K : Int32 → AH → Prop} (hx : ¬ ins x 1 5) : P_X7_isMode F x h K = K (nI 0) h := by
  unfold P_X7_isMode
  rcases ins_not hx with q | ⟨k, q1, q2, rfl⟩
  · simp only [neg_lt (k := 1) q (by omega), if_true]
  · by_cases e : k < 1
    · simp (disch := omega) only [Nat.not_lt_zero, nneg, nneg2, nlt, nle, neq, nI_add, pk_mul, nsub, ncl, nin, and_true, true_and, not_true_eq_false, not_false_eq_true, ↓reduceIte, Nat.reduceAdd, if_pos, if_neg]
    · simp (disch := omega) only [Nat.not_lt_zero, nneg, nneg2, nlt, nle, neq, nI_add, pk_mul, nsub, ncl, nin, and_true, true_and, not_true_eq_false, not_false_eq_true, ↓reduceIte, Nat.reduceAdd, if_pos, if_neg]
section CA
variable {m F : Nat} {h : AH} {G Z : AH → Prop} {x y z : Int32}
theorem call_ask (hFu : 500 ≤ F) (hI : INV m h) (hm : m < 513) (kk : ∀ h', INV (m + 1) h' → G h') : P_X7_ask F x y z h (fun r h1 => P_X8_ask F x y z h1 (fun r' h3 => if r = r' then G h3 else Z h3)) := by
  obtain ⟨c, l, n, W, B, C, ln, pl, g, hs⟩ := hI
  have hc := ST_c hs
  unfold P_X7_ask
  by_cases hx : isA n x y z
  · obtain ⟨q, hv, rfl, rfl, rfl⟩ := isA_of hx
    refine request_v hs.1 hs.2.2.1 (by omega) (by omega) hv (fun h1 h2 h3 => ?_)
    refine ask_v (RM_fr hs.2.1 h3 (by omega)) hs.2.2.1 (by omega) (by omega) hv (fun h4 h5 h6 => ?_)
    rw [if_pos rfl]
    exact kk _ (INV_t hs hm h2 h3 h5 h6 (WF_le (rqS_WF hs.2.2.1 hv) (by omega)))
  · simp only [request_n hs.1 hs.2.2.1 hx, ask_n hs.2.1 hs.2.2.1 hx, if_true]
    exact kk _ (INV_s hs hm)
theorem call_give (hFu : 500 ≤ F) (hI : INV m h) (hm : m < 513) (kk : ∀ h', INV (m + 1) h' → G h') : P_X7_give F x y z h (fun r h1 => P_X8_give F x y z h1 (fun r' h3 => if r = r' then G h3 else Z h3)) := by
  obtain ⟨c, l, n, W, B, C, ln, pl, g, hs⟩ := hI
  have hc := ST_c hs
  unfold P_X7_give
  by_cases hx : isA n x y z
  · obtain ⟨q, hv, rfl, rfl, rfl⟩ := isA_of hx
    refine giveUp_v hs.1 hs.2.2.1 (by omega) (by omega) hv (fun h1 h2 h3 => ?_)
    refine give_v (RM_fr hs.2.1 h3 (by omega)) hs.2.2.1 (by omega) (by omega) hv (fun h4 h5 h6 => ?_)
    rw [if_pos rfl]
    exact kk _ (INV_t hs hm h2 h3 h5 h6 (WF_le (gvS_WF hs.2.2.1 hv) (by omega)))
  · simp only [giveUp_n hs.1 hs.2.2.1 hx, give_n hs.2.1 hs.2.2.1 hx, if_true]
    exact kk _ (INV_s hs hm)
theorem call_leaves (hFu : 500 ≤ F) (hI : INV m h) (hm : m < 513) (kk : ∀ h', INV (m + 1) h' → G h') : P_X7_leaves F x h (fun r h1 => P_X8_leaves F x h1 (fun r' h3 => if r = r' then G h3 else Z h3)) := by
  obtain ⟨c, l, n, W, B, C, ln, pl, g, hs⟩ := hI
  have hc := ST_c hs
  unfold P_X7_leaves P_X8_leaves
  by_cases hx : inr x 6
  · rw [isOwner_y hx]
    simp only [isOwner_ry hx]
    obtain ⟨o, ho, rfl⟩ := hx
    simp (disch := omega) only [Nat.not_lt_zero, nneg, nneg2, nlt, nle, neq, nI_add, pk_mul, nsub, ncl, nin, and_true, true_and, not_true_eq_false, not_false_eq_true, ↓reduceIte, Nat.reduceAdd, if_pos, if_neg]
    refine gua_e hs.1 hs.2.2.1 (by omega) (by omega) ho (fun h1 h2 h3 => ?_)
    refine leavesAll_e (RM_fr hs.2.1 h3 (by omega)) hs.2.2.1 (by omega) (by omega) ho (fun h4 h5 h6 => ?_)
    simp only [if_true]
    exact kk _ (INV_t hs hm h2 h3 h5 h6 (WF_le (gaS_WF hs.2.2.1) (by omega)))
  · rw [isOwner_n hx]
    simp only [isOwner_rn hx, if_true]
    exact kk _ (INV_s hs hm)
theorem call_forgets (hFu : 500 ≤ F) (hI : INV m h) (hm : m < 513) (kk : ∀ h', INV (m + 1) h' → G h') : P_X7_forgets F x h (fun r h1 => P_X8_forgets F x h1 (fun r' h3 => if r = r' then G h3 else Z h3)) := by
  obtain ⟨c, l, n, W, B, C, ln, pl, g, hs⟩ := hI
  have hc := ST_c hs
  have hF := hs.2.2.1
  have hL : ∀ q, q ∈ ln → q.1 < 6 := fun q hq => (WF_v hF q hq).1
  have hlen := WF_6 hF
  unfold P_X7_forgets P_X8_forgets
  by_cases hx : inr x 6
  · rw [isOwner_y hx]
    simp only [isOwner_ry hx]
    obtain ⟨o, ho, rfl⟩ := hx
    simp (disch := omega) only [Nat.not_lt_zero, nneg, nneg2, nlt, nle, neq, nI_add, pk_mul, nsub, ncl, nin, and_true, true_and, not_true_eq_false, not_false_eq_true, ↓reduceIte, Nat.reduceAdd, if_pos, if_neg]
    rw [waiting_e hs.1 (WF_v hF) ho]
    cases e : inL ln o with
    | false =>
      simp (disch := omega) only [Bool.false_eq_true, if_false, Nat.not_lt_zero, nneg, nneg2, nlt, nle, neq, nI_add, pk_mul, nsub, ncl, nin, and_true, true_and, not_true_eq_false, not_false_eq_true, ↓reduceIte, Nat.reduceAdd, if_pos, if_neg]
      refine inLine_e hs.2.1.1 hL hlen ho (by omega) ?_
      rw [e]
      simp (disch := omega) only [bn, Bool.false_eq_true, if_false, Nat.not_lt_zero, nneg, nneg2, nlt, nle, neq, nI_add, pk_mul, nsub, ncl, nin, and_true, true_and, not_true_eq_false, not_false_eq_true, ↓reduceIte, Nat.reduceAdd, if_pos, if_neg, if_true]
      exact kk _ (INV_s hs hm)
    | true =>
      simp (disch := omega) only [if_true, Nat.not_lt_zero, nneg, nneg2, nlt, nle, neq, nI_add, pk_mul, nsub, ncl, nin, and_true, true_and, not_true_eq_false, not_false_eq_true, ↓reduceIte, Nat.reduceAdd, if_pos, if_neg]
      refine quit_e hs.1 hL hlen ho (by omega) (fun h1 h2 h3 => ?_)
      refine serve_e h2 (WF_rm hF) (by omega) (by omega) (fun h4 h5 h6 => ?_)
      have hf := fr_tr h3 h6
      have hM := RM_fr hs.2.1 hf (by omega)
      refine inLine_e hM.1 hL hlen ho (by omega) ?_
      rw [e]
      simp (disch := omega) only [bn, if_true, Nat.not_lt_zero, nneg, nneg2, nlt, nle, neq, nI_add, pk_mul, nsub, ncl, nin, and_true, true_and, not_true_eq_false, not_false_eq_true, ↓reduceIte, Nat.reduceAdd, if_pos, if_neg]
      obtain ⟨pre, q, rest, hl, hq, hpre⟩ := in_split e
      have hpl : pre.length < 6 := by rw [hl] at hlen; simp at hlen; omega
      refine place_y hM.1 hL hlen ho (by omega) hl hq hpre ?_
      refine lvL_e hM hF.1 hl hlen hF.2.2.2.2.2.2.2.2.1 (by omega) (fun h7 h8 h9 => ?_)
      have hrm : rm ln o = pre ++ rest := by
        have := hF.2.2.2.2.2.2.2.1
        rw [← hq, hl] at *
        exact rm_split this
      rw [← hrm] at h8
      refine serves_e h8 (WF_rm hF) (by omega) (by omega) (fun h10 h11 h12 => ?_)
      simp only [if_true]
      exact kk _ (INV_t hs hm h5 hf h11 (fm_tr h9 h12) (WF_le (sv_WF (WF_rm hF)) (by omega)))
  · rw [isOwner_n hx]
    simp only [isOwner_rn hx, if_true, not_true_eq_false, if_false]
    exact kk _ (INV_s hs hm)
theorem call_breaks (hFu : 500 ≤ F) (hI : INV m h) (hm : m < 513) (kk : ∀ h', INV (m + 1) h' → G h') : P_X7_breaks F h (fun r h1 => P_X8_breaks F h1 (fun r' h3 => if r = r' then G h3 else Z h3)) := by
  obtain ⟨c, l, n, W, B, C, ln, pl, g, hs⟩ := hI
  have hc := ST_c hs
  have hF := hs.2.2.1
  unfold P_X7_breaks P_X8_breaks
  refine ring_e hs.1 hF (by omega) (fun h1 h2 h3 => ?_)
  have hl : ringS (wfb W C ln) < 64 := mk6_lt _
  rw [least_e h2 hF (by omega) (by omega) hl]
  have hM := RM_fr hs.2.1 h3 (by omega)
  cases e : lst (asum C n) (ringS (wfb W C ln)) with
  | none =>
    simp only []
    rw [if_neg (by decide)]
    refine ringNow_e hM hF (by omega) (by omega) ?_
    rw [leastOf_e hM hF (by omega) (by omega) hl, e]
    simp only [if_true]
    exact kk _ (INV_t hs hm h2 h3 hM (fm_rf _) (WF_le hF (by omega)))
  | some p =>
    have hp := lst_lt e
    simp (disch := omega) only [Nat.not_lt_zero, nneg, nneg2, nlt, nle, neq, nI_add, pk_mul, nsub, ncl, nin, and_true, true_and, not_true_eq_false, not_false_eq_true, ↓reduceIte, Nat.reduceAdd, if_pos, if_neg, Nat.zero_le]
    refine gua_e h2 hF (by omega) (by omega) hp (fun h4 h5 h6 => ?_)
    have hM2 := RM_fr hM h6 (by omega)
    refine ringNow_e hM2 hF (by omega) (by omega) ?_
    rw [leastOf_e hM2 hF (by omega) (by omega) hl, e]
    simp (disch := omega) only [Nat.not_lt_zero, nneg, nneg2, nlt, nle, neq, nI_add, pk_mul, nsub, ncl, nin, and_true, true_and, not_true_eq_false, not_false_eq_true, ↓reduceIte, Nat.reduceAdd, if_pos, if_neg]
    refine leavesAll_e hM2 hF (by omega) (by omega) hp (fun h7 h8 h9 => ?_)
    exact kk _ (INV_t hs hm h5 (fr_tr h3 h6) h8 h9 (WF_le (gaS_WF hF) (by omega)))
theorem call_held (hI : INV m h) (hm : m < 513) (kk : ∀ h', INV (m + 1) h' → G h') : P_X7_held F x y z h (fun r h1 => P_X8_held F x y z h1 (fun r' h3 => if r = r' then G h3 else Z h3)) := by
  obtain ⟨c, l, n, W, B, C, ln, pl, g, hs⟩ := hI
  have hn := hs.2.2.1.1
  have done := kk _ (INV_s hs hm)
  unfold P_X7_held P_X8_held
  by_cases hx : inr x 6
  · simp (disch := omega) only [isOwner_y hx, Nat.not_lt_zero, nneg, nneg2, nlt, nle, neq, nI_add, pk_mul, nsub, ncl, nin, and_true, true_and, not_true_eq_false, not_false_eq_true, ↓reduceIte, Nat.reduceAdd, if_pos, if_neg]
    by_cases hy : inr y n
    · simp (disch := omega) only [isThing_y hs.1.1 hn hy, Nat.not_lt_zero, nneg, nneg2, nlt, nle, neq, nI_add, pk_mul, nsub, ncl, nin, and_true, true_and, not_true_eq_false, not_false_eq_true, ↓reduceIte, Nat.reduceAdd, if_pos, if_neg]
      by_cases hz : ins z 1 5
      · simp (disch := omega) only [isMode_y hz, Nat.not_lt_zero, nneg, nneg2, nlt, nle, neq, nI_add, pk_mul, nsub, ncl, nin, and_true, true_and, not_true_eq_false, not_false_eq_true, ↓reduceIte, Nat.reduceAdd, if_pos, if_neg, P_X5_cell]
        have e1 := hx
        have e2 := hy
        have e3 := hz
        obtain ⟨o, ho, rfl⟩ := hx
        obtain ⟨t, ht, rfl⟩ := hy
        obtain ⟨k, hk1, hk2, rfl⟩ := hz
        obtain ⟨r0, rW, rB, rC, -⟩ := hs.1
        obtain ⟨⟨s0, sW, sB, sC, -⟩, -⟩ := hs.2.1
        simp (disch := omega) only [Nat.not_lt_zero, nneg, nneg2, nlt, nle, neq, nI_add, pk_mul, nsub, ncl, nin, and_true, true_and, not_true_eq_false, not_false_eq_true, ↓reduceIte, Nat.reduceAdd, if_pos, if_neg, rC, isOwner_ry e1, isThing_ry s0 hn e2, inA_y (a := 1) (b := 5) (by omega) e3, P_X8_at, sC, if_true]
        exact done
      · simp (disch := omega) only [isMode_n hz, Nat.not_lt_zero, nneg, nneg2, nlt, nle, neq, nI_add, pk_mul, nsub, ncl, nin, and_true, true_and, not_true_eq_false, not_false_eq_true, ↓reduceIte, Nat.reduceAdd, if_pos, if_neg, isOwner_ry hx, isThing_ry hs.2.1.1.1 hn hy, inA_n (a := 1) (b := 5) (by omega) (by omega) hz, if_true]
        exact done
    · simp (disch := omega) only [isThing_n hs.1.1 hn hy, Nat.not_lt_zero, nneg, nneg2, nlt, nle, neq, nI_add, pk_mul, nsub, ncl, nin, and_true, true_and, not_true_eq_false, not_false_eq_true, ↓reduceIte, Nat.reduceAdd, if_pos, if_neg, isOwner_ry hx, isThing_rn hs.2.1.1.1 hn hy, if_true]
      exact done
  · simp (disch := omega) only [isOwner_rn hx, isOwner_n hx, Nat.not_lt_zero, nneg, nneg2, nlt, nle, neq, nI_add, pk_mul, nsub, ncl, nin, and_true, true_and, not_true_eq_false, not_false_eq_true, ↓reduceIte, Nat.reduceAdd, if_pos, if_neg, if_true]
    exact done
theorem call_waitsFor (hFu : 500 ≤ F) (hI : INV m h) (hm : m < 513) (kk : ∀ h', INV (m + 1) h' → G h') : P_X7_waitsFor F x h (fun r h1 => P_X8_waitsFor F x h1 (fun r' h3 => if r = r' then G h3 else Z h3)) := by
  obtain ⟨c, l, n, W, B, C, ln, pl, g, hs⟩ := hI
  have hc := ST_c hs
  have done := kk _ (INV_s hs hm)
  unfold P_X7_waitsFor P_X8_waitsFor
  by_cases hx : inr x 6
  · simp (disch := omega) only [isOwner_ry hx, isOwner_y hx, Nat.not_lt_zero, nneg, nneg2, nlt, nle, neq, nI_add, pk_mul, nsub, ncl, nin, and_true, true_and, not_true_eq_false, not_false_eq_true, ↓reduceIte, Nat.reduceAdd, if_pos, if_neg]
    obtain ⟨o, ho, rfl⟩ := hx
    rw [wfb_e hs.1 hs.2.2.1 (by omega) ho]
    refine waitsNow_e hs.2.1 hs.2.2.1 (by omega) (by omega) ho ?_
    simp only [if_true]
    exact done
  · simp (disch := omega) only [isOwner_rn hx, isOwner_n hx, Nat.not_lt_zero, nneg, nneg2, nlt, nle, neq, nI_add, pk_mul, nsub, ncl, nin, and_true, true_and, not_true_eq_false, not_false_eq_true, ↓reduceIte, Nat.reduceAdd, if_pos, if_neg, if_true]
    exact done
theorem call_ring (hFu : 500 ≤ F) (hI : INV m h) (hm : m < 513) (kk : ∀ h', INV (m + 1) h' → G h') : P_X7_ring F x h (fun r h1 => P_X8_ring F x h1 (fun r' h3 => if r = r' then G h3 else Z h3)) := by
  obtain ⟨c, l, n, W, B, C, ln, pl, g, hs⟩ := hI
  have hc := ST_c hs
  have hF := hs.2.2.1
  unfold P_X7_ring P_X8_ring
  by_cases hx : inr x 3
  · simp only [in_y (m := 2) (by omega) hx]
    obtain ⟨k, hk, rfl⟩ := hx
    simp (disch := omega) only [Nat.not_lt_zero, nneg, nneg2, nlt, nle, neq, nI_add, pk_mul, nsub, ncl, nin, and_true, true_and, not_true_eq_false, not_false_eq_true, ↓reduceIte, Nat.reduceAdd, if_pos, if_neg]
    refine ring_e hs.1 hF (by omega) (fun h1 h2 h3 => ?_)
    have hl : ringS (wfb W C ln) < 64 := mk6_lt _
    have hM := RM_fr hs.2.1 h3 (by omega)
    have done := kk _ (INV_t hs hm h2 h3 hM (fm_rf _) (WF_le hF (by omega)))
    rw [least_e h2 hF (by omega) (by omega) hl]
    by_cases e0 : k = 0
    · subst e0
      simp only [not_true_eq_false, if_false]
      refine ringNow_e hM hF (by omega) (by omega) ?_
      rw [leastOf_e hM hF (by omega) (by omega) hl]
      simp only [if_true]
      exact done
    · simp (disch := omega) only [Nat.not_lt_zero, nneg, nneg2, nlt, nle, neq, nI_add, pk_mul, nsub, ncl, nin, and_true, true_and, not_true_eq_false, not_false_eq_true, ↓reduceIte, Nat.reduceAdd, if_pos, if_neg]
      cases e : lst (asum C n) (ringS (wfb W C ln)) with
      | none =>
        simp only []
        rw [if_neg (by decide)]
        refine ringNow_e hM hF (by omega) (by omega) ?_
        rw [leastOf_e hM hF (by omega) (by omega) hl, e]
        simp only [if_true, not_true_eq_false, if_false, ite_self]
        exact done
      | some p =>
        have hp := lst_lt e
        simp (disch := omega) only [Nat.not_lt_zero, nneg, nneg2, nlt, nle, neq, nI_add, pk_mul, nsub, ncl, nin, and_true, true_and, not_true_eq_false, not_false_eq_true, ↓reduceIte, Nat.reduceAdd, if_pos, if_neg, Nat.zero_le]
        by_cases e1 : k = 1
        · subst e1
          simp only [not_true_eq_false, if_false]
          refine ringNow_e hM hF (by omega) (by omega) ?_
          rw [leastOf_e hM hF (by omega) (by omega) hl, e]
          simp only [if_true]
          exact done
        · simp (disch := omega) only [Nat.not_lt_zero, nneg, nneg2, nlt, nle, neq, nI_add, pk_mul, nsub, ncl, nin, and_true, true_and, not_true_eq_false, not_false_eq_true, ↓reduceIte, Nat.reduceAdd, if_pos, if_neg]
          rw [asked_e h2 hF.1 hp (by omega)]
          refine ringNow_e hM hF (by omega) (by omega) ?_
          rw [leastOf_e hM hF (by omega) (by omega) hl, e]
          simp (disch := omega) only [Nat.not_lt_zero, nneg, nneg2, nlt, nle, neq, nI_add, pk_mul, nsub, ncl, nin, and_true, true_and, not_true_eq_false, not_false_eq_true, ↓reduceIte, Nat.reduceAdd, if_pos, if_neg]
          rw [countsOf_e hM hF.1 hp (by omega)]
          simp only [if_true]
          exact done
  · simp only [in_n (m := 2) (by omega) hx]
    have done := kk _ (INV_s hs hm)
    simp only [not_true_eq_false, if_false]
    rcases inr_not hx with q | ⟨k, q1, q2, rfl⟩
    · rw [if_pos q]
      simp only [if_true]
      exact done
    · simp (disch := omega) only [Nat.not_lt_zero, nneg, nneg2, nlt, nle, neq, nI_add, pk_mul, nsub, ncl, nin, and_true, true_and, not_true_eq_false, not_false_eq_true, ↓reduceIte, Nat.reduceAdd, if_pos, if_neg, if_true]
      exact done
end CA
