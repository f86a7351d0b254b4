/-! the reference: serving, asking, giving up -/
theorem nx_nil (W : Nat → Nat) (C : CT) : nx W C [] = none := rfl
section RD
variable {n : Nat} {W B : Nat → Nat} {pl : LN}
theorem split_at {ln : LN} {j : Nat} {p : Nat × Nat × Nat} (h : ln[j]? = some p) : ∃ pre rest, ln = pre ++ p :: rest ∧ pre.length = j := by
  have hj := (List.getElem?_eq_some_iff.mp h).1
  have he := (List.getElem?_eq_some_iff.mp h).2
  refine ⟨ln.take j, ln.drop (j + 1), ?_, by rw [List.length_take]; omega⟩
  rw [← he, List.getElem_cons_drop, List.take_append_drop]
/-- one after another served: the next one's place is at hand -/
theorem servR_l {F : Nat} {K : Int32 → AH → Prop} (hFu : 40 ≤ F) : ∀ (f c N k g : Nat) (C : CT) (ln : LN) (h : AH) (r : Int32), ln.length ≤ f → f + 1 ≤ N → c + f < 1900000000 → RM n W B C ln pl g h → WF c n W B C ln pl → (match nx W C ln with | none => r = -1 | some p => ∃ j : Nat, j < ln.length ∧ ln[j]? = some p ∧ r = nI j) →
    (∀ h', RM n W B (svS W f C ln k).1 (svS W f C ln k).2.1 pl (g + (svS W f C ln k).2.2 - k) h' → fm h h' → K (nI (svS W f C ln k).2.2) h') → X8_serves_c7 F K N (nI k) r h := by
  intro f
  induction f with
  | zero =>
    intro c N k g C ln h r h1 h3 h4 hR hF hr kk
    obtain ⟨N, rfl⟩ : ∃ k, N = k + 1 := ⟨N - 1, by omega⟩
    have : ln = [] := List.length_eq_zero_iff.mp (by omega)
    subst this
    rw [nx_nil] at hr
    simp only at hr
    subst hr
    rw [X8_serves_c7_s, if_pos rfl]
    exact kk h (by simpa [svS] using hR) (fm_rf h)
  | succ f ih =>
    intro c N k g C ln h r h1 h3 h4 hR hF hr kk
    obtain ⟨N, rfl⟩ : ∃ k, N = k + 1 := ⟨N - 1, by omega⟩
    rw [X8_serves_c7_s]
    unfold svS at kk
    cases e : nx W C ln with
    | none =>
      simp only [e] at kk hr
      subst hr
      rw [if_pos rfl]
      exact kk h (by simpa using hR) (fm_rf h)
    | some q =>
      simp only [e] at kk hr
      obtain ⟨j, hj, hjp, rfl⟩ := hr
      obtain ⟨pre, rest, hl, rfl⟩ := split_at hjp
      have hlen := WF_6 hF
      have hq := nx_mem e
      have hv := WF_v hF q hq
      have rq := hR.1.2.2.2.2.2.1 pre.length q hjp
      have hrm : rm ln q.1 = pre ++ rest := by
        have := hF.2.2.2.2.2.2.2.1
        rw [hl] at this ⊢
        exact rm_split this
      have hl2 : (pre ++ rest).length ≤ f := by
        rw [hl] at h1
        simp at h1 ⊢
        omega
      have hF2 := WF_rm (o := q.1) hF
      rw [hrm] at hF2 kk
      simp (disch := omega) only [Nat.not_lt_zero, nneg, nneg2, nlt, nle, neq, nI_add, pk_mul, nsub, ncl, nin, and_true, true_and, not_true_eq_false, not_false_eq_true, ↓reduceIte, Nat.reduceAdd, rq.1, rq.2.1, rq.2.2]
      refine lvL_e hR hF.1 hl hlen hF.2.2.2.2.2.2.2.2.1 hFu (fun h1 hR1 hf1 => ?_)
      refine rgrant_e (o := q.1) (t := q.2.1) (m := q.2.2) hR1 hF.2.1 hF.1 (WF_6 hF2) hF.2.2.2.2.2.2.2.2.1 (by omega) hv (okA_up hF.2.1 hF.2.2.2.2.1 (by omega) hv.2.1 hv.2.2) (fun h2 hR2 hf2 => ?_)
      have hF3 := WF_up hF2 hv
      refine nextR_e hR2.1 hF3 (by omega) (by omega) (fun r hr => ?_)
      refine ih (c + 1) N (k + 1) (g + 1) _ _ h2 r hl2 (by omega) (by omega) hR2 hF3 hr (fun h3 hR3 hf3 => kk h3 ?_ (fm_tr hf1 (fm_tr hf2 hf3)))
      rw [show g + (svS W f (sft W C q.1 q.2.1 q.2.2 (· + 1)) (pre ++ rest) (k + 1)).2.2 - k = g + 1 + (svS W f (sft W C q.1 q.2.1 q.2.2 (· + 1)) (pre ++ rest) (k + 1)).2.2 - (k + 1) by omega]
      exact hR3
theorem serves_e {c F g : Nat} {C : CT} {ln : LN} {h : AH} {K : Int32 → AH → Prop} (hR : RM n W B C ln pl g h) (hF : WF c n W B C ln pl) (hFu : 40 ≤ F) (hc : c < 1800000000)
    (kk : ∀ h', RM n W B (sv W C ln).1 (sv W C ln).2.1 pl (g + (sv W C ln).2.2) h' → fm h h' → K (nI (sv W C ln).2.2) h') : P_X8_serves F h K := by
  unfold P_X8_serves
  refine nextR_e hR.1 hF (by omega) (by omega) (fun r hr => ?_)
  exact servR_l hFu 6 c F 0 g C ln h r (WF_6 hF) (by omega) (by omega) hR hF hr kk
theorem joinR_e {C : CT} {ln : LN} {h : AH} {g F o t m : Nat} {K : Int32 → AH → Prop} (hR : RM n W B C ln pl g h) (hv : vq n (o, t, m)) (hn : n ≤ 12) (hlen : ln.length < 6)
    (kk : ∀ h', RM n W B C (ln ++ [(o, t, m)]) pl g h' → fm h h' → K (nI 0) h') : X8_ask_c63 F K (nI o) (nI t) (nI m) h := by
  obtain ⟨⟨r0, rW, rB, rC, rL, rk, rP, rp⟩, rg⟩ := hR
  unfold X8_ask_c63
  have e1 : ∀ x y z, (up (up (up h 57 (26 + 3 * ln.length) x) 57 (26 + 3 * ln.length + 1) y) 57 (26 + 3 * ln.length + 2) z) 57 25 = nI ln.length := fun x y z => by rw [ucc (by omega), ucc (by omega), ucc (by omega)]; exact rL
  simp (disch := omega) only [rL, Nat.not_lt_zero, nneg, nneg2, nlt, nle, neq, nI_add, pk_mul, nsub, ncl, nin, and_true, true_and, not_true_eq_false, not_false_eq_true, ↓reduceIte, Nat.reduceAdd, e1]
  have fr' : fm h (up (up (up (up h 57 (26 + 3 * ln.length) (nI o)) 57 (26 + 3 * ln.length + 1) (nI t)) 57 (26 + 3 * ln.length + 2) (nI m)) 57 25 (nI (ln.length + 1))) := fm_tr (fm_tr (fm_tr fm_57 fm_57) fm_57) fm_57
  have oth : ∀ j, j ≠ 25 → (j < 26 + 3 * ln.length ∨ 26 + 3 * ln.length + 3 ≤ j) → (up (up (up (up h 57 (26 + 3 * ln.length) (nI o)) 57 (26 + 3 * ln.length + 1) (nI t)) 57 (26 + 3 * ln.length + 2) (nI m)) 57 25 (nI (ln.length + 1))) 57 j = h 57 j := fun j h1 h2 => by rw [ucc h1, ucc (by omega), ucc (by omega), ucc (by omega)]
  refine kk _ ⟨⟨?_, ?_, ?_, ?_, ?_, ?_, ?_, ?_⟩, by rw [up_c (by omega), up_c (by omega), up_c (by omega), up_c (by omega)]; exact rg⟩ fr'
  · rw [oth 0 (by omega) (by omega)]; exact r0
  · intro t' ht; rw [oth _ (by omega) (by omega)]; exact rW t' ht
  · intro t' ht; rw [oth _ (by omega) (by omega)]; exact rB t' ht
  · intro t' o' m' h1 h2 h3 h4; rw [oth _ (by omega) (by omega)]; exact rC t' o' m' h1 h2 h3 h4
  · rw [up_s]; simp
  · intro k p hk
    have hkl := (List.getElem?_eq_some_iff.mp hk).1
    simp at hkl
    by_cases e : k < ln.length
    · rw [List.getElem?_append_left e] at hk
      rw [oth _ (by omega) (by omega), oth _ (by omega) (by omega), oth _ (by omega) (by omega)]
      exact rk k p hk
    · have : k = ln.length := by omega
      subst this
      simp at hk
      rw [← hk]
      refine ⟨?_, ?_, ?_⟩
      · rw [ucc (by omega), ucc (by omega), ucc (by omega), up_s]
      · rw [ucc (by omega), ucc (by omega), up_s]
      · rw [ucc (by omega), up_s]
  · rw [oth _ (by omega) (by omega)]; exact rP
  · intro k p hk
    rw [oth _ (by omega) (by omega), oth _ (by omega) (by omega), oth _ (by omega) (by omega)]
    exact rp k p hk
theorem ask_v {c F g : Nat} {C : CT} {ln : LN} {h : AH} {K : Int32 → AH → Prop} {q : Nat × Nat × Nat} (hR : RM n W B C ln pl g h) (hF : WF c n W B C ln pl) (hFu : 40 ≤ F) (hc : c < 1800000000) (hv : vq n q)
    (kk : ∀ h', RM n W B (rqS W C ln q).2.1 (rqS W C ln q).2.2.1 pl (g + (rqS W C ln q).2.2.2) h' → fm h h' → K (rqS W C ln q).1 h') : P_X8_ask F (nI q.1) (nI q.2.1) (nI q.2.2) h K := by
  have hb : ∀ t o m, C t o m < 2147483648 := fun t o m => Nat.lt_of_le_of_lt (hF.2.2.2.2.1 t o m) (by omega)
  have hL : ∀ q, q ∈ ln → q.1 < 6 := fun q hq => (WF_v hF q hq).1
  have hlen := WF_6 hF
  unfold P_X8_ask
  rw [isAsk_ry hR.1.1 hF.1 (isA_vq hv)]
  simp (disch := omega) only [Nat.not_lt_zero, nneg, nneg2, nlt, nle, neq, nI_add, pk_mul, nsub, ncl, nin, and_true, true_and, not_true_eq_false, not_false_eq_true, ↓reduceIte, Nat.reduceAdd, if_pos, if_neg]
  unfold rqS at kk
  refine inLine_e hR.1 hL hlen hv.1 (by omega) ?_
  cases e : inL ln q.1 with
  | true =>
    simp only [e, if_true] at kk
    simp (disch := omega) only [bn, if_true, Nat.not_lt_zero, nneg, nneg2, nlt, nle, neq, nI_add, pk_mul, nsub, ncl, nin, and_true, true_and, not_true_eq_false, not_false_eq_true, ↓reduceIte, Nat.reduceAdd, if_pos, if_neg]
    exact kk h hR (fm_rf h)
  | false =>
    have hno := inL_f e
    simp only [e, Bool.false_eq_true, if_false] at kk
    simp (disch := omega) only [bn, Bool.false_eq_true, if_false, Nat.not_lt_zero, nneg, nneg2, nlt, nle, neq, nI_add, pk_mul, nsub, ncl, nin, and_true, true_and, not_true_eq_false, not_false_eq_true, ↓reduceIte, Nat.reduceAdd, if_pos, if_neg]
    refine canBe_e (o := q.1) (t := q.2.1) (m := q.2.2) hR.1 hF (by omega) (by omega) hv ?_
    have hq2 := hv.2.1
    have hn12 := hF.1
    by_cases e1 : hnd W C q.1 q.2.1 q.2.2 ln = 0
    · rw [if_pos e1] at kk
      have e2 : bn (decide (hnd W C q.1 q.2.1 q.2.2 ln = 0)) = nI 1 := by simp [bn, e1]
      simp (disch := omega) only [e2, Nat.not_lt_zero, nneg, nneg2, nlt, nle, neq, nI_add, pk_mul, nsub, ncl, nin, and_true, true_and, not_true_eq_false, not_false_eq_true, ↓reduceIte, Nat.reduceAdd, if_pos, if_neg]
      exact rgrant_e (o := q.1) (t := q.2.1) (m := q.2.2) hR hF.2.1 hF.1 hlen hF.2.2.2.2.2.2.2.2.1 (by omega) hv (okA_up hF.2.1 hF.2.2.2.2.1 (by omega) hv.2.1 hv.2.2) kk
    · rw [if_neg e1] at kk
      have e2 : bn (decide (hnd W C q.1 q.2.1 q.2.2 ln = 0)) = nI 0 := by simp [bn, e1]
      simp (disch := omega) only [e2, Nat.not_lt_zero, nneg, nneg2, nlt, nle, neq, nI_add, pk_mul, nsub, ncl, nin, and_true, true_and, not_true_eq_false, not_false_eq_true, ↓reduceIte, Nat.reduceAdd, if_pos, if_neg]
      rw [isR_e hR.1 hF.1 hb hv.1 hq2]
      have hl6 : ln.length < 6 := by
        have := WF_6 (WF_join hF hv hno)
        simp at this
        omega
      cases hr : rai C q.1 q.2.1 with
      | false =>
        simp only [hr, Bool.false_eq_true, false_and, if_false] at kk
        simp (disch := omega) only [bn, Bool.false_eq_true, if_false, Nat.not_lt_zero, nneg, nneg2, nlt, nle, neq, nI_add, pk_mul, nsub, ncl, nin, and_true, true_and, not_true_eq_false, not_false_eq_true, ↓reduceIte, Nat.reduceAdd, if_pos, if_neg]
        exact joinR_e (F := F) (o := q.1) (t := q.2.1) (m := q.2.2) hR hv hF.1 hl6 kk
      | true =>
        simp only [hr, true_and] at kk
        simp (disch := omega) only [bn, if_true, Nat.not_lt_zero, nneg, nneg2, nlt, nle, neq, nI_add, pk_mul, nsub, ncl, nin, and_true, true_and, not_true_eq_false, not_false_eq_true, ↓reduceIte, Nat.reduceAdd, if_pos, if_neg]
        unfold P_X8_isOtherRaise
        have ho := otherR_l (F := F) (K := fun (r10 : Int32) (h9 : AH) => if r10 = nI 0 then (X8_ask_c63 F K (nI q.1) (nI q.2.1) (nI q.2.2) h9) else (K (-2) h9)) hR.1 hF (by omega) (by omega) hv.1 hq2 hno ln [] F rfl (by omega)
        rw [show ([] : LN).length = 0 from rfl] at ho
        rw [ho]
        cases hw : anyR C ln q.2.1 with
        | false =>
          simp only [hw, Bool.false_eq_true, if_false] at kk
          simp (disch := omega) only [bn, Bool.false_eq_true, if_false, Nat.not_lt_zero, nneg, nneg2, nlt, nle, neq, nI_add, pk_mul, nsub, ncl, nin, and_true, true_and, not_true_eq_false, not_false_eq_true, ↓reduceIte, Nat.reduceAdd, if_pos, if_neg]
          exact joinR_e (F := F) (o := q.1) (t := q.2.1) (m := q.2.2) hR hv hF.1 hl6 kk
        | true =>
          simp only [hw, if_true] at kk
          simp (disch := omega) only [bn, if_true, Nat.not_lt_zero, nneg, nneg2, nlt, nle, neq, nI_add, pk_mul, nsub, ncl, nin, and_true, true_and, not_true_eq_false, not_false_eq_true, ↓reduceIte, Nat.reduceAdd, if_pos, if_neg]
          exact kk h hR (fm_rf h)
theorem ask_n {F g c : Nat} {C : CT} {ln : LN} {h : AH} {K : Int32 → AH → Prop} {x y z : Int32} (hR : RM n W B C ln pl g h) (hF : WF c n W B C ln pl) (hx : ¬ isA n x y z) : P_X8_ask F x y z h K = K (-1) h := by
  unfold P_X8_ask
  rw [isAsk_rn hR.1.1 hF.1 hx]
  simp (disch := omega) only [Nat.not_lt_zero, nneg, nneg2, nlt, nle, neq, nI_add, pk_mul, nsub, ncl, nin, and_true, true_and, not_true_eq_false, not_false_eq_true, ↓reduceIte, Nat.reduceAdd, if_pos, if_neg]
theorem give_v {c F g : Nat} {C : CT} {ln : LN} {h : AH} {K : Int32 → AH → Prop} {q : Nat × Nat × Nat} (hR : RM n W B C ln pl g h) (hF : WF c n W B C ln pl) (hFu : 40 ≤ F) (hc : c < 1800000000) (hv : vq n q)
    (kk : ∀ h', RM n W B (gvS W C ln q).2.1 (gvS W C ln q).2.2.1 pl (g + (gvS W C ln q).2.2.2) h' → fm h h' → K (gvS W C ln q).1 h') : P_X8_give F (nI q.1) (nI q.2.1) (nI q.2.2) h K := by
  unfold P_X8_give
  rw [isAsk_ry hR.1.1 hF.1 (isA_vq hv)]
  have hq1 := hv.1
  have hq2 := hv.2.1
  have hq3 := hv.2.2
  have hn12 := hF.1
  have rC := hR.1.2.2.2.1
  have hb := hF.2.2.2.2.1 q.2.1 q.1 q.2.2
  simp (disch := omega) only [Nat.not_lt_zero, nneg, nneg2, nlt, nle, neq, nI_add, pk_mul, nsub, ncl, nin, and_true, true_and, not_true_eq_false, not_false_eq_true, ↓reduceIte, Nat.reduceAdd, if_pos, if_neg, P_X8_at, rC]
  unfold gvS at kk
  by_cases e : C q.2.1 q.1 q.2.2 = 0
  · simp only [e, if_true, not_true_eq_false, if_false] at kk ⊢
    exact kk h hR (fm_rf h)
  · simp only [e, if_false, not_false_eq_true, if_true] at kk ⊢
    refine chg_e (o := q.1) (t := q.2.1) (m := q.2.2) hR.1 hF.2.1 hF.1 (WF_6 hF) hF.2.2.2.2.2.2.2.2.1 (by omega) hv (okA_dn hF.2.1 hF.2.2.2.2.1 (by omega) hq1 hq2 hq3 hF.2.2.2.2.2.1 (by omega)) (fun h1 hR1 hf1 => ?_)
    have hR1' : RM n W B (sft W C q.1 q.2.1 q.2.2 (· - 1)) ln pl g h1 := ⟨hR1, by rw [hf1 56 (by omega)]; exact hR.2⟩
    exact serves_e hR1' (WF_dn hF hv (by omega)) hFu hc (fun h2 hR2 hf2 => kk h2 hR2 (fm_tr ⟨fun a h1 _ => hf1 a h1, fun k _ => by rw [hf1 56 (by omega)]⟩ hf2))
theorem give_n {F g c : Nat} {C : CT} {ln : LN} {h : AH} {K : Int32 → AH → Prop} {x y z : Int32} (hR : RM n W B C ln pl g h) (hF : WF c n W B C ln pl) (hx : ¬ isA n x y z) : P_X8_give F x y z h K = K (-1) h := by
  unfold P_X8_give
  rw [isAsk_rn hR.1.1 hF.1 hx]
  simp (disch := omega) only [Nat.not_lt_zero, nneg, nneg2, nlt, nle, neq, nI_add, pk_mul, nsub, ncl, nin, and_true, true_and, not_true_eq_false, not_false_eq_true, ↓reduceIte, Nat.reduceAdd, if_pos, if_neg]
/-- the counts of an owner emptied (for all twelve) -/
theorem emp_l {F o : Nat} {C : CT} {ln : LN} {g : Nat} {K : AH → Prop} (ho : o < 6) (hFu : 20 ≤ F) (h0 : AH) (hn : n ≤ 12) (hR0 : RM n W B C ln pl g h0) (hl : ln.length ≤ 6) (hp : pl.length ≤ 12) (kk : ∀ h', RM n W B (clrO C o) ln pl g h' → fm h0 h' → K h') : X8_emptiesOwner_c16 F K (nI o) h0 := by
  obtain ⟨⟨r0, rW, rB, rC, rL, rk, rP, rp⟩, rg⟩ := hR0
  unfold X8_emptiesOwner_c16
  /- the invariant: places of o below a bound are 0, all others as they were -/
  have inv : ∀ (r N t : Nat) (h : AH), t + r = 12 → r + 1 ≤ N → (∀ a, a ≠ 57 → h a = h0 a) → (∀ j, h 57 j = if 81 + (o * 12) * 5 ≤ j ∧ j < 81 + (o * 12 + t) * 5 then nI 0 else h0 57 j) → X8_emptiesOwner_c18 F K N (nI o) (nI t) h := by
    intro r
    induction r with
    | zero =>
      intro N t h h1 h2 hf hj
      obtain ⟨N, rfl⟩ : ∃ k, N = k + 1 := ⟨N - 1, by omega⟩
      have : t = 12 := by omega
      subst this
      rw [X8_emptiesOwner_c18_s]
      simp (disch := omega) only [Nat.not_lt_zero, nneg, nneg2, nlt, nle, neq, nI_add, pk_mul, nsub, ncl, nin, and_true, true_and, not_true_eq_false, not_false_eq_true, ↓reduceIte, Nat.reduceAdd, if_pos, if_neg]
      have oth : ∀ j, (j < 81 + (o * 12) * 5 ∨ 81 + (o * 12 + 12) * 5 ≤ j) → h 57 j = h0 57 j := fun j h3 => by rw [hj j, if_neg (by omega)]
      refine kk h ⟨⟨?_, ?_, ?_, ?_, ?_, ?_, ?_, ?_⟩, by rw [hf 56 (by omega)]; exact rg⟩ ⟨fun a h1 _ => hf a h1, fun k _ => by rw [hf 56 (by omega)]⟩
      · rw [oth _ (by omega)]; exact r0
      · intro t' ht; rw [oth _ (by omega)]; exact rW t' ht
      · intro t' ht; rw [oth _ (by omega)]; exact rB t' ht
      · intro t' o' m' h1 h2 h3 h4
        unfold clrO
        by_cases e : o' = o
        · subst e
          rw [hj _, if_pos (by omega), if_pos rfl]
        · rw [oth _ (by omega), if_neg e]
          exact rC t' o' m' h1 h2 h3 h4
      · rw [oth _ (by omega)]; exact rL
      · intro k p hk
        have hkl := (List.getElem?_eq_some_iff.mp hk).1
        rw [oth _ (by omega), oth _ (by omega), oth _ (by omega)]
        exact rk k p hk
      · rw [oth _ (by omega)]; exact rP
      · intro k p hk
        have hkl := (List.getElem?_eq_some_iff.mp hk).1
        rw [oth _ (by omega), oth _ (by omega), oth _ (by omega)]
        exact rp k p hk
    | succ r ih =>
      intro N t h h1 h2 hf hj
      obtain ⟨N, rfl⟩ : ∃ k, N = k + 1 := ⟨N - 1, by omega⟩
      rw [X8_emptiesOwner_c18_s]
      simp (disch := omega) only [Nat.not_lt_zero, nneg, nneg2, nlt, nle, neq, nI_add, pk_mul, nsub, ncl, nin, and_true, true_and, not_true_eq_false, not_false_eq_true, ↓reduceIte, Nat.reduceAdd, if_pos, if_neg]
      have inn : ∀ (d M m : Nat) (h : AH), m + d = 6 → 1 ≤ m → d + 1 ≤ M → (∀ a, a ≠ 57 → h a = h0 a) → (∀ j, h 57 j = if 81 + (o * 12) * 5 ≤ j ∧ j < 81 + (o * 12 + t) * 5 + m - 1 then nI 0 else h0 57 j) → X8_emptiesOwner_c27 F (X8_emptiesOwner_c18 F K N) K M (nI o) (nI t) (nI m) h := by
        intro d
        induction d with
        | zero =>
          intro M m h h1 h2 h3 hf hj
          obtain ⟨M, rfl⟩ : ∃ k, M = k + 1 := ⟨M - 1, by omega⟩
          have : m = 6 := by omega
          subst this
          rw [X8_emptiesOwner_c27_s]
          simp (disch := omega) only [Nat.not_lt_zero, nneg, nneg2, nlt, nle, neq, nI_add, pk_mul, nsub, ncl, nin, and_true, true_and, not_true_eq_false, not_false_eq_true, ↓reduceIte, Nat.reduceAdd, if_pos, if_neg]
          refine ih N (t + 1) h (by omega) (by omega) hf (fun j => ?_)
          rw [hj j]
          by_cases e : 81 + (o * 12) * 5 ≤ j ∧ j < 81 + (o * 12 + t) * 5 + 6 - 1
          · rw [if_pos e, if_pos (by omega)]
          · rw [if_neg e, if_neg (by omega)]
        | succ d ihd =>
          intro M m h h1 h2 h3 hf hj
          obtain ⟨M, rfl⟩ : ∃ k, M = k + 1 := ⟨M - 1, by omega⟩
          rw [X8_emptiesOwner_c27_s]
          simp (disch := omega) only [Nat.not_lt_zero, nneg, nneg2, nlt, nle, neq, nI_add, pk_mul, nsub, ncl, nin, and_true, true_and, not_true_eq_false, not_false_eq_true, ↓reduceIte, Nat.reduceAdd, if_pos, if_neg, P_X8_at]
          refine ihd M (m + 1) _ (by omega) (by omega) (by omega) (fun a ha => (up_ne _ _ _ _ ha).trans (hf a ha)) (fun j => ?_)
          by_cases ej : j = 81 + (o * 12 + t) * 5 + m - 1
          · rw [ej, up_s, if_pos (by omega)]
          · rw [ucc ej, hj j]
            by_cases e : 81 + (o * 12) * 5 ≤ j ∧ j < 81 + (o * 12 + t) * 5 + m - 1
            · rw [if_pos e, if_pos (by omega)]
            · rw [if_neg e, if_neg (by omega)]
      exact inn 5 F 1 h (by omega) (by omega) (by omega) hf (fun j => by
        rw [hj j]
        by_cases e : 81 + (o * 12) * 5 ≤ j ∧ j < 81 + (o * 12 + t) * 5
        · rw [if_pos e, if_pos (by omega)]
        · rw [if_neg e, if_neg (by omega)])
  exact inv 12 F 0 h0 (by omega) (by omega) (fun _ _ => rfl) (fun j => by rw [if_neg (by omega)])
theorem rm_no {ln : LN} {o : Nat} (h : inL ln o = false) : rm ln o = ln := List.filter_eq_self.mpr (fun q hq => by simpa using inL_f h q hq)
theorem emp_e {c F g o : Nat} {C : CT} {ln : LN} {h : AH} {K : AH → Prop} (hR : RM n W B C ln pl g h) (hF : WF c n W B C ln pl) (hFu : 40 ≤ F) (ho : o < 6)
    (kk : ∀ h', RM n W B (clrO C o) (rm ln o) pl g h' → fm h h' → K h') : P_X8_emptiesOwner F (nI o) h K := by
  have hL : ∀ q, q ∈ ln → q.1 < 6 := fun q hq => (WF_v hF q hq).1
  have hlen := WF_6 hF
  have hp := hF.2.2.2.2.2.2.2.2.1
  unfold P_X8_emptiesOwner
  cases e : inL ln o with
  | false =>
    rw [rm_no e] at kk
    refine place_n hR.1 hL hlen ho (by omega) e ?_
    rw [if_pos rfl]
    exact emp_l ho (by omega) h hF.1 hR hlen hp kk
  | true =>
    obtain ⟨pre, q, rest, hl, hq, hpre⟩ := in_split e
    have hpl : pre.length < 6 := by rw [hl] at hlen; simp at hlen; omega
    refine place_y hR.1 hL hlen ho (by omega) hl hq hpre ?_
    simp (disch := omega) only [Nat.not_lt_zero, nneg, nneg2, nlt, nle, neq, nI_add, pk_mul, nsub, ncl, nin, and_true, true_and, not_true_eq_false, not_false_eq_true, ↓reduceIte, Nat.reduceAdd]
    refine lvL_e hR hF.1 hl hlen hp hFu (fun h1 hR1 hf1 => ?_)
    have hrm : rm ln o = pre ++ rest := by
      have := hF.2.2.2.2.2.2.2.1
      rw [← hq, hl] at *
      exact rm_split this
    rw [hrm] at kk
    refine emp_l ho (by omega) h1 hF.1 hR1 (by rw [hl] at hlen; simp at hlen ⊢; omega) hp (fun h2 hR2 hf2 => kk h2 hR2 (fm_tr hf1 hf2))
theorem leavesAll_e {c F g o : Nat} {C : CT} {ln : LN} {h : AH} {K : Int32 → AH → Prop} (hR : RM n W B C ln pl g h) (hF : WF c n W B C ln pl) (hFu : 40 ≤ F) (hc : c < 1800000000) (ho : o < 6)
    (kk : ∀ h', RM n W B (gaS W C ln o).1 (gaS W C ln o).2.1 pl (g + (gaS W C ln o).2.2) h' → fm h h' → K (nI (gaS W C ln o).2.2) h') : P_X8_leavesAll F (nI o) h K := by
  unfold P_X8_leavesAll
  exact emp_e hR hF hFu ho (fun h1 hR1 hf1 => serves_e hR1 (WF_clr (WF_rm hF)) hFu hc (fun h2 hR2 hf2 => kk h2 hR2 (fm_tr hf1 hf2)))
theorem waitsNow_e {c F g o : Nat} {C : CT} {ln : LN} {h : AH} {K : Int32 → AH → Prop} (hR : RM n W B C ln pl g h) (hF : WF c n W B C ln pl) (hFu : 40 ≤ F) (hc : c < 1800000000) (ho : o < 6) (kk : K (nI (wfb W C ln o)) h) : P_X8_waitsForNow F (nI o) h K := by
  have hL : ∀ q, q ∈ ln → q.1 < 6 := fun q hq => (WF_v hF q hq).1
  have hlen := WF_6 hF
  unfold P_X8_waitsForNow
  cases e : inL ln o with
  | false =>
    refine place_n hR.1 hL hlen ho (by omega) e ?_
    have : ln.find? (fun q => q.1 == o) = none := List.find?_eq_none.mpr (fun q hq => by simpa using inL_f e q hq)
    unfold wfb at kk
    rw [this] at kk
    simpa using kk
  | true =>
    obtain ⟨pre, q, rest, hl, hq, hpre⟩ := in_split e
    have hpl : pre.length < 6 := by rw [hl] at hlen; simp at hlen; omega
    refine place_y hR.1 hL hlen ho (by omega) hl hq hpre ?_
    simp (disch := omega) only [Nat.not_lt_zero, nneg, nneg2, nlt, nle, neq, nI_add, pk_mul, nsub, ncl, nin, and_true, true_and, not_true_eq_false, not_false_eq_true, ↓reduceIte, Nat.reduceAdd]
    refine barK_e hR.1 hF (by omega) (by omega) hl ?_
    have h1 : ln.find? (fun q => q.1 == o) = some q := by
      rw [hl, List.find?_append]
      have : pre.find? (fun q => q.1 == o) = none := List.find?_eq_none.mpr (fun p hp => by simpa using hpre p hp)
      rw [this]
      simp [hq]
    have h2 : ln.takeWhile (fun p => p.1 != o) = pre := by
      rw [hl, List.takeWhile_append_of_pos (fun p hp => by simpa using hpre p hp)]
      simp [hq]
    unfold wfb at kk
    rw [h1, h2] at kk
    rw [hq]
    exact kk
end RD
