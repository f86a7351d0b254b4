/-! calls: plan, feed, paper, list, set, get -/
section CH
variable {m F : Nat} {h : AH} {G Z : AH → Prop} {x y z : Int32}
theorem WF_pl {c n : Nat} {W B : Nat → Nat} {C : CT} {ln pl pl' : LN} (hF : WF c n W B C ln pl) (h1 : pl'.length ≤ 12) (h2 : ∀ q, q ∈ pl' → vq n q) : WF c n W B C ln pl' := by
  obtain ⟨f1, f2, f3, f4, f5, f6, f7, f8, f9, f10⟩ := hF
  exact ⟨f1, f2, f3, f4, f5, f6, f7, f8, h1, h2⟩
theorem plan_c {c n g : Nat} {W B : Nat → Nat} {C : CT} {ln pl : LN} {q : Nat × Nat × Nat} {K : Int32 → AH → Prop} (hR : RC 1 n W B C ln pl g h) (hF : WF c n W B C ln pl) (hv : vq n q) (hl : pl.length < 12)
    (kk : ∀ h', RC 1 n W B C ln (pl ++ [q]) g h' → fr 1 h h' → K (nI (pl.length + 1)) h') : P_X5_addRow F 1 (nI q.1) (nI q.2.1) (nI q.2.2) h K := by
  obtain ⟨r0, rW, rB, rC, rH, rL, rk, ra, rz, rP, rp, rg⟩ := hR
  unfold P_X5_addRow
  rw [isAsk_y r0 hF.1 (isA_vq hv)]
  have a1 : ∀ z : Int32, up h 9 pl.length z 1 9 = nI pl.length := fun z => by rw [up_ne _ _ _ _ (by omega)]; exact rP
  have a2 : ∀ z z2 : Int32, up (up h 9 pl.length z) 10 pl.length z2 1 9 = nI pl.length := fun z z2 => by rw [up_ne _ _ _ _ (by omega)]; exact a1 z
  have a3 : ∀ z z2 z3 : Int32, up (up (up h 9 pl.length z) 10 pl.length z2) 11 pl.length z3 1 9 = nI pl.length := fun z z2 z3 => by rw [up_ne _ _ _ _ (by omega)]; exact a2 z z2
  have a4 : ∀ z z2 z3 z4 : Int32, up (up (up (up h 9 pl.length z) 10 pl.length z2) 11 pl.length z3) 1 9 z4 1 9 = z4 := fun z z2 z3 z4 => by rw [upr, if_pos ⟨rfl, rfl⟩]
  simp (disch := omega) only [Nat.not_lt_zero, nneg, nneg2, nlt, nle, neq, nI_add, pk_mul, nsub, ncl, nin, and_true, true_and, not_true_eq_false, not_false_eq_true, ↓reduceIte, Nat.reduceAdd, if_pos, if_neg, rP, a1, a2, a3, a4]
  refine kk _ ⟨?_, fun t ht => ?_, fun t ht => ?_, ?_, ?_, ?_, ?_, ?_, ?_, ?_, ?_, ?_⟩ (fr_tr (fr_tr (fr_tr (fr_up (by omega) (by omega)) (fr_up (by omega) (by omega))) (fr_up (by omega) (by omega))) (fr_up (by omega) (by omega)))
  · rw [upr, if_neg (by omega), up_ne _ _ _ _ (by omega), up_ne _ _ _ _ (by omega), up_ne _ _ _ _ (by omega)]; exact r0
  · rw [up_ne _ _ _ _ (by omega), up_ne _ _ _ _ (by omega), up_ne _ _ _ _ (by omega), up_ne _ _ _ _ (by omega)]; exact rW t ht
  · rw [up_ne _ _ _ _ (by omega), up_ne _ _ _ _ (by omega), up_ne _ _ _ _ (by omega), up_ne _ _ _ _ (by omega)]; exact rB t ht
  · intro t o m h1 h2 h3 h4
    rw [up_ne _ _ _ _ (by omega), up_ne _ _ _ _ (by omega), up_ne _ _ _ _ (by omega), up_ne _ _ _ _ (by omega)]; exact rC t o m h1 h2 h3 h4
  · intro t m h1 h2 h3
    rw [up_ne _ _ _ _ (by omega), up_ne _ _ _ _ (by omega), up_ne _ _ _ _ (by omega), up_ne _ _ _ _ (by omega)]; exact rH t m h1 h2 h3
  · rw [upr, if_neg (by omega), up_ne _ _ _ _ (by omega), up_ne _ _ _ _ (by omega), up_ne _ _ _ _ (by omega)]; exact rL
  · intro j q hq
    rw [up_ne _ _ _ _ (by omega), up_ne _ _ _ _ (by omega), up_ne _ _ _ _ (by omega), up_ne _ _ _ _ (by omega)]; exact rk j q hq
  · intro q hq
    have := ra q hq
    refine ⟨?_, ?_⟩
    · rw [up_ne _ _ _ _ (by omega), up_ne _ _ _ _ (by omega), up_ne _ _ _ _ (by omega), up_ne _ _ _ _ (by omega)]; exact this.1
    · rw [up_ne _ _ _ _ (by omega), up_ne _ _ _ _ (by omega), up_ne _ _ _ _ (by omega), up_ne _ _ _ _ (by omega)]; exact this.2
  · intro o h1 h2
    rw [up_ne _ _ _ _ (by omega), up_ne _ _ _ _ (by omega), up_ne _ _ _ _ (by omega), up_ne _ _ _ _ (by omega)]; exact rz o h1 h2
  · rw [a4]; simp
  · intro j p hp
    by_cases e : j = pl.length
    · subst e
      have : p = q := by simpa using hp.symm
      subst this
      refine ⟨?_, ?_, ?_⟩
      · rw [up_ne _ _ _ _ (by omega), up_ne _ _ _ _ (by omega), up_ne _ _ _ _ (by omega), upr, if_pos ⟨rfl, rfl⟩]
      · rw [up_ne _ _ _ _ (by omega), up_ne _ _ _ _ (by omega), upr, if_pos ⟨rfl, rfl⟩]
      · rw [up_ne _ _ _ _ (by omega), upr, if_pos ⟨rfl, rfl⟩]
    · have hj : j < (pl ++ [q]).length := (List.getElem?_eq_some_iff.mp hp).1
      rw [List.length_append, List.length_singleton] at hj
      rw [List.getElem?_append_left (by omega)] at hp
      have := rp j p hp
      refine ⟨?_, ?_, ?_⟩
      · rw [up_ne _ _ _ _ (by omega), up_ne _ _ _ _ (by omega), up_ne _ _ _ _ (by omega), upr, if_neg (by omega)]; exact this.1
      · rw [up_ne _ _ _ _ (by omega), up_ne _ _ _ _ (by omega), upr, if_neg (by omega), up_ne _ _ _ _ (by omega)]; exact this.2.1
      · rw [up_ne _ _ _ _ (by omega), upr, if_neg (by omega), up_ne _ _ _ _ (by omega), up_ne _ _ _ _ (by omega)]; exact this.2.2
  · rw [upr, if_neg (by omega), up_ne _ _ _ _ (by omega), up_ne _ _ _ _ (by omega), up_ne _ _ _ _ (by omega)]; exact rg
theorem plan_r {c n g : Nat} {W B : Nat → Nat} {C : CT} {ln pl : LN} {q : Nat × Nat × Nat} {K : Int32 → AH → Prop} (hR : RM n W B C ln pl g h) (hF : WF c n W B C ln pl) (hv : vq n q) (hl : pl.length < 12)
    (kk : ∀ h', RM n W B C ln (pl ++ [q]) g h' → fm h h' → K (nI (pl.length + 1)) h') : P_X8_plan F (nI q.1) (nI q.2.1) (nI q.2.2) h K := by
  obtain ⟨⟨s0, sW, sB, sC, sL, sk, sP, sp⟩, rg⟩ := hR
  have hn := hF.1
  have hlen := WF_6 hF
  have hq1 := hv.1
  unfold P_X8_plan
  rw [if_pos (by rw [nneg (by omega)]; exact id), isAsk_ry s0 hF.1 (isA_vq hv)]
  simp (disch := omega) only [Nat.not_lt_zero, nneg, nneg2, nlt, nle, neq, nI_add, pk_mul, nsub, ncl, nin, and_true, true_and, not_true_eq_false, not_false_eq_true, ↓reduceIte, Nat.reduceAdd, if_pos, if_neg, sP]
  have v : ∀ z1 z2 z3 k, up (up (up h 57 (45 + 3 * pl.length) z1) 57 (45 + 3 * pl.length + 1) z2) 57 (45 + 3 * pl.length + 2) z3 57 k = if k = 45 + 3 * pl.length + 2 then z3 else if k = 45 + 3 * pl.length + 1 then z2 else if k = 45 + 3 * pl.length then z1 else h 57 k := fun z1 z2 z3 k => by
    rw [upr, upr, upr]
    simp
  have v44 := fun z1 z2 z3 => v z1 z2 z3 44
  have w : ∀ z1 z2 z3 z4 k, up (up (up (up h 57 (45 + 3 * pl.length) z1) 57 (45 + 3 * pl.length + 1) z2) 57 (45 + 3 * pl.length + 2) z3) 57 44 z4 57 k = if k = 44 then z4 else if k = 45 + 3 * pl.length + 2 then z3 else if k = 45 + 3 * pl.length + 1 then z2 else if k = 45 + 3 * pl.length then z1 else h 57 k := fun z1 z2 z3 z4 k => by
    rw [upr, v]
    simp
  have v44' : ∀ z1 z2 z3, up (up (up h 57 (45 + 3 * pl.length) z1) 57 (45 + 3 * pl.length + 1) z2) 57 (45 + 3 * pl.length + 2) z3 57 44 = nI pl.length := fun z1 z2 z3 => by
    rw [v, if_neg (by omega), if_neg (by omega), if_neg (by omega)]
    exact sP
  have w44 : ∀ z1 z2 z3 z4, up (up (up (up h 57 (45 + 3 * pl.length) z1) 57 (45 + 3 * pl.length + 1) z2) 57 (45 + 3 * pl.length + 2) z3) 57 44 z4 57 44 = z4 := fun z1 z2 z3 z4 => by rw [w, if_pos rfl]
  simp (disch := omega) only [Nat.not_lt_zero, nneg, nneg2, nlt, nle, neq, nI_add, pk_mul, nsub, ncl, nin, and_true, true_and, not_true_eq_false, not_false_eq_true, ↓reduceIte, Nat.reduceAdd, if_pos, if_neg, v44', w44]
  have wj : ∀ z1 z2 z3 z4 k, k ≠ 44 → (k < 45 + 3 * pl.length ∨ 81 ≤ k) → up (up (up (up h 57 (45 + 3 * pl.length) z1) 57 (45 + 3 * pl.length + 1) z2) 57 (45 + 3 * pl.length + 2) z3) 57 44 z4 57 k = h 57 k := fun z1 z2 z3 z4 k h1 h2 => by
    rw [w, if_neg h1, if_neg (by omega), if_neg (by omega), if_neg (by omega)]
  refine kk _ ⟨⟨?_, fun t ht => ?_, fun t ht => ?_, fun t o m ht ho hm1 hm2 => ?_, ?_, fun j q hq => ?_, ?_, fun j p hp => ?_⟩, ?_⟩ (fm_tr (fm_tr (fm_tr fm_57 fm_57) fm_57) fm_57)
  · rw [wj _ _ _ _ _ (by omega) (by omega)]; exact s0
  · rw [wj _ _ _ _ _ (by omega) (by omega)]; exact sW t ht
  · rw [wj _ _ _ _ _ (by omega) (by omega)]; exact sB t ht
  · rw [wj _ _ _ _ _ (by omega) (by omega)]; exact sC t o m ht ho hm1 hm2
  · rw [wj _ _ _ _ _ (by omega) (by omega)]; exact sL
  · have hj : j < ln.length := (List.getElem?_eq_some_iff.mp hq).1
    rw [wj _ _ _ _ _ (by omega) (by omega), wj _ _ _ _ _ (by omega) (by omega), wj _ _ _ _ _ (by omega) (by omega)]; exact sk j q hq
  · rw [w44]; simp
  · by_cases e : j = pl.length
    · subst e
      have : p = q := by simpa using hp.symm
      subst this
      refine ⟨?_, ?_, ?_⟩
      · rw [w, if_neg (by omega), if_neg (by omega), if_neg (by omega), if_pos rfl]
      · rw [w, if_neg (by omega), if_neg (by omega), if_pos rfl]
      · rw [w, if_neg (by omega), if_pos rfl]
    · have hj : j < (pl ++ [q]).length := (List.getElem?_eq_some_iff.mp hp).1
      rw [List.length_append, List.length_singleton] at hj
      rw [List.getElem?_append_left (by omega)] at hp
      rw [wj _ _ _ _ _ (by omega) (by omega), wj _ _ _ _ _ (by omega) (by omega), wj _ _ _ _ _ (by omega) (by omega)]
      exact sp j p hp
  · rw [up_ne _ _ _ _ (by omega), up_ne _ _ _ _ (by omega), up_ne _ _ _ _ (by omega), up_ne _ _ _ _ (by omega)]; exact rg
theorem call_plan (hFu : 500 ≤ F) (hI : INV m h) (hm : m < 513) (kk : ∀ h', INV (m + 1) h' → G h') : P_X7_plan F x y z h (fun r h1 => P_X8_plan F x y z h1 (fun r' h3 => if r = r' then G h3 else Z h3)) := by
  obtain ⟨c, l, n, W, B, C, ln, pl, g, hs⟩ := hI
  have hF := hs.2.2.1
  have hn := hF.1
  have hpl := hF.2.2.2.2.2.2.2.2.1
  have done := kk _ (INV_s hs hm)
  by_cases e0 : x = -1
  · subst e0
    unfold P_X7_plan P_X8_plan
    simp (disch := omega) only [Nat.not_lt_zero, nneg, nneg2, nlt, nle, neq, nI_add, pk_mul, nsub, ncl, nin, and_true, true_and, not_true_eq_false, not_false_eq_true, ↓reduceIte, Nat.reduceAdd, if_pos, if_neg, if_true]
    have hR1 : RC 1 n W B C ln [] g (up h 1 9 (nI 0)) := by
      obtain ⟨r0, rW, rB, rC, rH, rL, rk, ra, rz, rP, rp, rg⟩ := hs.1
      refine ⟨?_, ?_, ?_, ?_, ?_, ?_, ?_, ?_, ?_, ?_, ?_, ?_⟩
      · rw [upr, if_neg (by omega)]; exact r0
      · exact rW
      · exact rB
      · exact rC
      · exact rH
      · rw [upr, if_neg (by omega)]; exact rL
      · exact rk
      · exact ra
      · exact rz
      · rw [upr, if_pos ⟨rfl, rfl⟩]; rfl
      · intro k q hq; simp at hq
      · rw [upr, if_neg (by omega)]; exact rg
    have hf1 : fr 1 h (up h 1 9 (nI 0)) := fr_up (by omega) (by omega)
    obtain ⟨⟨s0, sW, sB, sC, sL, sk, sP, sp⟩, rg⟩ := RM_fr hs.2.1 hf1 (by omega)
    have hlen := WF_6 hF
    have wj : ∀ k, k ≠ 44 → up (up h 1 9 (nI 0)) 57 44 (nI 0) 57 k = (up h 1 9 (nI 0)) 57 k := fun k h1 => by rw [upr, if_neg (by omega)]
    refine kk _ (INV_t hs hm hR1 hf1 ⟨⟨?_, fun t ht => ?_, fun t ht => ?_, fun t o m ht ho hm1 hm2 => ?_, ?_, fun j q hq => ?_, ?_, fun j p hp => ?_⟩, ?_⟩ fm_57 (WF_le (WF_pl hF (by simp) (by simp)) (by omega)))
    · rw [wj _ (by omega)]; exact s0
    · rw [wj _ (by omega)]; exact sW t ht
    · rw [wj _ (by omega)]; exact sB t ht
    · rw [wj _ (by omega)]; exact sC t o m ht ho hm1 hm2
    · rw [wj _ (by omega)]; exact sL
    · have hj : j < ln.length := (List.getElem?_eq_some_iff.mp hq).1
      rw [wj _ (by omega), wj _ (by omega), wj _ (by omega)]; exact sk j q hq
    · rw [upr, if_pos ⟨rfl, rfl⟩]; rfl
    · simp at hp
    · rw [up_ne _ _ _ _ (by omega)]; exact rg
  · unfold P_X7_plan
    rw [if_pos e0]
    by_cases e : isA n x y z
    · by_cases e2 : pl.length = 12
      · refine pairI (P7 := fun h K => P_X5_addRow F 1 x y z h K) (P8 := fun h K => P_X8_plan F x y z h K) ⟨-3, fun K kk => ?_, fun K kk => ?_⟩ done
        · unfold P_X5_addRow
          rw [isAsk_y hs.1.1 hn e]
          have := hs.1.2.2.2.2.2.2.2.2.2.1
          rw [e2] at this
          simp (disch := omega) only [Nat.not_lt_zero, nneg, nneg2, nlt, nle, neq, nI_add, pk_mul, nsub, ncl, nin, and_true, true_and, not_true_eq_false, not_false_eq_true, ↓reduceIte, Nat.reduceAdd, if_pos, if_neg, this]
          exact kk
        · unfold P_X8_plan
          rw [if_pos e0, isAsk_ry hs.2.1.1.1 hn e]
          have := hs.2.1.1.2.2.2.2.2.2.1
          rw [e2] at this
          simp (disch := omega) only [Nat.not_lt_zero, nneg, nneg2, nlt, nle, neq, nI_add, pk_mul, nsub, ncl, nin, and_true, true_and, not_true_eq_false, not_false_eq_true, ↓reduceIte, Nat.reduceAdd, if_pos, if_neg, this]
          exact kk
      · obtain ⟨q, hv, rfl, rfl, rfl⟩ := isA_of e
        refine plan_c hs.1 hF hv (by omega) (fun h1 h2 h3 => ?_)
        refine plan_r (RM_fr hs.2.1 h3 (by omega)) hF hv (by omega) (fun h4 h5 h6 => ?_)
        rw [if_pos rfl]
        refine kk _ (INV_t hs hm h2 h3 h5 h6 (WF_le (WF_pl hF (by simp; omega) (fun p hp => ?_)) (by omega)))
        rcases List.mem_append.mp hp with hp | hp
        · exact hF.2.2.2.2.2.2.2.2.2 p hp
        · have : p = q := by simpa using hp
          rw [this]; exact hv
    · refine pairI (P7 := fun h K => P_X5_addRow F 1 x y z h K) (P8 := fun h K => P_X8_plan F x y z h K) ⟨-1, fun K kk => ?_, fun K kk => ?_⟩ done
      · unfold P_X5_addRow
        rw [isAsk_n hs.1.1 hn e]
        simp (disch := omega) only [Nat.not_lt_zero, nneg, nneg2, nlt, nle, neq, nI_add, pk_mul, nsub, ncl, nin, and_true, true_and, not_true_eq_false, not_false_eq_true, ↓reduceIte, Nat.reduceAdd, if_pos, if_neg]
        exact kk
      · unfold P_X8_plan
        rw [if_pos e0, isAsk_rn hs.2.1.1.1 hn e]
        simp (disch := omega) only [Nat.not_lt_zero, nneg, nneg2, nlt, nle, neq, nI_add, pk_mul, nsub, ncl, nin, and_true, true_and, not_true_eq_false, not_false_eq_true, ↓reduceIte, Nat.reduceAdd, if_pos, if_neg]
        exact kk
end CH
