/-! lots: the reference, the call -/
section CR
variable {n F : Nat} {W B : Nat → Nat} {pl : LN} {h : AH}
theorem modeL_e {k : Nat} {K : Int32 → AH → Prop} (hk : k < 3) : P_X8_modeOf F (nI k) h K = K (nI (mdL k)) h := by
  unfold P_X8_modeOf mdL
  have : k = 0 ∨ k = 1 ∨ k = 2 := by omega
  rcases this with e | e | e <;> subst e <;> simp (disch := omega) only [Nat.not_lt_zero, nneg, nneg2, nlt, nle, neq, nI_add, pk_mul, nsub, ncl, nin, and_true, true_and, not_true_eq_false, not_false_eq_true, ↓reduceIte, Nat.reduceAdd, if_pos, if_neg]
theorem fr8_13 {h : AH} {v : Int32} {k : Nat} (hk : k ≠ 16 ∧ k ≠ 24 ∧ k ≠ 28) : fr8 h (up h 56 k v) := ⟨fun a h1 _ _ _ _ => up_ne _ _ _ _ h1, by rw [upr, if_neg (by omega)], by rw [upr, if_neg (by omega)], by rw [upr, if_neg (by omega)]⟩
theorem RM_56 {C : CT} {ln : LN} {g k : Nat} {v : Int32} (hR : RM n W B C ln pl g h) (hk : k ≠ 4) : RM n W B C ln pl g (up h 56 k v) :=
  ⟨RG_c hR.1 (up_ne _ _ _ _ (by omega)), by rw [upr, if_neg (by omega)]; exact hR.2⟩
theorem AS8_56 {C : CT} {ln : LN} {g k : Nat} {v : Int32} (hR : AS8 n W B C ln pl g h) (hk : k ≠ 5) : AS8 n W B C ln pl g (up h 56 k v) :=
  ⟨RG_c hR.1 (up_ne _ _ _ _ (by omega)), by rw [upr, if_neg (by omega)]; exact hR.2⟩
theorem lot_r {k c0 g0 : Nat} {C0 : CT} {ln0 : LN} {K : Int32 → AH → Prop} {x3 : Int32} {h0 : AH} (hF0 : WF c0 n W B C0 ln0 pl) (hn0 : 0 < n) (hFu : 500 ≤ F) (hk : k ≤ 60) (CF : CT) (LF : LN) (RF : Nat)
    (kk : ∀ h', RM n W B C0 ln0 pl g0 h' → fr8 h0 h' → K (if ¬ x3 = nI 0 then nI LF.length else nI RF) h') : ∀ (j N i c r g : Nat) (C : CT) (ln : LN) (s : Int32) (h : AH), i + j = k → j + 1 ≤ N → c + j < 20000 → RM n W B C ln pl g h → AS8 n W B C0 ln0 pl g0 h → WF c n W B C ln pl → h 56 13 = s → fr8 h0 h → ltS n W j C ln s r = (CF, LF, RF) → X8_lots_c48 F K N (nI k) x3 (nI r) (nI i) h := by
  intro j
  induction j with
  | zero =>
    intro N i c r g C ln s h h1 h2 h3 hR hA hF hs hf he
    obtain ⟨N, rfl⟩ : ∃ k, N = k + 1 := ⟨N - 1, by omega⟩
    unfold ltS at he
    cases he
    rw [X8_lots_c48_s]
    refine ifp (by rw [nle (by omega) (by omega)]; omega) ?_
    refine ⟨vp_in_nI (by omega) (by omega), ?_⟩
    refine back8_e (n' := 0) (W' := W) (B' := B) (C' := C0) (ln' := ([] : LN)) (pl' := pl) hFu hA hF0 (fun h17 h18 _ h19 _ => ?_)
    have := kk h17 h18 (fr8_tr hf h19)
    have r5 := hR.1.2.2.2.2.1
    rw [ncl (by omega), r5]
    by_cases e : x3 = nI 0
    · simp only [e, not_true_eq_false, if_false] at this ⊢
      exact this
    · simp only [e, not_false_eq_true, if_true] at this ⊢
      exact this
  | succ j ih =>
    intro N i c r g C ln s h h1 h2 h3 hR hA hF hs hf he
    obtain ⟨N, rfl⟩ : ∃ k, N = k + 1 := ⟨N - 1, by omega⟩
    have hL : ∀ q, q ∈ ln → q.1 < 6 := fun q hq => (WF_v hF q hq).1
    have hlen := WF_6 hF
    have ho : rnd (sd s) 6 < 6 := rnd_lt _ (by omega)
    rw [X8_lots_c48_s]
    refine ifn (by rw [nle (by omega) (by omega)]; omega) ?_
    rw [draw_e (by omega) (by omega), hs]
    have hR1 := RM_56 (k := 13) (v := sd s) hR (by omega)
    have hA1 := AS8_56 (k := 13) (v := sd s) hA (by omega)
    have hf1 : fr8 h0 (up h 56 13 (sd s)) := fr8_tr hf (fr8_13 (by omega))
    have s1 : (up h 56 13 (sd s)) 56 13 = sd s := by rw [upr, if_pos ⟨rfl, rfl⟩]
    refine inLine_e hR1.1 hL hlen ho (by omega) ?_
    unfold ltS at he
    cases e : inL ln (rnd (sd s) 6) with
    | true =>
      rw [e, if_pos rfl] at he
      refine ifn (by decide) ?_
      unfold X8_lots_c120
      rw [nI_add]
      exact ih N (i + 1) c r g C ln (sd s) _ (by omega) (by omega) (by omega) hR1 hA1 hF s1 hf1 he
    | false =>
      rw [e, if_neg (by decide)] at he
      refine ifp rfl ?_
      refine ⟨vp_in_nI (by omega) (by omega), ?_⟩
      have r0 : (up h 56 13 (sd s)) 57 0 = nI n := hR1.1.1
      rw [ncl (by omega), r0, draw_e hn0 (by have := hF.1; omega), s1]
      show P_X8_draw F (nI 3) _ _
      rw [draw_e (by omega) (by omega)]
      have s2 : up (up h 56 13 (sd s)) 56 13 (sd (sd s)) 56 13 = sd (sd s) := by rw [upr, if_pos ⟨rfl, rfl⟩]
      rw [s2]
      have hm : rnd (sd (sd (sd s))) 3 < 3 := rnd_lt _ (by omega)
      show P_X8_modeOf F (nI (rnd (sd (sd (sd s))) 3)) _ _
      rw [modeL_e hm]
      have hv : vq n (rnd (sd s) 6, rnd (sd (sd s)) n, mdL (rnd (sd (sd (sd s))) 3)) := ⟨ho, rnd_lt _ hn0, mdL_v _⟩
      have hR3 := RM_56 (k := 13) (v := sd (sd (sd s))) (RM_56 (k := 13) (v := sd (sd s)) hR1 (by omega)) (by omega)
      have hA3 := AS8_56 (k := 13) (v := sd (sd (sd s))) (AS8_56 (k := 13) (v := sd (sd s)) hA1 (by omega)) (by omega)
      refine ask_v (q := (rnd (sd s) 6, rnd (sd (sd s)) n, mdL (rnd (sd (sd (sd s))) 3))) hR3 hF (by omega) (by omega) hv (fun h4 h5 h6 => ?_)
      have s4 : h4 56 13 = sd (sd (sd s)) := by rw [h6.2 13 (by omega), upr, if_pos ⟨rfl, rfl⟩]
      have hf4 : fr8 h0 h4 := fr8_tr (fr8_tr (fr8_tr hf1 (fr8_13 (by omega))) (fr8_13 (by omega))) (fr8_fm h6)
      have k2 := fun r => ih N (i + 1) (c + 1) r _ _ _ (sd (sd (sd s))) h4 (by omega) (by omega) (by omega) h5 (AS8_fm hA3 h6) (rqS_WF hF hv) s4 hf4
      unfold X8_lots_c117 X8_lots_c120
      simp only [nI_add, Nat.add_zero]
      by_cases e1 : (rqS W C ln (rnd (sd s) 6, rnd (sd (sd s)) n, mdL (rnd (sd (sd (sd s))) 3))).1 = nI 1
      · rw [if_pos e1] at he
        refine ifn (fun z => z e1) ?_
        exact k2 _ he
      · rw [if_neg e1] at he
        refine ifp e1 ?_
        exact k2 _ he
end CR
section CR2
variable {m F : Nat} {h : AH} {G Z : AH → Prop} {x y z : Int32}
theorem call_lots (hFu : 500 ≤ F) (hI : INV m h) (hm : m < 513) (kk : ∀ h', INV (m + 1) h' → G h') : P_X7_lots F x y z h (fun r h1 => P_X8_lots F x y z h1 (fun r' h3 => if r = r' then G h3 else Z h3)) := by
  obtain ⟨c, l, n, W, B, C, ln, pl, g, hs⟩ := hI
  have hc := ST_c hs
  have hF := hs.2.2.1
  have hn := hF.1
  have hlen := WF_6 hF
  have hpl := hF.2.2.2.2.2.2.2.2.1
  have done := kk _ (INV_s hs hm)
  by_cases hx : ins x 1 60
  · have ex := hx
    obtain ⟨k, hk1, hk2, rfl⟩ := hx
    by_cases hz : ins z 0 1
    · have ez := hz
      obtain ⟨b, hb1, hb2, rfl⟩ := hz
      by_cases e0 : n = 0
      · refine pairI (P7 := fun h K => P_X7_lots F (nI k) y (nI b) h K) (P8 := fun h K => P_X8_lots F (nI k) y (nI b) h K) ⟨-5, fun K kk => ?_, fun K kk => ?_⟩ done
        · have r0 := hs.1.1
          rw [e0] at r0
          unfold P_X7_lots
          simp (disch := omega) only [Nat.not_lt_zero, nneg, nneg2, nlt, nle, neq, nI_add, pk_mul, nsub, ncl, nin, and_true, true_and, not_true_eq_false, not_false_eq_true, ↓reduceIte, Nat.reduceAdd, if_pos, if_neg, r0]
          exact kk
        · have r0 := hs.2.1.1.1
          rw [e0] at r0
          unfold P_X8_lots
          rw [inA_y (a := 1) (b := 60) (by omega) ex]
          simp (disch := omega) only [Nat.not_lt_zero, nneg, nneg2, nlt, nle, neq, nI_add, pk_mul, nsub, ncl, nin, and_true, true_and, not_true_eq_false, not_false_eq_true, ↓reduceIte, Nat.reduceAdd, if_pos, if_neg]
          rw [inA_y (a := 0) (b := 1) (by omega) ez]
          simp (disch := omega) only [Nat.not_lt_zero, nneg, nneg2, nlt, nle, neq, nI_add, pk_mul, nsub, ncl, nin, and_true, true_and, not_true_eq_false, not_false_eq_true, ↓reduceIte, Nat.reduceAdd, if_pos, if_neg, r0]
          exact kk
      · obtain ⟨g', hg'⟩ := nI_ex (h 13 13)
        cases es : ltS n W k C ln y 0 with
        | mk CF r2 =>
          obtain ⟨LF, RF⟩ := r2
          unfold P_X7_lots
          refine ifn (by rw [nlt (by omega) (by omega)]; omega) (ifn (by rw [nlt (by omega) (by omega)]; omega) (ifn (by rw [nlt (by omega) (by omega)]; omega) (ifp (by rw [nle (by omega) (by omega)]; omega) ?_)))
          rw [hs.1.1]
          refine ifp (by rw [neq (by omega) (by omega)]; exact e0) ?_
          refine copy_e hs.1 ⟨hn, hlen, hpl, WF_v hF⟩ (by omega) hg' (fun h1 h2 h3 => ?_)
          have hR2 : RC 13 n W B C ln pl g' (up h1 39 0 y) := RC_c h2 (fun a h1 h2 _ => up_ne _ _ _ _ (by omega)) (by rw [up_ne _ _ _ _ (by omega)]; exact h2.2.2.2.2.2.2.2.2.2.2.2)
          refine lot_c (h0 := h) (by omega) hFu hk2 CF LF RF (fun h4 g4 h5 h6 => ?_) k F 0 c 0 g' C ln y (up h1 39 0 y) (by omega) (by omega) (by omega) hR2 hF (by rw [upr, if_pos ⟨rfl, rfl⟩]) (fq1_tr (fq1_fr h3) (fq1_up (by omega))) es
          have hM := RM_fq1 hs.2.1 h6
          unfold P_X8_lots
          rw [inA_y (a := 1) (b := 60) (by omega) ex]
          refine ifn (by decide) ?_
          rw [inA_y (a := 0) (b := 1) (by omega) ez]
          refine ifp (by decide) ?_
          refine ⟨vp_in_nI (by omega) (by omega), ?_⟩
          rw [ncl (by omega), hM.1.1]
          refine ifp (by rw [neq (by omega) (by omega)]; exact e0) ?_
          refine lays_e hFu hM hF (fun h7 h8 h9 h10 => ?_)
          refine lot_r (h0 := h4) hF (by omega) hFu hk2 CF LF RF (fun h11 h12 h13 => ?_) k F 0 c 0 g C ln y (up h7 56 13 y) (by omega) (by omega) (by omega) (RM_56 h8 (by omega)) (AS8_56 h9 (by omega)) hF (by rw [upr, if_pos ⟨rfl, rfl⟩]) (fr8_tr h10 (fr8_13 (by omega))) es
          rw [if_pos rfl]
          exact kk _ (INV_f hs hm (RC1_fq1 hs.1 h6) (fq1_fa h6) h12 h13 (WF_le hF (by omega)))
    · refine pairI (P7 := fun h K => P_X7_lots F (nI k) y z h K) (P8 := fun h K => P_X8_lots F (nI k) y z h K) ⟨-1, fun K kk => ?_, fun K kk => ?_⟩ done
      · unfold P_X7_lots
        rcases ins_not hz with q | ⟨b, q1, q2, rfl⟩
        · simp (disch := omega) only [Nat.not_lt_zero, nneg, nneg2, nlt, nle, neq, nI_add, pk_mul, nsub, ncl, nin, and_true, true_and, not_true_eq_false, not_false_eq_true, ↓reduceIte, Nat.reduceAdd, if_pos, if_neg, neg_lt (k := 0) q (by omega), if_true]
          exact kk
        · simp (disch := omega) only [Nat.not_lt_zero, nneg, nneg2, nlt, nle, neq, nI_add, pk_mul, nsub, ncl, nin, and_true, true_and, not_true_eq_false, not_false_eq_true, ↓reduceIte, Nat.reduceAdd, if_pos, if_neg]
          exact kk
      · unfold P_X8_lots
        rw [inA_y (a := 1) (b := 60) (by omega) ex]
        simp (disch := omega) only [Nat.not_lt_zero, nneg, nneg2, nlt, nle, neq, nI_add, pk_mul, nsub, ncl, nin, and_true, true_and, not_true_eq_false, not_false_eq_true, ↓reduceIte, Nat.reduceAdd, if_pos, if_neg]
        rw [inA_n (a := 0) (b := 1) (by omega) (by omega) hz]
        simp (disch := omega) only [Nat.not_lt_zero, nneg, nneg2, nlt, nle, neq, nI_add, pk_mul, nsub, ncl, nin, and_true, true_and, not_true_eq_false, not_false_eq_true, ↓reduceIte, Nat.reduceAdd, if_pos, if_neg]
        exact kk
  · refine pairI (P7 := fun h K => P_X7_lots F x y z h K) (P8 := fun h K => P_X8_lots F x y z h K) ⟨-1, fun K kk => ?_, fun K kk => ?_⟩ done
    · unfold P_X7_lots
      rcases ins_not hx with q | ⟨k, q1, q2, rfl⟩
      · simp only [neg_lt (k := 1) q (by omega), if_true]
        exact kk
      · by_cases e : k < 1
        · simp (disch := omega) only [Nat.not_lt_zero, nneg, nneg2, nlt, nle, neq, nI_add, pk_mul, nsub, ncl, nin, and_true, true_and, not_true_eq_false, not_false_eq_true, ↓reduceIte, Nat.reduceAdd, if_pos, if_neg]
          exact kk
        · simp (disch := omega) only [Nat.not_lt_zero, nneg, nneg2, nlt, nle, neq, nI_add, pk_mul, nsub, ncl, nin, and_true, true_and, not_true_eq_false, not_false_eq_true, ↓reduceIte, Nat.reduceAdd, if_pos, if_neg]
          exact kk
    · unfold P_X8_lots
      rw [inA_n (a := 1) (b := 60) (by omega) (by omega) hx]
      simp (disch := omega) only [Nat.not_lt_zero, nneg, nneg2, nlt, nle, neq, nI_add, pk_mul, nsub, ncl, nin, and_true, true_and, not_true_eq_false, not_false_eq_true, ↓reduceIte, Nat.reduceAdd, if_pos, if_neg]
      exact kk
end CR2
