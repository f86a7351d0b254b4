/-! would, needs -/
def fr8 (h h' : AH) : Prop := (∀ a, a ≠ 56 → a ≠ 57 → a ≠ 58 → a ≠ 59 → a ≠ 63 → h' a = h a) ∧ h' 56 16 = h 56 16 ∧ h' 56 24 = h 56 24 ∧ h' 56 28 = h 56 28
theorem fr8_rf (h : AH) : fr8 h h := ⟨fun _ _ _ _ _ _ => rfl, rfl, rfl, rfl⟩
theorem fr8_tr {h h1 h2 : AH} (a : fr8 h h1) (c : fr8 h1 h2) : fr8 h h2 :=
  ⟨fun i p1 p2 p3 p4 p5 => (c.1 i p1 p2 p3 p4 p5).trans (a.1 i p1 p2 p3 p4 p5), c.2.1.trans a.2.1, c.2.2.1.trans a.2.2.1, c.2.2.2.trans a.2.2.2⟩
theorem fr8_fm {h h' : AH} (hf : fm h h') : fr8 h h' := ⟨fun a h1 h2 _ _ _ => hf.1 a h2 h1, hf.2 16 (by omega), hf.2 24 (by omega), hf.2 28 (by omega)⟩
theorem fr8_fa {h h' : AH} (hf : fr8 h h') : fa h h' :=
  ⟨fun a ha => hf.1 a (by unfold fcl at ha; omega) (by unfold fcl at ha; omega) (by unfold fcl at ha; omega) (by unfold fcl at ha; omega) (by unfold fcl at ha; omega), by rw [hf.1 44 (by omega) (by omega) (by omega) (by omega) (by omega)], hf.2.1, hf.2.2.1, hf.2.2.2⟩
theorem RC_fr8 {b n : Nat} {W B : Nat → Nat} {C : CT} {ln pl : LN} {g : Nat} {h h' : AH} (hR : RC b n W B C ln pl g h) (hf : fr8 h h') (hb : b ≤ 25) : RC b n W B C ln pl g h' :=
  RC_c hR (fun a h1 h2 _ => hf.1 a (by omega) (by omega) (by omega) (by omega) (by omega)) (by rw [hf.1 b (by omega) (by omega) (by omega) (by omega) (by omega)]; exact hR.2.2.2.2.2.2.2.2.2.2.2)
/-- a step of both tables, the reference with its aside -/
theorem INV_f {m c l n : Nat} {W B : Nat → Nat} {C C' : CT} {ln ln' pl pl' : LN} {g g' : Nat} {h h1 h2 : AH} (hs : ST m c l n W B C ln pl g h) (hm : m < 513) (h3 : RC 1 n W B C' ln' pl' g' h1) (h4 : fa h h1) (h5 : RM n W B C' ln' pl' g' h2) (h6 : fr8 h1 h2) (hF : WF (c + 12) n W B C' ln' pl') : INV (m + 1) h2 :=
  ⟨c + 12, l, n, W, B, C', ln', pl', g', RC_fr8 h3 h6 (by omega), h5, hF, AX_fa hs.2.2.2.1 (fa_tr h4 (fr8_fa h6)) (by omega), by have := hs.2.2.2.2.1; omega, by omega⟩
/-- laid aside -/
def AS8 (n : Nat) (W B : Nat → Nat) (C : CT) (ln pl : LN) (g : Nat) (h : AH) : Prop := RG 58 n W B C ln pl h ∧ h 56 5 = nI g
theorem AS8_fm {n : Nat} {W B : Nat → Nat} {C : CT} {ln pl : LN} {g : Nat} {h h' : AH} (hA : AS8 n W B C ln pl g h) (hf : fm h h') : AS8 n W B C ln pl g h' :=
  ⟨RG_c hA.1 (hf.1 58 (by omega) (by omega)), by rw [hf.2 5 (by omega)]; exact hA.2⟩
theorem ifp {c : Prop} [Decidable c] {a b : Prop} (hc : c) (h : a) : if c then a else b := by rw [if_pos hc]; exact h
theorem ifn {c : Prop} [Decidable c] {a b : Prop} (hc : ¬ c) (h : b) : if c then a else b := by rw [if_neg hc]; exact h
section CO
variable {n c F : Nat} {W B : Nat → Nat} {C : CT} {ln pl : LN} {g : Nat} {h : AH} {K : AH → Prop}
theorem lays_e (hFu : 500 ≤ F) (hR : RM n W B C ln pl g h) (hF : WF c n W B C ln pl) (kk : ∀ h', RM n W B C ln pl g h' → AS8 n W B C ln pl g h' → fr8 h h' → K h') : P_X8_laysAside F h K := by
  have hn := hF.1
  have hlen := WF_6 hF
  have hpl := hF.2.2.2.2.2.2.2.2.1
  unfold P_X8_laysAside
  refine cps_e (by omega) hFu (fun h1 h2 h3 => ?_)
  refine kk _ ⟨RG_c hR.1 (by rw [up_ne _ _ _ _ (by omega), h2 57 (by omega)]), ?_⟩ ⟨RG_cp (p0 := 57) (h := h) hR.1 hn hlen hpl (fun k hk => by rw [up_ne _ _ _ _ (by omega), h3 k hk]), ?_⟩ ⟨fun a p1 p2 p3 p4 p5 => ?_, ?_, ?_, ?_⟩
  · rw [upr, if_neg (by omega), h2 56 (by omega)]; exact hR.2
  · rw [upr, if_pos ⟨rfl, rfl⟩, h2 56 (by omega)]; exact hR.2
  · rw [up_ne _ _ _ _ p1, h2 a p3]
  · rw [upr, if_neg (by omega), h2 56 (by omega)]
  · rw [upr, if_neg (by omega), h2 56 (by omega)]
  · rw [upr, if_neg (by omega), h2 56 (by omega)]
theorem back8_e {n' : Nat} {W' B' : Nat → Nat} {C' : CT} {ln' pl' : LN} (hFu : 500 ≤ F) (hA : AS8 n W B C ln pl g h) (hF : WF c n W B C ln pl) (kk : ∀ h', RM n W B C ln pl g h' → AS8 n W B C ln pl g h' → fr8 h h' → (∀ k, k ≠ 4 → h' 56 k = h 56 k) → K h') : P_X8_laysBack F h K := by
  have hn := hF.1
  have hlen := WF_6 hF
  have hpl := hF.2.2.2.2.2.2.2.2.1
  unfold P_X8_laysBack
  refine cps_e (by omega) hFu (fun h1 h2 h3 => ?_)
  refine kk _ ⟨RG_cp (p0 := 58) (h := h) hA.1 hn hlen hpl (fun k hk => by rw [up_ne _ _ _ _ (by omega), h3 k hk]), ?_⟩ ⟨RG_c hA.1 (by rw [up_ne _ _ _ _ (by omega), h2 58 (by omega)]), ?_⟩ ⟨fun a p1 p2 p3 p4 p5 => ?_, ?_, ?_, ?_⟩ (fun k hk => ?_)
  · rw [upr, if_pos ⟨rfl, rfl⟩, h2 56 (by omega)]; exact hA.2
  · rw [upr, if_neg (by omega), h2 56 (by omega)]; exact hA.2
  · rw [up_ne _ _ _ _ p1, h2 a p2]
  · rw [upr, if_neg (by omega), h2 56 (by omega)]
  · rw [upr, if_neg (by omega), h2 56 (by omega)]
  · rw [upr, if_neg (by omega), h2 56 (by omega)]
  · rw [upr, if_neg (by omega), h2 56 (by omega)]
end CO
section CO2
variable {m F : Nat} {h : AH} {G Z : AH → Prop} {x y z : Int32}
theorem len_lt6 {c n o : Nat} {W B : Nat → Nat} {C : CT} {ln pl : LN} {q : Nat × Nat × Nat} (hF : WF c n W B C ln pl) (hv : vq n q) (hi : inL ln q.1 = false) : ln.length < 6 := by
  have := WF_6 (WF_join hF hv (inL_f hi))
  rw [List.length_append, List.length_singleton] at this
  omega
theorem call_would (hFu : 500 ≤ F) (hI : INV m h) (hm : m < 513) (kk : ∀ h', INV (m + 1) h' → G h') : P_X7_would F x y z h (fun r h1 => P_X8_would F x y z h1 (fun r' h3 => if r = r' then G h3 else Z h3)) := by
  obtain ⟨c, l, n, W, B, C, ln, pl, g, hs⟩ := hI
  have hc := ST_c hs
  have hF := hs.2.2.1
  have hn := hF.1
  have hL : ∀ q, q ∈ ln → q.1 < 6 := fun q hq => (WF_v hF q hq).1
  have hlen := WF_6 hF
  have hpl := hF.2.2.2.2.2.2.2.2.1
  have done := kk _ (INV_s hs hm)
  by_cases hx : isA n x y z
  · obtain ⟨q, hv, rfl, rfl, rfl⟩ := isA_of hx
    have hq1 := hv.1
    cases e : inL ln q.1 with
    | true =>
      refine pairI (P7 := fun h K => P_X7_would F (nI q.1) (nI q.2.1) (nI q.2.2) h K) (P8 := fun h K => P_X8_would F (nI q.1) (nI q.2.1) (nI q.2.2) h K) ⟨-5, fun K kk => ?_, fun K kk => ?_⟩ done
      · unfold P_X7_would
        rw [isAsk_y hs.1.1 hn hx]
        simp (disch := omega) only [Nat.not_lt_zero, nneg, nneg2, nlt, nle, neq, nI_add, pk_mul, nsub, ncl, nin, and_true, true_and, not_true_eq_false, not_false_eq_true, ↓reduceIte, Nat.reduceAdd, if_pos, if_neg]
        rw [waiting_e hs.1 (WF_v hF) hq1, e]
        simp (disch := omega) only [Nat.not_lt_zero, nneg, nneg2, nlt, nle, neq, nI_add, pk_mul, nsub, ncl, nin, and_true, true_and, not_true_eq_false, not_false_eq_true, ↓reduceIte, Nat.reduceAdd, if_pos, if_neg, if_true]
        exact kk
      · unfold P_X8_would
        rw [isAsk_ry hs.2.1.1.1 hn hx]
        simp (disch := omega) only [Nat.not_lt_zero, nneg, nneg2, nlt, nle, neq, nI_add, pk_mul, nsub, ncl, nin, and_true, true_and, not_true_eq_false, not_false_eq_true, ↓reduceIte, Nat.reduceAdd, if_pos, if_neg]
        refine inLine_e hs.2.1.1 hL hlen hq1 (by omega) ?_
        rw [e]
        simp (disch := omega) only [bn, Nat.not_lt_zero, nneg, nneg2, nlt, nle, neq, nI_add, pk_mul, nsub, ncl, nin, and_true, true_and, not_true_eq_false, not_false_eq_true, ↓reduceIte, Nat.reduceAdd, if_pos, if_neg, if_true]
        exact kk
    | false =>
      by_cases e2 : hnd W C q.1 q.2.1 q.2.2 ln = 0
      · refine pairI (P7 := fun h K => P_X7_would F (nI q.1) (nI q.2.1) (nI q.2.2) h K) (P8 := fun h K => P_X8_would F (nI q.1) (nI q.2.1) (nI q.2.2) h K) ⟨nI 1, fun K kk => ?_, fun K kk => ?_⟩ done
        · unfold P_X7_would
          rw [isAsk_y hs.1.1 hn hx]
          simp (disch := omega) only [Nat.not_lt_zero, nneg, nneg2, nlt, nle, neq, nI_add, pk_mul, nsub, ncl, nin, and_true, true_and, not_true_eq_false, not_false_eq_true, ↓reduceIte, Nat.reduceAdd, if_pos, if_neg]
          rw [waiting_e hs.1 (WF_v hF) hq1, e]
          simp (disch := omega) only [Nat.not_lt_zero, nneg, nneg2, nlt, nle, neq, nI_add, pk_mul, nsub, ncl, nin, and_true, true_and, not_true_eq_false, not_false_eq_true, ↓reduceIte, Nat.reduceAdd, if_pos, if_neg, Bool.false_eq_true, if_false]
          rw [hind_e hs.1 hF (by omega) hv, tw_no e, e2]
          simp (disch := omega) only [Nat.not_lt_zero, nneg, nneg2, nlt, nle, neq, nI_add, pk_mul, nsub, ncl, nin, and_true, true_and, not_true_eq_false, not_false_eq_true, ↓reduceIte, Nat.reduceAdd, if_pos, if_neg]
          exact kk
        · unfold P_X8_would
          rw [isAsk_ry hs.2.1.1.1 hn hx]
          simp (disch := omega) only [Nat.not_lt_zero, nneg, nneg2, nlt, nle, neq, nI_add, pk_mul, nsub, ncl, nin, and_true, true_and, not_true_eq_false, not_false_eq_true, ↓reduceIte, Nat.reduceAdd, if_pos, if_neg]
          refine inLine_e hs.2.1.1 hL hlen hq1 (by omega) ?_
          rw [e]
          simp (disch := omega) only [bn, Nat.not_lt_zero, nneg, nneg2, nlt, nle, neq, nI_add, pk_mul, nsub, ncl, nin, and_true, true_and, not_true_eq_false, not_false_eq_true, ↓reduceIte, Nat.reduceAdd, if_pos, if_neg, Bool.false_eq_true, if_false]
          refine canBe_e hs.2.1.1 hF (by omega) (by omega) hv ?_
          simp (disch := omega) only [bn, e2, decide_true, if_true, Nat.not_lt_zero, nneg, nneg2, nlt, nle, neq, nI_add, pk_mul, nsub, ncl, nin, and_true, true_and, not_true_eq_false, not_false_eq_true, ↓reduceIte, Nat.reduceAdd, if_pos, if_neg]
          exact kk
      · have hl := hnd_lt W C q.1 q.2.1 q.2.2 ln
        have hl6 := len_lt6 (o := 0) hF hv e
        have hFj := WF_join hF hv (inL_f e)
        obtain ⟨g', hg'⟩ := nI_ex (h 13 13)
        unfold P_X7_would
        rw [isAsk_y hs.1.1 hn hx]
        simp (disch := omega) only [Nat.not_lt_zero, nneg, nneg2, nlt, nle, neq, nI_add, pk_mul, nsub, ncl, nin, and_true, true_and, not_true_eq_false, not_false_eq_true, ↓reduceIte, Nat.reduceAdd, if_pos, if_neg]
        rw [waiting_e hs.1 (WF_v hF) hq1, e]
        simp (disch := omega) only [Nat.not_lt_zero, nneg, nneg2, nlt, nle, neq, nI_add, pk_mul, nsub, ncl, nin, and_true, true_and, not_true_eq_false, not_false_eq_true, ↓reduceIte, Nat.reduceAdd, if_pos, if_neg, Bool.false_eq_true, if_false]
        rw [hind_e hs.1 hF (by omega) hv, tw_no e]
        have e3 : ¬ nI (hnd W C q.1 q.2.1 q.2.2 ln) = nI 0 := by
          rw [neq (by omega) (by omega)]
          exact e2
        rw [if_pos e3]
        refine copy_e hs.1 ⟨hn, hlen, hpl, WF_v hF⟩ (by omega) hg' (fun h1 h2 h3 => ?_)
        refine join_e h2 hv hn hl6 (inL_f e) (fun h4 h5 h6 => ?_)
        refine ring_e h5 hFj (by omega) (fun h7 h8 h9 => ?_)
        have hf13 := fr_tr (fr_tr h3 h6) h9
        have hrl : ringS (wfb W C (ln ++ [(q.1, q.2.1, q.2.2)])) < 64 := mk6_lt _
        rw [hasBit_e (by omega) (by omega)]
        have hR1 := RC_fr hs.1 hf13 (by omega)
        have hM := RM_fr hs.2.1 hf13 (by omega)
        have bit : (ringS (wfb W C (ln ++ [(q.1, q.2.1, q.2.2)]))).testBit q.1 = (wsh (wfb W C (ln ++ [(q.1, q.2.1, q.2.2)])) q.1).testBit q.1 := by
          unfold ringS
          rw [mk6_tb _ hq1]
        have core : ∀ r : Int32, r = (if (wsh (wfb W C (ln ++ [(q.1, q.2.1, q.2.2)])) q.1).testBit q.1 = true then nI 2 else nI 0) → P_X8_would F (nI q.1) (nI q.2.1) (nI q.2.2) h7 (fun r' h3 => if r = r' then G h3 else Z h3) := fun r hr => by
          unfold P_X8_would
          rw [isAsk_ry hM.1.1 hn hx]
          refine ifp (by decide) ?_
          refine inLine_e hM.1 hL hlen hq1 (by omega) ?_
          rw [e]
          refine ifp (show bn false = nI 0 from rfl) ?_
          refine canBe_e hM.1 hF (by omega) (by omega) hv ?_
          have e9 : decide (hnd W C q.1 q.2.1 q.2.2 ln = 0) = false := decide_eq_false e2
          rw [e9]
          refine ifp (show bn false = nI 0 from rfl) ?_
          refine lays_e hFu hM hF (fun h10 h11 h12 h13 => ?_)
          show X8_ask_c63 F (fun (_ : Int32) (h11 : AH) => P_X8_comesTo F (nI q.1) h11 (fun (r13 : Int32) (h12 : AH) => P_X8_has F r13 (nI q.1) h12 (fun (r15 : Int32) (h14 : AH) => P_X8_laysBack F h14 (fun (h16 : AH) => if r15 = nI 0 then (if r = nI 0 then G h16 else Z h16) else (if r = nI 2 then G h16 else Z h16))))) (nI q.1) (nI q.2.1) (nI q.2.2) h10
          refine joinR_e h11 hv hn hl6 (fun h14 h15 h16 => ?_)
          refine comesTo_e h15 hFj (by omega) (by omega) hq1 ?_
          have hl2 := wsh_lt (r := wfb W C (ln ++ [(q.1, q.2.1, q.2.2)])) (fun o _ => wfb_lt) (o := q.1) hq1
          rw [has_e (by omega) (by omega)]
          refine back8_e (n' := 0) (W' := W) (B' := B) (C' := C) (ln' := ln) (pl' := pl) hFu (AS8_fm h12 h16) hF (fun h17 h18 _ h19 _ => ?_)
          have fin : G h17 := kk _ (INV_f hs hm hR1 (fa_fr hf13 (by omega) (by omega)) h18 (fr8_tr (fr8_tr h13 (fr8_fm h16)) h19) (WF_le hF (by omega)))
          cases et : (wsh (wfb W C (ln ++ [(q.1, q.2.1, q.2.2)])) q.1).testBit q.1 with
          | true =>
            rw [et, if_pos rfl] at hr
            subst hr
            simp (disch := omega) only [Nat.not_lt_zero, nneg, nneg2, nlt, nle, neq, nI_add, pk_mul, nsub, ncl, nin, and_true, true_and, not_true_eq_false, not_false_eq_true, ↓reduceIte, Nat.reduceAdd, if_pos, if_neg, if_true]
            exact fin
          | false =>
            rw [et, if_neg (by decide)] at hr
            subst hr
            simp (disch := omega) only [Nat.not_lt_zero, nneg, nneg2, nlt, nle, neq, nI_add, pk_mul, nsub, ncl, nin, and_true, true_and, not_true_eq_false, not_false_eq_true, ↓reduceIte, Nat.reduceAdd, if_pos, if_neg, Bool.false_eq_true, if_false, if_true]
            exact fin
        rw [bit]
        cases et : (wsh (wfb W C (ln ++ [(q.1, q.2.1, q.2.2)])) q.1).testBit q.1 with
        | true =>
          simp (disch := omega) only [Nat.not_lt_zero, nneg, nneg2, nlt, nle, neq, nI_add, pk_mul, nsub, ncl, nin, and_true, true_and, not_true_eq_false, not_false_eq_true, ↓reduceIte, Nat.reduceAdd, if_pos, if_neg, if_true]
          exact core _ (by rw [et, if_pos rfl])
        | false =>
          simp (disch := omega) only [Nat.not_lt_zero, nneg, nneg2, nlt, nle, neq, nI_add, pk_mul, nsub, ncl, nin, and_true, true_and, not_true_eq_false, not_false_eq_true, ↓reduceIte, Nat.reduceAdd, if_pos, if_neg, Bool.false_eq_true, if_false]
          exact core _ (by rw [et, if_neg (by decide)])
  · refine pairI (P7 := fun h K => P_X7_would F x y z h K) (P8 := fun h K => P_X8_would F x y z h K) ⟨-1, fun K kk => ?_, fun K kk => ?_⟩ done
    · unfold P_X7_would
      rw [isAsk_n hs.1.1 hn hx]
      simp (disch := omega) only [Nat.not_lt_zero, nneg, nneg2, nlt, nle, neq, nI_add, pk_mul, nsub, ncl, nin, and_true, true_and, not_true_eq_false, not_false_eq_true, ↓reduceIte, Nat.reduceAdd, if_pos, if_neg]
      exact kk
    · unfold P_X8_would
      rw [isAsk_rn hs.2.1.1.1 hn hx]
      simp (disch := omega) only [Nat.not_lt_zero, nneg, nneg2, nlt, nle, neq, nI_add, pk_mul, nsub, ncl, nin, and_true, true_and, not_true_eq_false, not_false_eq_true, ↓reduceIte, Nat.reduceAdd, if_pos, if_neg]
      exact kk
end CO2
