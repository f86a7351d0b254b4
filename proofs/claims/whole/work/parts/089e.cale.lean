/-! calls: thing, thingOf, count, line, plan, strongest -/
section CE2
variable {m F : Nat} {h : AH} {G Z : AH → Prop} {x y z : Int32}
theorem GT_th {n : Nat} {h h1 h2 : AH} (hk : GT n h) (hf : fa h h1) (ht : ft n h1 h2) : GT (n + 1) h2 := by
  intro t htt
  obtain ⟨a1, a2, a3, a4⟩ := hk t htt
  have f := fun a (h : a = 41 ∨ a = 42 ∨ a = 43 ∨ a = 60 ∨ a = 61 ∨ a = 62) => hf.1 a (by unfold fcl; omega)
  obtain ⟨b1, b2, b3, b4⟩ := ht
  rw [b1 41 (by omega) (by omega) (by omega), b1 42 (by omega) (by omega) (by omega), b1 43 (by omega) (by omega) (by omega), b1 62 (by omega) (by omega) (by omega), f 41 (by omega), f 42 (by omega), f 43 (by omega), f 62 (by omega)]
  refine ⟨fun h1 => ?_, fun h1 => a2 (by omega), a3, a4⟩
  by_cases e : t = n
  · subst e
    rw [b3, b4]
    exact a2 (by omega)
  · rw [(b2 t e).1, (b2 t e).2, f 60 (by omega), f 61 (by omega)]
    exact a1 (by omega)
theorem AX_th {n l c c' : Nat} {h h1 h2 : AH} (hk : AX n l c h) (hf : fa h h1) (ht : ft n h1 h2) (hc : c ≤ c') : AX (n + 1) l c' h2 := by
  obtain ⟨k1, k2, k3, k4, k5⟩ := AX_fa hk hf hc
  have g := GT_th hk.2.1 hf ht
  have b1 := ht.1
  refine ⟨?_, g, ?_, ?_, ?_⟩
  · exact KP_e k1 (by omega) (b1 0 (by omega) (by omega) (by omega)) (fun a h1 h2 => b1 a (by omega) (by omega) (by omega)) (b1 68 (by omega) (by omega) (by omega)) (by rw [b1 56 (by omega) (by omega) (by omega)])
  · unfold TP
    rw [b1 44 (by omega) (by omega) (by omega), b1 56 (by omega) (by omega) (by omega), b1 45 (by omega) (by omega) (by omega), b1 64 (by omega) (by omega) (by omega)]
    exact k3
  · unfold PP
    rw [b1 51 (by omega) (by omega) (by omega), b1 56 (by omega) (by omega) (by omega), b1 52 (by omega) (by omega) (by omega), b1 65 (by omega) (by omega) (by omega)]
    exact k4
  · unfold LSI
    rw [b1 54 (by omega) (by omega) (by omega), b1 55 (by omega) (by omega) (by omega), b1 66 (by omega) (by omega) (by omega), b1 67 (by omega) (by omega) (by omega)]
    exact k5
theorem RC_ft {b n k : Nat} {W B : Nat → Nat} {C : CT} {ln pl : LN} {g : Nat} {h h' : AH} (hR : RC b n W B C ln pl g h) (hf : ft k h h') (hb : b ≤ 25) : RC b n W B C ln pl g h' :=
  RC_c hR (fun a h1 h2 _ => hf.1 a (by omega) (by omega) (by omega)) (by rw [hf.1 b (by omega) (by omega) (by omega)]; exact hR.2.2.2.2.2.2.2.2.2.2.2)
theorem call_thing (hFu : 500 ≤ F) (hI : INV m h) (hm : m < 513) (kk : ∀ h', INV (m + 1) h' → G h') : P_X7_thing F x y h (fun r h1 => P_X8_thing F x y h1 (fun r' h3 => if r = r' then G h3 else Z h3)) := by
  obtain ⟨c, l, n, W, B, C, ln, pl, g, hs⟩ := hI
  have hc := ST_c hs
  have hF := hs.2.2.1
  have hn := hF.1
  have done := kk _ (INV_s hs hm)
  unfold P_X7_thing
  by_cases e : isW n x ∧ inr y 2
  · by_cases e2 : n = 12
    · rw [add_f hs.1 e2 e.1 e.2]
      simp only [rth_f hs.2.1 e2 e.1 e.2, if_true]
      exact done
    · obtain ⟨w, hw, rfl⟩ := isW_of e.1
      obtain ⟨k, hk, rfl⟩ := e.2
      refine add_y hs.1 (by omega) hw (by omega) (fun h1 h2 h3 => ?_)
      refine rth_y (RM_fr hs.2.1 h3 (by omega)) hF (by omega) hw (by omega) (by omega) (fun h4 h5 h6 => ?_)
      rw [if_pos rfl]
      exact kk _ ⟨c, l, n + 1, _, _, C, ln, pl, g, RC_ft h2 h6 (by omega), h5, WF_th hF (by omega) hw (by omega), AX_th hs.2.2.2.1 (fa_fr h3 (by omega) (by omega)) h6 (Nat.le_refl _), by have := hs.2.2.2.2.1; omega, by omega⟩
  · rw [add_n hs.1 hn e]
    simp only [rth_n hs.2.1 hn e, if_true]
    exact done
theorem pairR {P7 P8 : AH → (Int32 → AH → Prop) → Prop} (hv : ∃ v, (∀ K, P7 h K = K v h) ∧ (∀ K, P8 h K = K v h)) (hg : G h) : P7 h (fun r h1 => P8 h1 (fun r' h3 => if r = r' then G h3 else Z h3)) := by
  obtain ⟨v, h1, h2⟩ := hv
  rw [h1]
  show P8 h _
  rw [h2, if_pos rfl]
  exact hg
theorem call_thingOf (hFu : 500 ≤ F) (hI : INV m h) (hm : m < 513) (kk : ∀ h', INV (m + 1) h' → G h') : P_X7_thingOf F x y h (fun r h1 => P_X8_thingOf F x y h1 (fun r' h3 => if r = r' then G h3 else Z h3)) := by
  obtain ⟨c, l, n, W, B, C, ln, pl, g, hs⟩ := hI
  have hF := hs.2.2.1
  have hn := hF.1
  have hW := hF.2.1
  have hlen := WF_6 hF
  refine pairR (P7 := fun h K => P_X7_thingOf F x y h K) (P8 := fun h K => P_X8_thingOf F x y h K) ?_ (kk _ (INV_s hs hm))
  by_cases hx : inr x n
  · have e1 := hx
    obtain ⟨t, ht, rfl⟩ := hx
    have w1 := hs.1.2.1 t ht
    have w2 := hs.2.1.1.2.1 t ht
    have b1 := hs.1.2.2.1 t ht
    have b2 := hs.2.1.1.2.2.1 t ht
    have hwt := hW t ht
    by_cases e0 : y = nI 0
    · subst e0
      refine ⟨wI (W t), fun K => ?_, fun K => ?_⟩
      · unfold P_X7_thingOf
        rw [isThing_y hs.1.1 hn e1]
        simp (disch := omega) only [Nat.not_lt_zero, nneg, nneg2, nlt, nle, neq, nI_add, pk_mul, nsub, ncl, nin, and_true, true_and, not_true_eq_false, not_false_eq_true, ↓reduceIte, Nat.reduceAdd, if_pos, if_neg, w1]
      · unfold P_X8_thingOf
        rw [isThing_ry hs.2.1.1.1 hn e1]
        simp (disch := omega) only [Nat.not_lt_zero, nneg, nneg2, nlt, nle, neq, nI_add, pk_mul, nsub, ncl, nin, and_true, true_and, not_true_eq_false, not_false_eq_true, ↓reduceIte, Nat.reduceAdd, if_pos, if_neg, w2]
    by_cases e0 : y = nI 1
    · subst e0
      refine ⟨nI (B t), fun K => ?_, fun K => ?_⟩
      · unfold P_X7_thingOf
        rw [isThing_y hs.1.1 hn e1]
        simp (disch := omega) only [Nat.not_lt_zero, nneg, nneg2, nlt, nle, neq, nI_add, pk_mul, nsub, ncl, nin, and_true, true_and, not_true_eq_false, not_false_eq_true, ↓reduceIte, Nat.reduceAdd, if_pos, if_neg, b1]
      · unfold P_X8_thingOf
        rw [isThing_ry hs.2.1.1.1 hn e1]
        simp (disch := omega) only [Nat.not_lt_zero, nneg, nneg2, nlt, nle, neq, nI_add, pk_mul, nsub, ncl, nin, and_true, true_and, not_true_eq_false, not_false_eq_true, ↓reduceIte, Nat.reduceAdd, if_pos, if_neg, b2]
    by_cases e0 : y = nI 2
    · subst e0
      refine ⟨nI (0 + (ch W 12 (W t)).length), fun K => ?_, fun K => ?_⟩
      · unfold P_X7_thingOf
        rw [isThing_y hs.1.1 hn e1]
        simp (disch := omega) only [Nat.not_lt_zero, nneg, nneg2, nlt, nle, neq, nI_add, pk_mul, nsub, ncl, nin, and_true, true_and, not_true_eq_false, not_false_eq_true, ↓reduceIte, Nat.reduceAdd, if_pos, if_neg, P_X5_wholesAbove, w1]
        exact wh_l hs.1 hn hW 12 (W t) F 0 (by omega) (by omega) (by omega) (by omega)
      · unfold P_X8_thingOf
        rw [isThing_ry hs.2.1.1.1 hn e1]
        simp (disch := omega) only [Nat.not_lt_zero, nneg, nneg2, nlt, nle, neq, nI_add, pk_mul, nsub, ncl, nin, and_true, true_and, not_true_eq_false, not_false_eq_true, ↓reduceIte, Nat.reduceAdd, if_pos, if_neg, P_X8_wholes, w2]
        exact rwh_l hs.2.1.1 hn hW 12 (W t) F 0 (by omega) (by omega) (by omega)
    by_cases e0 : y = nI 3
    · subst e0
      refine ⟨nI (pbt W t n), fun K => ?_, fun K => ?_⟩
      · unfold P_X7_thingOf
        rw [isThing_y hs.1.1 hn e1]
        simp (disch := omega) only [Nat.not_lt_zero, nneg, nneg2, nlt, nle, neq, nI_add, pk_mul, nsub, ncl, nin, and_true, true_and, not_true_eq_false, not_false_eq_true, ↓reduceIte, Nat.reduceAdd, if_pos, if_neg, P_X5_partBits]
        have z1 : pbt W t (t + 1) = 0 := orTo_z _ (fun p hp => by have := hW p (by omega); simp; omega)
        have p1 := pb_l (F := F) (K := K) hs.1 hn hW ht (n - (t + 1)) F (t + 1) (by omega) (by omega)
        rw [z1] at p1
        exact p1
      · unfold P_X8_thingOf
        rw [isThing_ry hs.2.1.1.1 hn e1]
        simp (disch := omega) only [Nat.not_lt_zero, nneg, nneg2, nlt, nle, neq, nI_add, pk_mul, nsub, ncl, nin, and_true, true_and, not_true_eq_false, not_false_eq_true, ↓reduceIte, Nat.reduceAdd, if_pos, if_neg, P_X8_partsOf]
        exact rpb_l (F := F) (K := K) hs.2.1.1 hn hW ht n F 0 (by omega) (by omega)
    by_cases e0 : y = nI 4
    · subst e0
      refine ⟨nI (csum C t 30), fun K => ?_, fun K => ?_⟩
      · unfold P_X7_thingOf
        rw [isThing_y hs.1.1 hn e1]
        simp (disch := omega) only [Nat.not_lt_zero, nneg, nneg2, nlt, nle, neq, nI_add, pk_mul, nsub, ncl, nin, and_true, true_and, not_true_eq_false, not_false_eq_true, ↓reduceIte, Nat.reduceAdd, if_pos, if_neg]
        exact cAt_e hs.1 (by omega) hFu
      · unfold P_X8_thingOf
        rw [isThing_ry hs.2.1.1.1 hn e1]
        simp (disch := omega) only [Nat.not_lt_zero, nneg, nneg2, nlt, nle, neq, nI_add, pk_mul, nsub, ncl, nin, and_true, true_and, not_true_eq_false, not_false_eq_true, ↓reduceIte, Nat.reduceAdd, if_pos, if_neg]
        exact rcA_e hs.2.1.1 hn ht hFu
    by_cases e0 : y = nI 5
    · subst e0
      have hd := hF.2.2.2.2.2.2.2.1
      refine ⟨nI (nask ln t 6), fun K => ?_, fun K => ?_⟩
      · unfold P_X7_thingOf
        rw [isThing_y hs.1.1 hn e1]
        simp (disch := omega) only [Nat.not_lt_zero, nneg, nneg2, nlt, nle, neq, nI_add, pk_mul, nsub, ncl, nin, and_true, true_and, not_true_eq_false, not_false_eq_true, ↓reduceIte, Nat.reduceAdd, if_pos, if_neg, P_X5_asksFor]
        exact asksFor_l hs.1 (WF_v hF) hd hn ht (by omega) 6 F 0 (by omega) (by omega)
      · unfold P_X8_thingOf
        rw [isThing_ry hs.2.1.1.1 hn e1, nask_e ln (fun q hq => (WF_v hF q hq).1) hd]
        simp (disch := omega) only [Nat.not_lt_zero, nneg, nneg2, nlt, nle, neq, nI_add, pk_mul, nsub, ncl, nin, and_true, true_and, not_true_eq_false, not_false_eq_true, ↓reduceIte, Nat.reduceAdd, if_pos, if_neg, P_X8_askers]
        exact askers_l hs.2.1.1 (WF_v hF) hlen hn ht ln [] F rfl (by omega)
    refine ⟨-1, fun K => ?_, fun K => ?_⟩
    · unfold P_X7_thingOf
      rw [isThing_y hs.1.1 hn e1]
      simp (disch := omega) only [Nat.not_lt_zero, nneg, nneg2, nlt, nle, neq, nI_add, pk_mul, nsub, ncl, nin, and_true, true_and, not_true_eq_false, not_false_eq_true, ↓reduceIte, Nat.reduceAdd, if_pos, if_neg, *]
    · unfold P_X8_thingOf
      rw [isThing_ry hs.2.1.1.1 hn e1]
      simp (disch := omega) only [Nat.not_lt_zero, nneg, nneg2, nlt, nle, neq, nI_add, pk_mul, nsub, ncl, nin, and_true, true_and, not_true_eq_false, not_false_eq_true, ↓reduceIte, Nat.reduceAdd, if_pos, if_neg, *]
  · refine ⟨-1, fun K => ?_, fun K => ?_⟩
    · unfold P_X7_thingOf
      rw [isThing_n hs.1.1 hn hx]
      simp (disch := omega) only [Nat.not_lt_zero, nneg, nneg2, nlt, nle, neq, nI_add, pk_mul, nsub, ncl, nin, and_true, true_and, not_true_eq_false, not_false_eq_true, ↓reduceIte, Nat.reduceAdd, if_pos, if_neg]
    · unfold P_X8_thingOf
      rw [isThing_rn hs.2.1.1.1 hn hx]
      simp (disch := omega) only [Nat.not_lt_zero, nneg, nneg2, nlt, nle, neq, nI_add, pk_mul, nsub, ncl, nin, and_true, true_and, not_true_eq_false, not_false_eq_true, ↓reduceIte, Nat.reduceAdd, if_pos, if_neg]
theorem call_count (hFu : 500 ≤ F) (hI : INV m h) (hm : m < 513) (kk : ∀ h', INV (m + 1) h' → G h') : P_X7_count F x h (fun r h1 => P_X8_count F x h1 (fun r' h3 => if r = r' then G h3 else Z h3)) := by
  obtain ⟨c, l, n, W, B, C, ln, pl, g, hs⟩ := hI
  have hF := hs.2.2.1
  have hn := hF.1
  refine pairR (P7 := fun h K => P_X7_count F x h K) (P8 := fun h K => P_X8_count F x h K) ?_ (kk _ (INV_s hs hm))
  obtain ⟨r0, rW, rB, rC, rH, rL, rk, ra, rz, rP, rp, rg⟩ := hs.1
  obtain ⟨⟨s0, sW, sB, sC, sL, sk, sP, sp⟩, sg⟩ := hs.2.1
  obtain ⟨k1, k2, ⟨t1, t2, t3, t4⟩, ⟨pp, p1, p2, p3, p4⟩, k5⟩ := hs.2.2.2.1
  unfold P_X7_count P_X8_count
  by_cases e0 : x = nI 0
  · subst e0
    refine ⟨nI n, fun K => ?_, fun K => ?_⟩ <;> simp (disch := omega) only [Nat.not_lt_zero, nneg, nneg2, nlt, nle, neq, nI_add, pk_mul, nsub, ncl, nin, and_true, true_and, not_true_eq_false, not_false_eq_true, ↓reduceIte, Nat.reduceAdd, if_pos, if_neg, r0, s0]
  by_cases e0 : x = nI 1
  · subst e0
    refine ⟨nI ln.length, fun K => ?_, fun K => ?_⟩ <;> simp (disch := omega) only [Nat.not_lt_zero, nneg, nneg2, nlt, nle, neq, nI_add, pk_mul, nsub, ncl, nin, and_true, true_and, not_true_eq_false, not_false_eq_true, ↓reduceIte, Nat.reduceAdd, if_pos, if_neg, rL, sL]
  by_cases e0 : x = nI 2
  · subst e0
    refine ⟨nI (tsum C n), fun K => ?_, fun K => ?_⟩ <;> simp (disch := omega) only [Nat.not_lt_zero, nneg, nneg2, nlt, nle, neq, nI_add, pk_mul, nsub, ncl, nin, and_true, true_and, not_true_eq_false, not_false_eq_true, ↓reduceIte, Nat.reduceAdd, if_pos, if_neg]
    · exact all_l hs.1 hn hFu n F 0 (by omega) (by omega)
    · exact rall_l hs.2.1.1 hn hFu n F 0 (by omega) (by omega)
  by_cases e0 : x = nI 3
  · subst e0
    refine ⟨nI pl.length, fun K => ?_, fun K => ?_⟩ <;> simp (disch := omega) only [Nat.not_lt_zero, nneg, nneg2, nlt, nle, neq, nI_add, pk_mul, nsub, ncl, nin, and_true, true_and, not_true_eq_false, not_false_eq_true, ↓reduceIte, Nat.reduceAdd, if_pos, if_neg, rP, sP]
  by_cases e0 : x = nI 4
  · subst e0
    refine ⟨nI l, fun K => ?_, fun K => ?_⟩ <;> simp (disch := omega) only [Nat.not_lt_zero, nneg, nneg2, nlt, nle, neq, nI_add, pk_mul, nsub, ncl, nin, and_true, true_and, not_true_eq_false, not_false_eq_true, ↓reduceIte, Nat.reduceAdd, if_pos, if_neg, t2, t3]
  by_cases e0 : x = nI 5
  · subst e0
    refine ⟨nI pp, fun K => ?_, fun K => ?_⟩ <;> simp (disch := omega) only [Nat.not_lt_zero, nneg, nneg2, nlt, nle, neq, nI_add, pk_mul, nsub, ncl, nin, and_true, true_and, not_true_eq_false, not_false_eq_true, ↓reduceIte, Nat.reduceAdd, if_pos, if_neg, p2, p3]
  by_cases e0 : x = nI 6
  · subst e0
    refine ⟨nI g, fun K => ?_, fun K => ?_⟩ <;> simp (disch := omega) only [Nat.not_lt_zero, nneg, nneg2, nlt, nle, neq, nI_add, pk_mul, nsub, ncl, nin, and_true, true_and, not_true_eq_false, not_false_eq_true, ↓reduceIte, Nat.reduceAdd, if_pos, if_neg, rg, sg]
  refine ⟨-1, fun K => ?_, fun K => ?_⟩ <;> simp only [*, if_false]
theorem call_line (hI : INV m h) (hm : m < 513) (kk : ∀ h', INV (m + 1) h' → G h') : P_X7_line F x h (fun r h1 => P_X8_line F x h1 (fun r' h3 => if r = r' then G h3 else Z h3)) := by
  obtain ⟨c, l, n, W, B, C, ln, pl, g, hs⟩ := hI
  have hF := hs.2.2.1
  have hlen := WF_6 hF
  refine pairR (P7 := fun h K => P_X7_line F x h K) (P8 := fun h K => P_X8_line F x h K) ?_ (kk _ (INV_s hs hm))
  obtain ⟨r0, rW, rB, rC, rH, rL, rk, ra, rz, rP, rp, rg⟩ := hs.1
  obtain ⟨⟨s0, sW, sB, sC, sL, sk, sP, sp⟩, sg⟩ := hs.2.1
  unfold P_X7_line P_X8_line
  by_cases e0 : x = -1
  · subst e0
    have : (-1 : Int32) ≤ -1 := by decide
    refine ⟨nI ln.length, fun K => ?_, fun K => ?_⟩ <;> simp (disch := omega) only [Nat.not_lt_zero, nneg, nneg2, nlt, nle, neq, nI_add, pk_mul, nsub, ncl, nin, and_true, true_and, not_true_eq_false, not_false_eq_true, ↓reduceIte, Nat.reduceAdd, if_pos, if_neg, rL, sL, this]
  rcases i32_cases x with q | ⟨k, q1, rfl⟩
  · have : ¬ (-1 : Int32) ≤ x := by
      intro z
      rw [Int32.lt_iff_toInt_lt, nI_toInt (by omega)] at q
      rw [Int32.le_iff_toInt_le] at z
      have e2 : (-1 : Int32).toInt = -1 := by decide
      rw [e2] at z
      have : x.toInt = (-1 : Int32).toInt := by rw [e2]; omega
      exact e0 (Int32.toInt_inj.mp this)
    refine ⟨-1, fun K => ?_, fun K => ?_⟩ <;> simp only [this, if_false]
  · have : ((-1 : Int32) ≤ nI k) = True := eq_true (by
      rw [Int32.le_iff_toInt_le, nI_toInt q1]
      have e2 : (-1 : Int32).toInt = -1 := by decide
      omega)
    by_cases e : k < ln.length
    · have e3 : ln[k]? = some ln[k] := List.getElem?_eq_getElem e
      have a1 := rk k _ e3
      have a2 := (sk k _ e3).1
      refine ⟨nI ln[k].1, fun K => ?_, fun K => ?_⟩ <;> simp (disch := omega) only [Nat.not_lt_zero, nneg, nneg2, nlt, nle, neq, nI_add, pk_mul, nsub, ncl, nin, and_true, true_and, not_true_eq_false, not_false_eq_true, ↓reduceIte, Nat.reduceAdd, if_pos, if_neg, rL, sL, this, a1, a2]
    · refine ⟨-2, fun K => ?_, fun K => ?_⟩ <;> simp (disch := omega) only [Nat.not_lt_zero, nneg, nneg2, nlt, nle, neq, nI_add, pk_mul, nsub, ncl, nin, and_true, true_and, not_true_eq_false, not_false_eq_true, ↓reduceIte, Nat.reduceAdd, if_pos, if_neg, rL, sL, this]
end CE2
