/-! calls: list, does, into -/
section CM
variable {m F : Nat} {h : AH} {G Z : AH → Prop} {x y z : Int32}
theorem AY_ls {n l : Nat} {h h' : AH} (hA : AY n l h) (v : ∀ a, a ≠ 54 → a ≠ 55 → a ≠ 66 → a ≠ 67 → h' a = h a) (hl : LSI h') : AY n l h' := by
  obtain ⟨k2, k3, k4, k5⟩ := hA
  refine ⟨GT_e k2 (fun a ha => v a (by omega) (by omega) (by omega) (by omega)), ?_, ?_, hl⟩
  · unfold TP
    rw [v 44 (by omega) (by omega) (by omega) (by omega), v 45 (by omega) (by omega) (by omega) (by omega), v 56 (by omega) (by omega) (by omega) (by omega), v 64 (by omega) (by omega) (by omega) (by omega)]
    exact k3
  · unfold PP
    rw [v 51 (by omega) (by omega) (by omega) (by omega), v 52 (by omega) (by omega) (by omega) (by omega), v 56 (by omega) (by omega) (by omega) (by omega), v 65 (by omega) (by omega) (by omega) (by omega)]
    exact k4
theorem mk_l {a s : Nat} {h0 : AH} {K : AH → Prop} (ha : a < 3) (hs : s ≤ 36) (kk : ∀ h', (∀ b, b ≠ 54 → h' b = h0 b) → (∀ j, h' 54 j = if a * 36 ≤ j ∧ j < a * 36 + s then nI 0 else h0 54 j) → K h') :
    ∀ (d N i : Nat) (h : AH), i + d = s → d + 1 ≤ N → (∀ b, b ≠ 54 → h b = h0 b) → (∀ j, h 54 j = if a * 36 ≤ j ∧ j < a * 36 + i then nI 0 else h0 54 j) → X1_make_c9 F K N (nI a) (nI s) (nI i) h := by
  intro d
  induction d with
  | zero =>
    intro N i h h1 h2 h3 h4
    obtain ⟨N, rfl⟩ : ∃ k, N = k + 1 := ⟨N - 1, by omega⟩
    have : i = s := by omega
    subst this
    rw [X1_make_c9_s]
    simp (disch := omega) only [Nat.not_lt_zero, nneg, nneg2, nlt, nle, neq, nI_add, pk_mul, nsub, ncl, nin, and_true, true_and, not_true_eq_false, not_false_eq_true, ↓reduceIte, Nat.reduceAdd, if_pos, if_neg]
    exact kk h h3 h4
  | succ d ih =>
    intro N i h h1 h2 h3 h4
    obtain ⟨N, rfl⟩ : ∃ k, N = k + 1 := ⟨N - 1, by omega⟩
    rw [X1_make_c9_s]
    simp (disch := omega) only [Nat.not_lt_zero, nneg, nneg2, nlt, nle, neq, nI_add, pk_mul, nsub, ncl, nin, and_true, true_and, not_true_eq_false, not_false_eq_true, ↓reduceIte, Nat.reduceAdd, if_pos, if_neg, P_X1_cell]
    refine ih N (i + 1) _ (by omega) (by omega) (fun b hb => ?_) (fun j => ?_)
    · rw [up_ne _ _ _ _ hb]; exact h3 b hb
    · rw [upr, h4 j]
      by_cases e : j = a * 36 + i
      · rw [if_pos ⟨rfl, e⟩, if_pos (by omega)]
      · rw [if_neg (by omega)]
        by_cases e2 : a * 36 ≤ j ∧ j < a * 36 + i
        · rw [if_pos e2, if_pos (by omega)]
        · rw [if_neg e2, if_neg (by omega)]
theorem lr_l {a : Nat} {h0 : AH} {K : Int32 → AH → Prop} (ha : a < 3) (kk : ∀ h', (∀ b, b ≠ 67 → h' b = h0 b) → (∀ j, h' 67 j = if a * 36 ≤ j ∧ j < a * 36 + 36 then nI 0 else h0 67 j) → K (nI 1) h') :
    ∀ (d N i : Nat) (h : AH), i + d = 36 → d + 1 ≤ N → (∀ b, b ≠ 67 → h b = h0 b) → (∀ j, h 67 j = if a * 36 ≤ j ∧ j < a * 36 + i then nI 0 else h0 67 j) → X8_list_c31 F K N (nI a) (nI i) h := by
  intro d
  induction d with
  | zero =>
    intro N i h h1 h2 h3 h4
    obtain ⟨N, rfl⟩ : ∃ k, N = k + 1 := ⟨N - 1, by omega⟩
    have : i = 36 := by omega
    subst this
    rw [X8_list_c31_s]
    simp (disch := omega) only [Nat.not_lt_zero, nneg, nneg2, nlt, nle, neq, nI_add, pk_mul, nsub, ncl, nin, and_true, true_and, not_true_eq_false, not_false_eq_true, ↓reduceIte, Nat.reduceAdd, if_pos, if_neg]
    exact kk h h3 h4
  | succ d ih =>
    intro N i h h1 h2 h3 h4
    obtain ⟨N, rfl⟩ : ∃ k, N = k + 1 := ⟨N - 1, by omega⟩
    rw [X8_list_c31_s]
    simp (disch := omega) only [Nat.not_lt_zero, nneg, nneg2, nlt, nle, neq, nI_add, pk_mul, nsub, ncl, nin, and_true, true_and, not_true_eq_false, not_false_eq_true, ↓reduceIte, Nat.reduceAdd, if_pos, if_neg]
    refine ih N (i + 1) _ (by omega) (by omega) (fun b hb => ?_) (fun j => ?_)
    · rw [up_ne _ _ _ _ hb]; exact h3 b hb
    · rw [upr, h4 j]
      by_cases e : j = 36 * a + i
      · rw [if_pos ⟨rfl, e⟩, if_pos (by omega)]
      · rw [if_neg (by omega)]
        by_cases e2 : a * 36 ≤ j ∧ j < a * 36 + i
        · rw [if_pos e2, if_pos (by omega)]
        · rw [if_neg e2, if_neg (by omega)]
theorem call_list (hFu : 500 ≤ F) (hI : INV m h) (hm : m < 513) (kk : ∀ h', INV (m + 1) h' → G h') : P_X7_list F x y h (fun r h1 => P_X8_list F x y h1 (fun r' h3 => if r = r' then G h3 else Z h3)) := by
  obtain ⟨c, l, n, W, B, C, ln, pl, g, hs⟩ := hI
  have done := kk _ (INV_s hs hm)
  by_cases hx : inr x 3
  · have ex := hx
    obtain ⟨a, ha, rfl⟩ := hx
    unfold P_X7_list P_X8_list
    rw [isList_y ex]
    simp (disch := omega) only [Nat.not_lt_zero, nneg, nneg2, nlt, nle, neq, nI_add, pk_mul, nsub, ncl, nin, and_true, true_and, not_true_eq_false, not_false_eq_true, ↓reduceIte, Nat.reduceAdd, if_pos, if_neg]
    by_cases h1 : y ≤ nI 36
    · by_cases h2 : nI 0 ≤ y
      · obtain ⟨s, q1, rfl⟩ : ∃ s, s < 2147483648 ∧ y = nI s := by
          rcases i32_cases y with q | q
          · exact absurd h2 (of_eq_false (neg_le (k := 0) q (by omega)))
          · exact q
        rw [nle q1 (by omega)] at h1
        simp (disch := omega) only [Nat.not_lt_zero, nneg, nneg2, nlt, nle, neq, nI_add, pk_mul, nsub, ncl, nin, and_true, true_and, not_true_eq_false, not_false_eq_true, ↓reduceIte, Nat.reduceAdd, if_pos, if_neg, Nat.zero_le, P_X1_make]
        refine mk_l (h0 := up h 55 a (nI s)) ha h1 (fun ha1 p1 p2 => ?_) s F 0 _ (by omega) (by omega) (fun _ _ => rfl) (fun j => by rw [if_neg (by omega)])
        rw [isList_ry ex]
        simp (disch := omega) only [Nat.not_lt_zero, nneg, nneg2, nlt, nle, neq, nI_add, pk_mul, nsub, ncl, nin, and_true, true_and, not_true_eq_false, not_false_eq_true, ↓reduceIte, Nat.reduceAdd, if_pos, if_neg, Nat.zero_le]
        refine lr_l (h0 := up ha1 66 a (nI s)) ha (fun ha2 p3 p4 => ?_) 36 F 0 _ (by omega) (by omega) (fun _ _ => rfl) (fun j => by rw [if_neg (by omega)])
        rw [if_pos rfl]
        have v : ∀ b, b ≠ 54 → b ≠ 55 → b ≠ 66 → b ≠ 67 → ha2 b = h b := fun b b1 b2 b3 b4 => by rw [p3 b b4, up_ne _ _ _ _ b3, p1 b b1, up_ne _ _ _ _ b2]
        refine kk _ (INV_o hs hm (fun b hb => v b (by omega) (by omega) (by omega) (by omega)) (by rw [v 56 (by omega) (by omega) (by omega) (by omega)]) (by rw [v 56 (by omega) (by omega) (by omega) (by omega)]) (AY_ls hs.2.2.2.1.2 v ?_) (Nat.le_succ l))
        intro b hb
        have c55 : ∀ b, ha2 55 b = if b = a then nI s else h 55 b := fun b => by
          rw [p3 55 (by omega), up_ne _ _ _ _ (by omega), p1 55 (by omega), upr]
          simp
        have c66 : ∀ b, ha2 66 b = if b = a then nI s else h 66 b := fun b => by
          rw [p3 66 (by omega), upr, p1 66 (by omega), up_ne _ _ _ _ (by omega)]
          simp
        have c54 : ∀ j, ha2 54 j = if a * 36 ≤ j ∧ j < a * 36 + s then nI 0 else h 54 j := fun j => by
          rw [p3 54 (by omega), up_ne _ _ _ _ (by omega), p2, up_ne _ _ _ _ (by omega)]
        have c67 : ∀ j, ha2 67 j = if a * 36 ≤ j ∧ j < a * 36 + 36 then nI 0 else h 67 j := fun j => by
          rw [p4, up_ne _ _ _ _ (by omega), p1 67 (by omega), up_ne _ _ _ _ (by omega)]
        rw [c55, c66]
        by_cases e : b = a
        · rw [if_pos e, if_pos e]
          refine ⟨rfl, Or.inr ⟨s, h1, rfl, fun i hi => ?_⟩⟩
          rw [c54, c67, if_pos (by omega), if_pos (by omega)]
        · rw [if_neg e, if_neg e]
          obtain ⟨d1, d2⟩ := hs.2.2.2.1.2.2.2.2 b hb
          refine ⟨d1, ?_⟩
          rcases d2 with d2 | ⟨s', f1, f2, f3⟩
          · exact Or.inl d2
          · refine Or.inr ⟨s', f1, f2, fun i hi => ?_⟩
            rw [c54, c67, if_neg (by omega), if_neg (by omega)]
            exact f3 i hi
      · simp only [h1, h2, if_true, if_false]
        rw [isList_ry ex]
        simp (disch := omega) only [Nat.not_lt_zero, nneg, nneg2, nlt, nle, neq, nI_add, pk_mul, nsub, ncl, nin, and_true, true_and, not_true_eq_false, not_false_eq_true, ↓reduceIte, Nat.reduceAdd, if_pos, if_neg, h1, h2, if_true, if_false]
        exact done
    · simp only [h1, if_false]
      rw [isList_ry ex]
      simp (disch := omega) only [Nat.not_lt_zero, nneg, nneg2, nlt, nle, neq, nI_add, pk_mul, nsub, ncl, nin, and_true, true_and, not_true_eq_false, not_false_eq_true, ↓reduceIte, Nat.reduceAdd, if_pos, if_neg, h1, if_true, if_false]
      exact done
  · unfold P_X7_list P_X8_list
    rw [isList_n hx]
    simp (disch := omega) only [Nat.not_lt_zero, nneg, nneg2, nlt, nle, neq, nI_add, pk_mul, nsub, ncl, nin, and_true, true_and, not_true_eq_false, not_false_eq_true, ↓reduceIte, Nat.reduceAdd, if_pos, if_neg]
    rw [isList_rn hx]
    simp (disch := omega) only [Nat.not_lt_zero, nneg, nneg2, nlt, nle, neq, nI_add, pk_mul, nsub, ncl, nin, and_true, true_and, not_true_eq_false, not_false_eq_true, ↓reduceIte, Nat.reduceAdd, if_pos, if_neg, if_true]
    exact done
/-- an ask as it comes -/
noncomputable def aS (n : Nat) (W : Nat → Nat) (C : CT) (ln : LN) (x y z : Int32) : Int32 × CT × LN × Nat := @ite _ (isA n x y z) (Classical.propDecidable _) (rqS W C ln (x.toNatClampNeg, y.toNatClampNeg, z.toNatClampNeg)) (-1, C, ln, 0)
theorem aS_y {n : Nat} {W : Nat → Nat} {C : CT} {ln : LN} {q : Nat × Nat × Nat} (hn : n ≤ 12) (hv : vq n q) : aS n W C ln (nI q.1) (nI q.2.1) (nI q.2.2) = rqS W C ln q := by
  obtain ⟨v1, v2, v3⟩ := hv
  unfold aS
  rw [if_pos (isA_vq ⟨v1, v2, v3⟩), ncl (by omega), ncl (by omega), ncl (by omega)]
theorem aS_n {n : Nat} {W : Nat → Nat} {C : CT} {ln : LN} (h : ¬ isA n x y z) : aS n W C ln x y z = (-1, C, ln, 0) := by
  unfold aS
  rw [if_neg h]
theorem aS_WF {c n : Nat} {W B : Nat → Nat} {C : CT} {ln pl : LN} (hF : WF c n W B C ln pl) : WF (c + 1) n W B (aS n W C ln x y z).2.1 (aS n W C ln x y z).2.2.1 pl := by
  by_cases hx : isA n x y z
  · obtain ⟨q, hv, rfl, rfl, rfl⟩ := isA_of hx
    rw [aS_y hF.1 hv]
    exact rqS_WF hF hv
  · rw [aS_n hx]
    exact WF_le hF (by omega)
theorem request_a {b c n g : Nat} {W B : Nat → Nat} {C : CT} {ln pl : LN} {K : Int32 → AH → Prop} (hR : RC b n W B C ln pl g h) (hF : WF c n W B C ln pl) (hFu : 20 ≤ F) (hc : c < 1900000000)
    (kk : ∀ h', RC b n W B (aS n W C ln x y z).2.1 (aS n W C ln x y z).2.2.1 pl (g + (aS n W C ln x y z).2.2.2) h' → fr b h h' → K (aS n W C ln x y z).1 h') : P_X5_request F b x y z h K := by
  by_cases hx : isA n x y z
  · obtain ⟨q, hv, rfl, rfl, rfl⟩ := isA_of hx
    rw [aS_y hF.1 hv] at kk
    exact request_v hR hF hFu hc hv kk
  · rw [aS_n hx] at kk
    rw [request_n hR hF hx]
    exact kk h hR (fr_rf b h)
theorem ask_a {c n g : Nat} {W B : Nat → Nat} {C : CT} {ln pl : LN} {K : Int32 → AH → Prop} (hR : RM n W B C ln pl g h) (hF : WF c n W B C ln pl) (hFu : 40 ≤ F) (hc : c < 1800000000)
    (kk : ∀ h', RM n W B (aS n W C ln x y z).2.1 (aS n W C ln x y z).2.2.1 pl (g + (aS n W C ln x y z).2.2.2) h' → fm h h' → K (aS n W C ln x y z).1 h') : P_X8_ask F x y z h K := by
  by_cases hx : isA n x y z
  · obtain ⟨q, hv, rfl, rfl, rfl⟩ := isA_of hx
    rw [aS_y hF.1 hv] at kk
    exact ask_v hR hF hFu hc hv kk
  · rw [aS_n hx] at kk
    rw [ask_n hR hF hx]
    exact kk h hR (fm_rf h)
noncomputable def dS (n : Nat) (W : Nat → Nat) (c : Nat → Int32) (s : Nat) : Nat → Nat → CT → LN → Nat → Nat → CT × LN × Nat × Nat
  | 0, _, C, ln, r, g => (C, ln, r, g)
  | f + 1, k, C, ln, r, g => if k + 3 ≤ s then dS n W c s f (k + 3) (aS n W C ln (c k) (c (k + 1)) (c (k + 2))).2.1 (aS n W C ln (c k) (c (k + 1)) (c (k + 2))).2.2.1 (if (aS n W C ln (c k) (c (k + 1)) (c (k + 2))).1 < nI 0 then r else r + 1) (g + (aS n W C ln (c k) (c (k + 1)) (c (k + 2))).2.2.2) else (C, ln, r, g)
theorem nI_s3 {s k j : Nat} (hs : s ≤ 36) (hk : k < 2147483648) (hj : j ≤ 3) : (nI s - nI j < nI k) = (s < k + j) := by
  have : (nI s - nI j).toInt = (s : Int) - j := by
    have h : ∀ s, s ≤ 36 → ∀ j, j ≤ 3 → (nI s - nI j).toInt = (s : Int) - j := by decide +kernel
    exact h s hs j hj
  rw [Int32.lt_iff_toInt_lt, this, nI_toInt hk]
  exact propext ⟨fun h => by omega, fun h => by omega⟩
theorem nI_s2 {s k j : Nat} (hs : s ≤ 36) (hk : k < 2147483648) (hj : j ≤ 3) : (nI s - nI j ≤ nI k) = (s ≤ k + j) := by
  have : (nI s - nI j).toInt = (s : Int) - j := by
    have h : ∀ s, s ≤ 36 → ∀ j, j ≤ 3 → (nI s - nI j).toInt = (s : Int) - j := by decide +kernel
    exact h s hs j hj
  rw [Int32.le_iff_toInt_le, this, nI_toInt hk]
  exact propext ⟨fun h => by omega, fun h => by omega⟩
theorem does_c {n a s : Nat} {W B : Nat → Nat} {pl : LN} {cc : Nat → Int32} {K : Int32 → AH → Prop} {h0 : AH} (hFu : 500 ≤ F) (ha : a < 3) (hs : s ≤ 36) (h55 : h0 55 a = nI s) (h54 : ∀ i, i < s → h0 54 (a * 36 + i) = cc i) : ∀ (f N k c r g : Nat) (C : CT) (ln : LN) (h : AH), s < k + 3 * f + 3 → k < 2147483648 → f + 1 ≤ N → c + f < 20000 → RC 1 n W B C ln pl g h → WF c n W B C ln pl → fr 1 h0 h →
    (∀ h', RC 1 n W B (dS n W cc s f k C ln r g).1 (dS n W cc s f k C ln r g).2.1 pl (dS n W cc s f k C ln r g).2.2.2 h' → WF (c + f) n W B (dS n W cc s f k C ln r g).1 (dS n W cc s f k C ln r g).2.1 pl → fr 1 h0 h' → K (nI (dS n W cc s f k C ln r g).2.2.1) h') → X7_does_c32 F K N (nI a) (nI r) (nI k) h := by
  intro f
  induction f with
  | zero =>
    intro N k c r g C ln h h1 hk h2 h3 hR hF hf kk
    obtain ⟨N, rfl⟩ : ∃ k, N = k + 1 := ⟨N - 1, by omega⟩
    have e5 : h 55 a = nI s := by rw [hf 55 (by omega)]; exact h55
    rw [X7_does_c32_s]
    simp (disch := omega) only [Nat.not_lt_zero, nneg, nneg2, nlt, nle, neq, nI_add, pk_mul, nsub, ncl, nin, and_true, true_and, not_true_eq_false, not_false_eq_true, ↓reduceIte, Nat.reduceAdd, if_pos, if_neg, e5]
    rw [if_pos (by rw [nI_s3 hs hk (by omega)]; omega)]
    exact kk h hR hF hf
  | succ f ih =>
    intro N k c r g C ln h h1 hk h2 h3 hR hF hf kk
    obtain ⟨N, rfl⟩ : ∃ k, N = k + 1 := ⟨N - 1, by omega⟩
    have e5 : h 55 a = nI s := by rw [hf 55 (by omega)]; exact h55
    have e4 := hf 54 (by omega)
    rw [X7_does_c32_s]
    simp only [ncl (show a < 2147483648 by omega), e5, nin ha (by omega), true_and]
    unfold dS at kk
    by_cases e : k + 3 ≤ s
    · rw [if_neg (by rw [nI_s3 hs hk (by omega)]; omega)]
      simp only [e, if_true] at kk
      have a0 := h54 k (by omega)
      have a1 := h54 (k + 1) (by omega)
      have a2 := h54 (k + 2) (by omega)
      simp (disch := omega) only [Nat.not_lt_zero, nneg, nneg2, nlt, nle, neq, nI_add, pk_mul, nsub, ncl, nin, and_true, true_and, not_true_eq_false, not_false_eq_true, ↓reduceIte, Nat.reduceAdd, if_pos, if_neg, P_X1_cell, e4, a0]
      have b1 : a * 36 + k + 1 = a * 36 + (k + 1) := by omega
      have b2 : a * 36 + k + 2 = a * 36 + (k + 2) := by omega
      rw [b1, b2, a1, a2]
      refine request_a hR hF (by omega) (by omega) (fun h' hR' hf' => ?_)
      have hF' := aS_WF (x := cc k) (y := cc (k + 1)) (z := cc (k + 2)) hF
      have k2 := ih N (k + 3) (c + 1) (if (aS n W C ln (cc k) (cc (k + 1)) (cc (k + 2))).1 < nI 0 then r else r + 1) _ _ _ h' (by omega) (by omega) (by omega) (by omega) hR' hF' (fr_tr hf hf') (by
        have : c + (f + 1) = c + 1 + f := by omega
        rw [this] at kk
        exact kk)
      by_cases e3 : (aS n W C ln (cc k) (cc (k + 1)) (cc (k + 2))).1 < nI 0
      · simp only [e3, if_true] at k2
        simp only [e3, if_true, X7_does_c103, nI_add]
        exact k2
      · simp only [e3, if_false] at k2
        simp only [e3, if_false, X7_does_c103, nI_add]
        exact k2
    · rw [if_pos (by rw [nI_s3 hs hk (by omega)]; omega)]
      simp only [e, if_false] at kk
      exact kk h hR (WF_le hF (by omega)) hf
theorem does_r {n a s : Nat} {W B : Nat → Nat} {pl : LN} {cc : Nat → Int32} {K : Int32 → AH → Prop} {h0 : AH} (hFu : 500 ≤ F) (ha : a < 3) (hs : s ≤ 36) (h55 : h0 66 a = nI s) (h54 : ∀ i, i < s → h0 67 (36 * a + i) = cc i) : ∀ (f N k c r g : Nat) (C : CT) (ln : LN) (h : AH), s < k + 3 * f + 3 → k < 2147483648 → f + 1 ≤ N → c + f < 20000 → RM n W B C ln pl g h → WF c n W B C ln pl → fm h0 h →
    (∀ h', RM n W B (dS n W cc s f k C ln r g).1 (dS n W cc s f k C ln r g).2.1 pl (dS n W cc s f k C ln r g).2.2.2 h' → fm h0 h' → K (nI (dS n W cc s f k C ln r g).2.2.1) h') → X8_does__c30 F K N (nI a) (nI r) (nI k) h := by
  intro f
  induction f with
  | zero =>
    intro N k c r g C ln h h1 hk h2 h3 hR hF hf kk
    obtain ⟨N, rfl⟩ : ∃ k, N = k + 1 := ⟨N - 1, by omega⟩
    have e5 : h 66 a = nI s := by rw [hf.1 66 (by omega) (by omega)]; exact h55
    rw [X8_does__c30_s]
    simp only [ncl (show a < 2147483648 by omega), e5, nin ha (by omega), true_and]
    rw [if_pos (by rw [nI_s2 hs hk (by omega)]; omega)]
    exact kk h hR hf
  | succ f ih =>
    intro N k c r g C ln h h1 hk h2 h3 hR hF hf kk
    obtain ⟨N, rfl⟩ : ∃ k, N = k + 1 := ⟨N - 1, by omega⟩
    have e5 : h 66 a = nI s := by rw [hf.1 66 (by omega) (by omega)]; exact h55
    have e4 := hf.1 67 (by omega) (by omega)
    rw [X8_does__c30_s]
    simp only [ncl (show a < 2147483648 by omega), e5, nin ha (by omega), true_and]
    unfold dS at kk
    by_cases e : k + 3 ≤ s
    · rw [if_neg (by rw [nI_s2 hs hk (by omega)]; omega)]
      simp only [e, if_true] at kk
      have a0 := h54 k (by omega)
      have a1 := h54 (k + 1) (by omega)
      have a2 := h54 (k + 2) (by omega)
      simp (disch := omega) only [Nat.not_lt_zero, nneg, nneg2, nlt, nle, neq, nI_add, pk_mul, nsub, ncl, nin, and_true, true_and, not_true_eq_false, not_false_eq_true, ↓reduceIte, Nat.reduceAdd, if_pos, if_neg, e4, a0]
      have b1 : 36 * a + k + 1 = 36 * a + (k + 1) := by omega
      have b2 : 36 * a + k + 2 = 36 * a + (k + 2) := by omega
      rw [b1, b2, a1, a2]
      refine ask_a hR hF (by omega) (by omega) (fun h' hR' hf' => ?_)
      have hF' := aS_WF (x := cc k) (y := cc (k + 1)) (z := cc (k + 2)) hF
      have k2 := ih N (k + 3) (c + 1) (if (aS n W C ln (cc k) (cc (k + 1)) (cc (k + 2))).1 < nI 0 then r else r + 1) _ _ _ h' (by omega) (by omega) (by omega) (by omega) hR' hF' (fm_tr hf hf') kk
      by_cases e3 : (aS n W C ln (cc k) (cc (k + 1)) (cc (k + 2))).1 < nI 0
      · simp only [e3, if_true] at k2
        simp only [e3, if_true, X8_does__c90, nI_add, Nat.add_zero]
        exact k2
      · simp only [e3, if_false] at k2
        simp only [e3, if_false, X8_does__c90, nI_add]
        exact k2
    · rw [if_pos (by rw [nI_s2 hs hk (by omega)]; omega)]
      simp only [e, if_false] at kk
      exact kk h hR hf
theorem call_does (hFu : 500 ≤ F) (hI : INV m h) (hm : m < 513) (kk : ∀ h', INV (m + 1) h' → G h') : P_X7_does F x y h (fun r h1 => P_X8_does_ F x y h1 (fun r' h3 => if r = r' then G h3 else Z h3)) := by
  obtain ⟨c, l, n, W, B, C, ln, pl, g, hs⟩ := hI
  have hc := ST_c hs
  have hF := hs.2.2.1
  have done := kk _ (INV_s hs hm)
  obtain ⟨k1, k2, k3, k4, k5⟩ := hs.2.2.2.1
  by_cases hx : inr x 3
  · have ex := hx
    obtain ⟨a, ha, rfl⟩ := hx
    unfold P_X7_does P_X8_does_
    rw [isList_y ex]
    simp (disch := omega) only [Nat.not_lt_zero, nneg, nneg2, nlt, nle, neq, nI_add, pk_mul, nsub, ncl, nin, and_true, true_and, not_true_eq_false, not_false_eq_true, ↓reduceIte, Nat.reduceAdd, if_pos, if_neg]
    rcases i32_cases y with q | ⟨k, q1, rfl⟩
    · have e := neg_le (k := 0) q (by omega)
      simp only [e, if_false]
      rw [isList_ry ex]
      simp (disch := omega) only [Nat.not_lt_zero, nneg, nneg2, nlt, nle, neq, nI_add, pk_mul, nsub, ncl, nin, and_true, true_and, not_true_eq_false, not_false_eq_true, ↓reduceIte, Nat.reduceAdd, if_pos, if_neg, if_true]
      exact done
    · simp (disch := omega) only [Nat.not_lt_zero, nneg, nneg2, nlt, nle, neq, nI_add, pk_mul, nsub, ncl, nin, and_true, true_and, not_true_eq_false, not_false_eq_true, ↓reduceIte, Nat.reduceAdd, if_pos, if_neg, Nat.zero_le]
      obtain ⟨a1, a2⟩ := k5 a ha
      rcases a2 with a2 | ⟨s, s1, s2, s3⟩
      · rw [holds_n ha a2]
        have q : ¬ nI 0 ≤ (-1 : Int32) := by decide
        simp (disch := omega) only [Nat.not_lt_zero, nneg, nneg2, nlt, nle, neq, nI_add, pk_mul, nsub, ncl, nin, and_true, true_and, not_true_eq_false, not_false_eq_true, ↓reduceIte, Nat.reduceAdd, if_pos, if_neg]
        rw [isList_ry ex]
        simp (disch := omega) only [Nat.not_lt_zero, nneg, nneg2, nlt, nle, neq, nI_add, pk_mul, nsub, ncl, nin, and_true, true_and, not_true_eq_false, not_false_eq_true, ↓reduceIte, Nat.reduceAdd, if_pos, if_neg, ← a1, a2, q, if_true, if_false]
        exact done
      · rw [holds_y ha s2 s1]
        simp (disch := omega) only [Nat.not_lt_zero, nneg, nneg2, nlt, nle, neq, nI_add, pk_mul, nsub, ncl, nin, and_true, true_and, not_true_eq_false, not_false_eq_true, ↓reduceIte, Nat.reduceAdd, if_pos, if_neg]
        refine does_c (cc := fun i => h 54 (a * 36 + i)) (h0 := h) hFu ha s1 s2 (fun _ _ => rfl) 12 F k c 0 g C ln h (by omega) q1 (by omega) (by omega) hs.1 hF (fr_rf 1 h) (fun h1 h2 h3 h4 => ?_)
        rw [isList_ry ex]
        have e66 : h1 66 a = nI s := by rw [h4 66 (by omega), ← a1]; exact s2
        simp (disch := omega) only [Nat.not_lt_zero, nneg, nneg2, nlt, nle, neq, nI_add, pk_mul, nsub, ncl, nin, and_true, true_and, not_true_eq_false, not_false_eq_true, ↓reduceIte, Nat.reduceAdd, if_pos, if_neg, e66, Nat.zero_le]
        refine does_r (cc := fun i => h 54 (a * 36 + i)) (h0 := h1) hFu ha s1 e66 (fun i hi => by rw [h4 67 (by omega)]; exact (s3 i hi).symm) 12 F k c 0 g C ln h1 (by omega) q1 (by omega) (by omega) (RM_fr hs.2.1 h4 (by omega)) hF (fm_rf h1) (fun h5 h6 h7 => ?_)
        rw [if_pos rfl]
        exact kk _ (INV_t hs hm h2 h4 h6 h7 h3)
  · unfold P_X7_does P_X8_does_
    rw [isList_n hx]
    simp (disch := omega) only [Nat.not_lt_zero, nneg, nneg2, nlt, nle, neq, nI_add, pk_mul, nsub, ncl, nin, and_true, true_and, not_true_eq_false, not_false_eq_true, ↓reduceIte, Nat.reduceAdd, if_pos, if_neg]
    rw [isList_rn hx]
    simp (disch := omega) only [Nat.not_lt_zero, nneg, nneg2, nlt, nle, neq, nI_add, pk_mul, nsub, ncl, nin, and_true, true_and, not_true_eq_false, not_false_eq_true, ↓reduceIte, Nat.reduceAdd, if_pos, if_neg, if_true]
    exact done
end CM
