/-! calls: feed, paper, lists -/
section CI
variable {m F : Nat} {h : AH} {G Z : AH → Prop} {x y z : Int32}
theorem nar_d : ∀ a, a < 128 → vp_nar .byte ((nI a).toInt8.toInt32) = nI a := by decide +kernel
/-- a step that touches nothing of the tables -/
theorem INV_o {m c l l' n : Nat} {W B : Nat → Nat} {C : CT} {ln pl : LN} {g : Nat} {h h' : AH} (hs : ST m c l n W B C ln pl g h) (hm : m < 513) (e : ∀ a, a < 37 ∨ a = 57 ∨ a = 68 → h' a = h a) (e4 : h' 56 4 = h 56 4) (e28 : h' 56 28 = h 56 28) (hA : AY n l' h') (hl : l' ≤ l + 1) : INV (m + 1) h' := by
  refine ⟨c, l', n, W, B, C, ln, pl, g, ?_, ⟨RG_c hs.2.1.1 (e 57 (by omega)), by rw [e4]; exact hs.2.1.2⟩, hs.2.2.1, ⟨KP_e hs.2.2.2.1.1 (Nat.le_refl _) (e 0 (by omega)) (fun a h1 h2 => e a (by omega)) (e 68 (by omega)) e28, hA⟩, by have := hs.2.2.2.2.1; omega, by omega⟩
  refine RC_c hs.1 (fun a h1 h2 _ => e a (by omega)) ?_
  rw [e 1 (by omega)]
  exact hs.1.2.2.2.2.2.2.2.2.2.2.2
theorem call_feed (hI : INV m h) (hm : m < 513) (kk : ∀ h', INV (m + 1) h' → G h') : P_X7_feed F x h (fun r h1 => P_X8_feed F x h1 (fun r' h3 => if r = r' then G h3 else Z h3)) := by
  obtain ⟨c, l, n, W, B, C, ln, pl, g, hs⟩ := hI
  have done := kk _ (INV_s hs hm)
  obtain ⟨k1, k2, ⟨t1, t2, t3, t4⟩, k4, k5⟩ := hs.2.2.2.1
  unfold P_X7_feed P_X8_feed
  by_cases hx : ins x 1 127
  · have ex := hx
    obtain ⟨k, hk1, hk2, rfl⟩ := hx
    by_cases e : l = 120
    · subst e
      simp (disch := omega) only [Nat.not_lt_zero, nneg, nneg2, nlt, nle, neq, nI_add, pk_mul, nsub, ncl, nin, and_true, true_and, not_true_eq_false, not_false_eq_true, ↓reduceIte, Nat.reduceAdd, if_pos, if_neg, t2]
      rw [inA_y (a := 1) (b := 127) (by omega) ex]
      simp (disch := omega) only [Nat.not_lt_zero, nneg, nneg2, nlt, nle, neq, nI_add, pk_mul, nsub, ncl, nin, and_true, true_and, not_true_eq_false, not_false_eq_true, ↓reduceIte, Nat.reduceAdd, if_pos, if_neg, t3, if_true]
      exact done
    · have nk := nar_d k (by omega)
      have a0 : ∀ z : Int32, up h 45 l z 44 0 = nI l := fun z => by rw [up_ne _ _ _ _ (by omega)]; exact t2
      have a1 : ∀ z z2 : Int32, up (up h 45 l z) 44 0 z2 44 0 = z2 := fun z z2 => by rw [upr, if_pos ⟨rfl, rfl⟩]
      simp (disch := omega) only [Nat.not_lt_zero, nneg, nneg2, nlt, nle, neq, nI_add, pk_mul, nsub, ncl, nin, and_true, true_and, not_true_eq_false, not_false_eq_true, ↓reduceIte, Nat.reduceAdd, if_pos, if_neg, t2, P_X6_append, nk, a0, a1]
      rw [inA_y (a := 1) (b := 127) (by omega) ex]
      have b0 : (up (up h 45 l (nI k)) 44 0 (nI (l + 1))) 56 16 = nI l := by rw [up_ne _ _ _ _ (by omega), up_ne _ _ _ _ (by omega)]; exact t3
      have b1 : ∀ z : Int32, (up (up (up h 45 l (nI k)) 44 0 (nI (l + 1))) 64 l z) 56 16 = nI l := fun z => by rw [up_ne _ _ _ _ (by omega)]; exact b0
      have b2 : ∀ z z2 : Int32, (up (up (up (up h 45 l (nI k)) 44 0 (nI (l + 1))) 64 l z) 56 16 z2) 56 16 = z2 := fun z z2 => by rw [upr, if_pos ⟨rfl, rfl⟩]
      simp (disch := omega) only [Nat.not_lt_zero, nneg, nneg2, nlt, nle, neq, nI_add, pk_mul, nsub, ncl, nin, and_true, true_and, not_true_eq_false, not_false_eq_true, ↓reduceIte, Nat.reduceAdd, if_pos, if_neg, b0, b1, b2, if_true]
      have v : ∀ a, a ≠ 45 → a ≠ 44 → a ≠ 64 → a ≠ 56 → (up (up (up (up h 45 l (nI k)) 44 0 (nI (l + 1))) 64 l (nI k)) 56 16 (nI (l + 1))) a = h a := fun a h1 h2 h3 h4 => by rw [up_ne _ _ _ _ h4, up_ne _ _ _ _ h3, up_ne _ _ _ _ h2, up_ne _ _ _ _ h1]
      have v56 : ∀ j, j ≠ 16 → (up (up (up (up h 45 l (nI k)) 44 0 (nI (l + 1))) 64 l (nI k)) 56 16 (nI (l + 1))) 56 j = h 56 j := fun j h1 => by rw [upr, if_neg (by omega), up_ne _ _ _ _ (by omega), up_ne _ _ _ _ (by omega), up_ne _ _ _ _ (by omega)]
      refine kk _ (INV_o hs hm (fun a ha => v a (by omega) (by omega) (by omega) (by omega)) (v56 4 (by omega)) (v56 28 (by omega)) ⟨?_, ⟨by omega, ?_, ?_, fun i hi => ?_⟩, ?_, ?_⟩ (Nat.le_refl _))
      · exact GT_e k2 (fun a ha => v a (by omega) (by omega) (by omega) (by omega))
      · rw [up_ne _ _ _ _ (by omega), up_ne _ _ _ _ (by omega), a1]
      · exact b2 _ _
      · have c1 : (up (up (up (up h 45 l (nI k)) 44 0 (nI (l + 1))) 64 l (nI k)) 56 16 (nI (l + 1))) 45 i = if i = l then nI k else h 45 i := by
          rw [up_ne _ _ _ _ (by omega), up_ne _ _ _ _ (by omega), up_ne _ _ _ _ (by omega), upr]
          simp
        have c2 : (up (up (up (up h 45 l (nI k)) 44 0 (nI (l + 1))) 64 l (nI k)) 56 16 (nI (l + 1))) 64 i = if i = l then nI k else h 64 i := by
          rw [up_ne _ _ _ _ (by omega), upr, up_ne _ _ _ _ (by omega), up_ne _ _ _ _ (by omega)]
          simp
        rw [c1, c2]
        by_cases e3 : i = l
        · rw [if_pos e3, if_pos e3]
          exact ⟨rfl, k, hk1, hk2, rfl⟩
        · rw [if_neg e3, if_neg e3]
          exact t4 i (by omega)
      · unfold PP
        rw [v 51 (by omega) (by omega) (by omega) (by omega), v 52 (by omega) (by omega) (by omega) (by omega), v56 24 (by omega), v 65 (by omega) (by omega) (by omega) (by omega)]
        exact k4
      · unfold LSI
        rw [v 54 (by omega) (by omega) (by omega) (by omega), v 55 (by omega) (by omega) (by omega) (by omega), v 66 (by omega) (by omega) (by omega) (by omega), v 67 (by omega) (by omega) (by omega) (by omega)]
        exact k5
  · simp only [inA_n (a := 1) (b := 127) (by omega) (by omega) hx]
    simp only [not_true_eq_false, if_false]
    rcases ins_not hx with q | ⟨k, q1, q2, rfl⟩
    · simp only [neg_lt (k := 1) q (by omega), if_true]
      exact done
    · by_cases e : k < 1
      · simp (disch := omega) only [Nat.not_lt_zero, nneg, nneg2, nlt, nle, neq, nI_add, pk_mul, nsub, ncl, nin, and_true, true_and, not_true_eq_false, not_false_eq_true, ↓reduceIte, Nat.reduceAdd, if_pos, if_neg, if_true]
        exact done
      · simp (disch := omega) only [Nat.not_lt_zero, nneg, nneg2, nlt, nle, neq, nI_add, pk_mul, nsub, ncl, nin, and_true, true_and, not_true_eq_false, not_false_eq_true, ↓reduceIte, Nat.reduceAdd, if_pos, if_neg, if_true]
        exact done
theorem call_paper (hI : INV m h) (hm : m < 513) (kk : ∀ h', INV (m + 1) h' → G h') : P_X7_paper F x h (fun r h1 => P_X8_paper F x h1 (fun r' h3 => if r = r' then G h3 else Z h3)) := by
  obtain ⟨c, l, n, W, B, C, ln, pl, g, hs⟩ := hI
  refine pairI (P7 := fun h K => P_X7_paper F x h K) (P8 := fun h K => P_X8_paper F x h K) ?_ (kk _ (INV_s hs hm))
  obtain ⟨k1, k2, k3, ⟨p, p1, p2, p3, p4⟩, k5⟩ := hs.2.2.2.1
  unfold P_X7_paper P_X8_paper
  rcases i32_cases x with q | ⟨k, q1, rfl⟩
  · refine ⟨-1, fun K kk => ?_, fun K kk => ?_⟩ <;> simp only [neg_le (k := 0) q (by omega), if_false] <;> exact kk
  · by_cases e : k < p
    · refine ⟨h 65 k, fun K kk => ?_, fun K kk => ?_⟩ <;> simp (disch := omega) only [Nat.not_lt_zero, nneg, nneg2, nlt, nle, neq, nI_add, pk_mul, nsub, ncl, nin, and_true, true_and, not_true_eq_false, not_false_eq_true, ↓reduceIte, Nat.reduceAdd, if_pos, if_neg, p2, p3, p4, Nat.zero_le] <;> exact kk
    · refine ⟨-2, fun K kk => ?_, fun K kk => ?_⟩ <;> simp (disch := omega) only [Nat.not_lt_zero, nneg, nneg2, nlt, nle, neq, nI_add, pk_mul, nsub, ncl, nin, and_true, true_and, not_true_eq_false, not_false_eq_true, ↓reduceIte, Nat.reduceAdd, if_pos, if_neg, p2, p3, Nat.zero_le] <;> exact kk
theorem isList_y {x : Int32} {K : Int32 → AH → Prop} (hx : inr x 3) : P_X1_isList F x h K = K (nI 1) h := by
  obtain ⟨k, hk, rfl⟩ := hx
  unfold P_X1_isList
  simp (disch := omega) only [Nat.not_lt_zero, nneg, nneg2, nlt, nle, neq, nI_add, pk_mul, nsub, ncl, nin, and_true, true_and, not_true_eq_false, not_false_eq_true, ↓reduceIte, Nat.reduceAdd, if_pos, if_neg]
theorem isList_n {x : Int32} {K : Int32 → AH → Prop} (hx : ¬ inr x 3) : P_X1_isList F x h K = K (nI 0) h := by
  unfold P_X1_isList
  rcases inr_not hx with q | ⟨k, q1, q2, rfl⟩
  · rw [if_pos q]
  · simp (disch := omega) only [Nat.not_lt_zero, nneg, nneg2, nlt, nle, neq, nI_add, pk_mul, nsub, ncl, nin, and_true, true_and, not_true_eq_false, not_false_eq_true, ↓reduceIte, Nat.reduceAdd, if_pos, if_neg]
theorem isList_ry {x : Int32} {K : Int32 → AH → Prop} (hx : inr x 3) : P_X8_isList F x h K = K (nI 1) h := by
  unfold P_X8_isList
  rw [in_y (m := 2) (by omega) hx]
  simp only [zB1, true_and]
theorem isList_rn {x : Int32} {K : Int32 → AH → Prop} (hx : ¬ inr x 3) : P_X8_isList F x h K = K (nI 0) h := by
  unfold P_X8_isList
  rw [in_n (m := 2) (by omega) hx]
  simp only [zB0, true_and]
theorem inS_y {s : Nat} {K : Int32 → AH → Prop} (hs : s < 1000000) (hx : inr x s) : P_X8_in F x (nI 0) (nI s - nI 1) h K = K (nI 1) h := by
  obtain ⟨k, hk, rfl⟩ := hx
  obtain ⟨s, rfl⟩ : ∃ j, s = j + 1 := ⟨s - 1, by omega⟩
  have e : nI (s + 1) - nI 1 = nI s := nI_pred s
  rw [e]
  exact in_y (by omega) ⟨k, by omega, rfl⟩
theorem inS_n {s : Nat} {K : Int32 → AH → Prop} (hs : s < 1000000) (hx : ¬ inr x s) : P_X8_in F x (nI 0) (nI s - nI 1) h K = K (nI 0) h := by
  cases s with
  | zero =>
    have e : nI 0 - nI 1 = -1 := by decide
    rw [e]
    unfold P_X8_in
    rcases i32_cases x with q | ⟨k, q1, rfl⟩
    · rw [if_pos q]
    · have := m1_lt (k := k) q1
      simp (disch := omega) only [Nat.not_lt_zero, nneg, nneg2, nlt, nle, neq, nI_add, pk_mul, nsub, ncl, nin, and_true, true_and, not_true_eq_false, not_false_eq_true, ↓reduceIte, Nat.reduceAdd, if_pos, if_neg, this]
  | succ s =>
    have e : nI (s + 1) - nI 1 = nI s := nI_pred s
    rw [e]
    exact in_n (by omega) hx
theorem in_z {K : Int32 → AH → Prop} : P_X8_in F y (nI 0) (-2) h K = K (nI 0) h := by
  unfold P_X8_in
  rcases i32_cases y with q | ⟨j, q1, rfl⟩
  · rw [if_pos q]
  · have : (-2 : Int32) < nI j := by
      rw [Int32.lt_iff_toInt_lt, nI_toInt q1]
      have e2 : (-2 : Int32).toInt = -2 := by decide
      omega
    rw [if_pos this, ite_self]
theorem holds_y {k s : Nat} {K : Int32 → AH → Prop} (hk : k < 3) (e : h 55 k = nI s) (hs : s ≤ 36) : P_X1_holdsRow F (nI k) h K = K (nI 1) h := by
  unfold P_X1_holdsRow
  simp (disch := omega) only [Nat.not_lt_zero, nneg, nneg2, nlt, nle, neq, nI_add, pk_mul, nsub, ncl, nin, and_true, true_and, not_true_eq_false, not_false_eq_true, ↓reduceIte, Nat.reduceAdd, if_pos, if_neg, e]
theorem holds_n {k : Nat} {K : Int32 → AH → Prop} (hk : k < 3) (e : h 55 k = -1) : P_X1_holdsRow F (nI k) h K = K (nI 0) h := by
  unfold P_X1_holdsRow
  have : (-1 : Int32) < nI 0 := by decide
  simp (disch := omega) only [Nat.not_lt_zero, nneg, nneg2, nlt, nle, neq, nI_add, pk_mul, nsub, ncl, nin, and_true, true_and, not_true_eq_false, not_false_eq_true, ↓reduceIte, Nat.reduceAdd, if_pos, if_neg, e, this]
theorem hasP_y {k s : Nat} {K : Int32 → AH → Prop} (hk : k < 3) (e : h 55 k = nI s) (hs : s ≤ 36) (hy : inr y s) : P_X1_hasPlace F (nI k) y h K = K (nI 1) h := by
  obtain ⟨j, hj, rfl⟩ := hy
  unfold P_X1_hasPlace
  simp (disch := omega) only [Nat.not_lt_zero, nneg, nneg2, nlt, nle, neq, nI_add, pk_mul, nsub, ncl, nin, and_true, true_and, not_true_eq_false, not_false_eq_true, ↓reduceIte, Nat.reduceAdd, if_pos, if_neg, e]
theorem hasP_n {k s : Nat} {K : Int32 → AH → Prop} (hk : k < 3) (e : h 55 k = nI s) (hs : s ≤ 36) (hy : ¬ inr y s) : P_X1_hasPlace F (nI k) y h K = K (nI 0) h := by
  unfold P_X1_hasPlace
  rcases inr_not hy with q | ⟨j, q1, q2, rfl⟩
  · rw [if_pos q]
  · simp (disch := omega) only [Nat.not_lt_zero, nneg, nneg2, nlt, nle, neq, nI_add, pk_mul, nsub, ncl, nin, and_true, true_and, not_true_eq_false, not_false_eq_true, ↓reduceIte, Nat.reduceAdd, if_pos, if_neg, e]
theorem hasP_z {k : Nat} {K : Int32 → AH → Prop} (hk : k < 3) (e : h 55 k = -1) : P_X1_hasPlace F (nI k) y h K = K (nI 0) h := by
  unfold P_X1_hasPlace
  rcases i32_cases y with q | ⟨j, q1, rfl⟩
  · rw [if_pos q]
  · have : (-1 : Int32) ≤ nI j := by
      rw [Int32.le_iff_toInt_le, nI_toInt q1]
      have e2 : (-1 : Int32).toInt = -1 := by decide
      omega
    simp (disch := omega) only [Nat.not_lt_zero, nneg, nneg2, nlt, nle, neq, nI_add, pk_mul, nsub, ncl, nin, and_true, true_and, not_true_eq_false, not_false_eq_true, ↓reduceIte, Nat.reduceAdd, if_pos, if_neg, e, this]
theorem call_set (hI : INV m h) (hm : m < 513) (kk : ∀ h', INV (m + 1) h' → G h') : P_X7_set F x y z h (fun r h1 => P_X8_set F x y z h1 (fun r' h3 => if r = r' then G h3 else Z h3)) := by
  obtain ⟨c, l, n, W, B, C, ln, pl, g, hs⟩ := hI
  have done := kk _ (INV_s hs hm)
  obtain ⟨k1, k2, k3, k4, k5⟩ := hs.2.2.2.1
  by_cases hx : inr x 3
  · have ex := hx
    obtain ⟨k, hk, rfl⟩ := hx
    obtain ⟨a1, a2⟩ := k5 k hk
    rcases a2 with a2 | ⟨s, s1, s2, s3⟩
    · refine pairI (P7 := fun h K => P_X7_set F (nI k) y z h K) (P8 := fun h K => P_X8_set F (nI k) y z h K) ⟨-11, fun K kk => ?_, fun K kk => ?_⟩ done
      · unfold P_X7_set
        rw [isList_y ex]
        simp (disch := omega) only [Nat.not_lt_zero, nneg, nneg2, nlt, nle, neq, nI_add, pk_mul, nsub, ncl, nin, and_true, true_and, not_true_eq_false, not_false_eq_true, ↓reduceIte, Nat.reduceAdd, if_pos, if_neg, holds_n hk a2]
        exact kk
      · unfold P_X8_set
        rw [isList_ry ex]
        have : ¬ (nI 0 : Int32) ≤ -1 := by decide
        simp (disch := omega) only [Nat.not_lt_zero, nneg, nneg2, nlt, nle, neq, nI_add, pk_mul, nsub, ncl, nin, and_true, true_and, not_true_eq_false, not_false_eq_true, ↓reduceIte, Nat.reduceAdd, if_pos, if_neg, ← a1, a2, this]
        exact kk
    · by_cases hy : inr y s
      · have ey := hy
        obtain ⟨j, hj, rfl⟩ := hy
        unfold P_X7_set P_X8_set
        rw [isList_y ex]
        simp (disch := omega) only [Nat.not_lt_zero, nneg, nneg2, nlt, nle, neq, nI_add, pk_mul, nsub, ncl, nin, and_true, true_and, not_true_eq_false, not_false_eq_true, ↓reduceIte, Nat.reduceAdd, if_pos, if_neg, holds_y hk s2 s1, hasP_y hk s2 s1 ey, P_X1_cell]
        rw [isList_ry ex]
        have b1 : (up h 54 (k * 36 + j) z) 66 k = nI s := by rw [up_ne _ _ _ _ (by omega), ← a1]; exact s2
        simp (disch := omega) only [Nat.not_lt_zero, nneg, nneg2, nlt, nle, neq, nI_add, pk_mul, nsub, ncl, nin, and_true, true_and, not_true_eq_false, not_false_eq_true, ↓reduceIte, Nat.reduceAdd, if_pos, if_neg, b1, in_y (F := F) (m := s - 1) (x := nI j) (by omega) ⟨j, by omega, rfl⟩, if_true, Nat.zero_le]
        have v : ∀ a, a ≠ 54 → a ≠ 67 → (up (up h 54 (k * 36 + j) z) 67 (36 * k + j) z) a = h a := fun a h1 h2 => by rw [up_ne _ _ _ _ h2, up_ne _ _ _ _ h1]
        refine kk _ (INV_o hs hm (fun a ha => v a (by omega) (by omega)) (by rw [v 56 (by omega) (by omega)]) (by rw [v 56 (by omega) (by omega)]) ⟨GT_e k2 (fun a ha => v a (by omega) (by omega)), ?_, ?_, fun a ha => ?_⟩ (Nat.le_succ l))
        · unfold TP
          rw [v 44 (by omega) (by omega), v 45 (by omega) (by omega), v 56 (by omega) (by omega), v 64 (by omega) (by omega)]
          exact k3
        · unfold PP
          rw [v 51 (by omega) (by omega), v 52 (by omega) (by omega), v 56 (by omega) (by omega), v 65 (by omega) (by omega)]
          exact k4
        · rw [v 55 (by omega) (by omega), v 66 (by omega) (by omega)]
          obtain ⟨d1, d2⟩ := k5 a ha
          refine ⟨d1, ?_⟩
          rcases d2 with d2 | ⟨s', f1, f2, f3⟩
          · exact Or.inl d2
          · refine Or.inr ⟨s', f1, f2, fun i hi => ?_⟩
            rw [up_ne _ 67 _ _ (by omega), upr, upr, up_ne _ 54 _ _ (by omega)]
            by_cases e : a * 36 + i = k * 36 + j
            · rw [if_pos ⟨rfl, e⟩, if_pos ⟨rfl, by omega⟩]
            · rw [if_neg (by omega), if_neg (by omega)]
              exact f3 i hi
      · refine pairI (P7 := fun h K => P_X7_set F (nI k) y z h K) (P8 := fun h K => P_X8_set F (nI k) y z h K) ⟨-13, fun K kk => ?_, fun K kk => ?_⟩ done
        · unfold P_X7_set
          rw [isList_y ex]
          simp (disch := omega) only [Nat.not_lt_zero, nneg, nneg2, nlt, nle, neq, nI_add, pk_mul, nsub, ncl, nin, and_true, true_and, not_true_eq_false, not_false_eq_true, ↓reduceIte, Nat.reduceAdd, if_pos, if_neg, holds_y hk s2 s1, hasP_n hk s2 s1 hy]
          exact kk
        · unfold P_X8_set
          rw [isList_ry ex]
          simp (disch := omega) only [Nat.not_lt_zero, nneg, nneg2, nlt, nle, neq, nI_add, pk_mul, nsub, ncl, nin, and_true, true_and, not_true_eq_false, not_false_eq_true, ↓reduceIte, Nat.reduceAdd, if_pos, if_neg, ← a1, s2, inS_n (by omega) hy, Nat.zero_le]
          exact kk
  · refine pairI (P7 := fun h K => P_X7_set F x y z h K) (P8 := fun h K => P_X8_set F x y z h K) ⟨-1, fun K kk => ?_, fun K kk => ?_⟩ done
    · unfold P_X7_set
      rw [isList_n hx]
      simp (disch := omega) only [Nat.not_lt_zero, nneg, nneg2, nlt, nle, neq, nI_add, pk_mul, nsub, ncl, nin, and_true, true_and, not_true_eq_false, not_false_eq_true, ↓reduceIte, Nat.reduceAdd, if_pos, if_neg]
      exact kk
    · unfold P_X8_set
      rw [isList_rn hx]
      simp (disch := omega) only [Nat.not_lt_zero, nneg, nneg2, nlt, nle, neq, nI_add, pk_mul, nsub, ncl, nin, and_true, true_and, not_true_eq_false, not_false_eq_true, ↓reduceIte, Nat.reduceAdd, if_pos, if_neg]
      exact kk
theorem call_get (hI : INV m h) (hm : m < 513) (kk : ∀ h', INV (m + 1) h' → G h') : P_X7_get F x y h (fun r h1 => P_X8_get F x y h1 (fun r' h3 => if (lg_cmp r r') = 0 then G h3 else Z h3)) := by
  obtain ⟨c, l, n, W, B, C, ln, pl, g, hs⟩ := hI
  have done := kk _ (INV_s hs hm)
  obtain ⟨k1, k2, k3, k4, k5⟩ := hs.2.2.2.1
  have lg : ∀ v : Int64, lg_cmp v v = 0 := fun v => by
    unfold lg_cmp
    simp
  have pair : (∃ v : Int64, (∀ K : Int64 → AH → Prop, K v h → P_X7_get F x y h K) ∧ (∀ K : Int64 → AH → Prop, K v h → P_X8_get F x y h K)) → P_X7_get F x y h (fun r h1 => P_X8_get F x y h1 (fun r' h3 => if (lg_cmp r r') = 0 then G h3 else Z h3)) := fun ⟨v, h1, h2⟩ => by
    refine h1 _ (h2 _ ?_)
    rw [if_pos (lg v)]
    exact done
  refine pair ?_
  by_cases hx : inr x 3
  · have ex := hx
    obtain ⟨k, hk, rfl⟩ := hx
    obtain ⟨a1, a2⟩ := k5 k hk
    rcases a2 with a2 | ⟨s, s1, s2, s3⟩
    · refine ⟨-9223372036854775808, fun K kk => ?_, fun K kk => ?_⟩
      · unfold P_X7_get
        rw [isList_y ex]
        simp (disch := omega) only [Nat.not_lt_zero, nneg, nneg2, nlt, nle, neq, nI_add, pk_mul, nsub, ncl, nin, and_true, true_and, not_true_eq_false, not_false_eq_true, ↓reduceIte, Nat.reduceAdd, if_pos, if_neg, hasP_z hk a2]
        exact kk
      · unfold P_X8_get
        rw [isList_ry ex]
        have e2 : (-1 : Int32) - nI 1 = -2 := by decide
        simp (disch := omega) only [Nat.not_lt_zero, nneg, nneg2, nlt, nle, neq, nI_add, pk_mul, nsub, ncl, nin, and_true, true_and, not_true_eq_false, not_false_eq_true, ↓reduceIte, Nat.reduceAdd, if_pos, if_neg, ← a1, a2, e2, in_z]
        exact kk
    · by_cases hy : inr y s
      · have ey := hy
        obtain ⟨j, hj, rfl⟩ := hy
        refine ⟨(h 54 (k * 36 + j)).toInt64, fun K kk => ?_, fun K kk => ?_⟩
        · unfold P_X7_get
          rw [isList_y ex]
          simp (disch := omega) only [Nat.not_lt_zero, nneg, nneg2, nlt, nle, neq, nI_add, pk_mul, nsub, ncl, nin, and_true, true_and, not_true_eq_false, not_false_eq_true, ↓reduceIte, Nat.reduceAdd, if_pos, if_neg, hasP_y hk s2 s1 ey, P_X1_cell]
          exact kk
        · unfold P_X8_get
          rw [isList_ry ex]
          simp (disch := omega) only [Nat.not_lt_zero, nneg, nneg2, nlt, nle, neq, nI_add, pk_mul, nsub, ncl, nin, and_true, true_and, not_true_eq_false, not_false_eq_true, ↓reduceIte, Nat.reduceAdd, if_pos, if_neg, ← a1, s2, in_y (F := F) (m := s - 1) (x := nI j) (by omega) ⟨j, by omega, rfl⟩, ← s3 j hj]
          exact kk
      · refine ⟨-9223372036854775808, fun K kk => ?_, fun K kk => ?_⟩
        · unfold P_X7_get
          rw [isList_y ex]
          simp (disch := omega) only [Nat.not_lt_zero, nneg, nneg2, nlt, nle, neq, nI_add, pk_mul, nsub, ncl, nin, and_true, true_and, not_true_eq_false, not_false_eq_true, ↓reduceIte, Nat.reduceAdd, if_pos, if_neg, hasP_n hk s2 s1 hy]
          exact kk
        · unfold P_X8_get
          rw [isList_ry ex]
          simp (disch := omega) only [Nat.not_lt_zero, nneg, nneg2, nlt, nle, neq, nI_add, pk_mul, nsub, ncl, nin, and_true, true_and, not_true_eq_false, not_false_eq_true, ↓reduceIte, Nat.reduceAdd, if_pos, if_neg, ← a1, s2, inS_n (by omega) hy]
          exact kk
  · refine ⟨-9223372036854775808, fun K kk => ?_, fun K kk => ?_⟩
    · unfold P_X7_get
      rw [isList_n hx]
      simp (disch := omega) only [Nat.not_lt_zero, nneg, nneg2, nlt, nle, neq, nI_add, pk_mul, nsub, ncl, nin, and_true, true_and, not_true_eq_false, not_false_eq_true, ↓reduceIte, Nat.reduceAdd, if_pos, if_neg]
      exact kk
    · unfold P_X8_get
      rw [isList_rn hx]
      simp (disch := omega) only [Nat.not_lt_zero, nneg, nneg2, nlt, nle, neq, nI_add, pk_mul, nsub, ncl, nin, and_true, true_and, not_true_eq_false, not_false_eq_true, ↓reduceIte, Nat.reduceAdd, if_pos, if_neg]
      exact kk
end CI
