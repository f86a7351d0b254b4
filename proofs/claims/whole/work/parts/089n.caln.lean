/-! calls: into, would -/
section CN
variable {m F : Nat} {h : AH} {G Z : AH → Prop} {x y z : Int32}
theorem dv5 : ∀ j, j < 30 → nI j / nI 5 = nI (j / 5) ∧ nI j - nI (j / 5) * nI 5 = nI (j % 5) := by decide +kernel
theorem into_c {n a s k t g : Nat} {W B : Nat → Nat} {C : CT} {ln pl : LN} {K : Int32 → AH → Prop} {h0 : AH} (hR : RC 1 n W B C ln pl g h0) (hn : n ≤ 12) (ht : t < n) (ha : a < 3) (hs : s ≤ 36) (hk : k < 2147483000) (h55 : h0 55 a = nI s)
    (kk : ∀ h', (∀ b, b ≠ 54 → h' b = h0 b) → (∀ j, h' 54 j = if a * 36 + k ≤ j ∧ j < a * 36 + k + min 30 (s - k) then nI (C t ((j - (a * 36 + k)) / 5) ((j - (a * 36 + k)) % 5 + 1)) else h0 54 j) → K (nI (min 30 (s - k))) h') :
    ∀ (d N i : Nat) (h : AH), i + d = min 30 (s - k) → d + 1 ≤ N → (∀ b, b ≠ 54 → h b = h0 b) → (∀ j, h 54 j = if a * 36 + k ≤ j ∧ j < a * 36 + k + i then nI (C t ((j - (a * 36 + k)) / 5) ((j - (a * 36 + k)) % 5 + 1)) else h0 54 j) → X7_into_c52 F K N (nI a) (nI k) (nI (t * 30)) (nI i) h := by
  intro d
  induction d with
  | zero =>
    intro N i h h1 h2 h3 h4
    obtain ⟨N, rfl⟩ : ∃ k, N = k + 1 := ⟨N - 1, by omega⟩
    have hi : i = min 30 (s - k) := by omega
    have e5 : h 55 a = nI s := by rw [h3 55 (by omega)]; exact h55
    rw [X7_into_c52_s]
    rw [← hi] at kk
    by_cases e : 30 ≤ i
    · simp (disch := omega) only [Nat.not_lt_zero, nneg, nneg2, nlt, nle, neq, nI_add, pk_mul, nsub, ncl, nin, and_true, true_and, not_true_eq_false, not_false_eq_true, ↓reduceIte, Nat.reduceAdd, if_pos, if_neg]
      exact kk h h3 h4
    · simp (disch := omega) only [Nat.not_lt_zero, nneg, nneg2, nlt, nle, neq, nI_add, pk_mul, nsub, ncl, nin, and_true, true_and, not_true_eq_false, not_false_eq_true, ↓reduceIte, Nat.reduceAdd, if_pos, if_neg]
      rw [hasP_n ha e5 hs (fun ⟨j, q1, q2⟩ => by have := (nI_eq (by omega) (by omega)).mp q2; omega), if_pos rfl]
      exact kk h h3 h4
  | succ d ih =>
    intro N i h h1 h2 h3 h4
    obtain ⟨N, rfl⟩ : ∃ k, N = k + 1 := ⟨N - 1, by omega⟩
    have e5 : h 55 a = nI s := by rw [h3 55 (by omega)]; exact h55
    have e4 : h 4 (t * 30 + i) = nI (C t (i / 5) (i % 5 + 1)) := by
      rw [h3 4 (by omega)]
      have := hR.2.2.2.1 t (i / 5) (i % 5 + 1) (by omega) (by omega) (by omega) (by omega)
      have e2 : (t * 6 + i / 5) * 5 + (i % 5 + 1) - 1 = t * 30 + i := by omega
      rw [e2] at this
      exact this
    rw [X7_into_c52_s]
    simp (disch := omega) only [Nat.not_lt_zero, nneg, nneg2, nlt, nle, neq, nI_add, pk_mul, nsub, ncl, nin, and_true, true_and, not_true_eq_false, not_false_eq_true, ↓reduceIte, Nat.reduceAdd, if_pos, if_neg]
    rw [hasP_y ha e5 hs ⟨k + i, by omega, rfl⟩]
    simp (disch := omega) only [Nat.not_lt_zero, nneg, nneg2, nlt, nle, neq, nI_add, pk_mul, nsub, ncl, nin, and_true, true_and, not_true_eq_false, not_false_eq_true, ↓reduceIte, Nat.reduceAdd, if_pos, if_neg, P_X1_cell, e4]
    refine ih N (i + 1) _ (by omega) (by omega) (fun b hb => ?_) (fun j => ?_)
    · rw [up_ne _ _ _ _ hb]; exact h3 b hb
    · rw [upr, h4 j]
      by_cases e : j = a * 36 + (k + i)
      · rw [if_pos ⟨rfl, e⟩, if_pos (by omega)]
        have : j - (a * 36 + k) = i := by omega
        rw [this]
      · rw [if_neg (by omega)]
        by_cases e2 : a * 36 + k ≤ j ∧ j < a * 36 + k + i
        · rw [if_pos e2, if_pos (by omega)]
        · rw [if_neg e2, if_neg (by omega)]
theorem into_r {n a s k t : Nat} {W B : Nat → Nat} {C : CT} {ln pl : LN} {K : Int32 → AH → Prop} {h0 : AH} (hR : RG 57 n W B C ln pl h0) (hn : n ≤ 12) (ht : t < n) (ha : a < 3) (hs : s ≤ 36) (hk : k < 2147483000) (h55 : h0 66 a = nI s)
    (kk : ∀ h', (∀ b, b ≠ 67 → h' b = h0 b) → (∀ j, h' 67 j = if a * 36 + k ≤ j ∧ j < a * 36 + k + min 30 (s - k) then nI (C t ((j - (a * 36 + k)) / 5) ((j - (a * 36 + k)) % 5 + 1)) else h0 67 j) → K (nI (min 30 (s - k))) h') :
    ∀ (d N i : Nat) (h : AH), i + d = min 30 (s - k) → d + 1 ≤ N → (∀ b, b ≠ 67 → h b = h0 b) → (∀ j, h 67 j = if a * 36 + k ≤ j ∧ j < a * 36 + k + i then nI (C t ((j - (a * 36 + k)) / 5) ((j - (a * 36 + k)) % 5 + 1)) else h0 67 j) → X8_into_c39 F K N (nI t) (nI a) (nI k) (nI i) h := by
  intro d
  induction d with
  | zero =>
    intro N i h h1 h2 h3 h4
    obtain ⟨N, rfl⟩ : ∃ k, N = k + 1 := ⟨N - 1, by omega⟩
    have hi : i = min 30 (s - k) := by omega
    have e5 : h 66 a = nI s := by rw [h3 66 (by omega)]; exact h55
    rw [X8_into_c39_s]
    rw [← hi] at kk
    by_cases e : 30 ≤ i
    · simp (disch := omega) only [Nat.not_lt_zero, nneg, nneg2, nlt, nle, neq, nI_add, pk_mul, nsub, ncl, nin, and_true, true_and, not_true_eq_false, not_false_eq_true, ↓reduceIte, Nat.reduceAdd, if_pos, if_neg]
      exact kk h h3 h4
    · simp (disch := omega) only [Nat.not_lt_zero, nneg, nneg2, nlt, nle, neq, nI_add, pk_mul, nsub, ncl, nin, and_true, true_and, not_true_eq_false, not_false_eq_true, ↓reduceIte, Nat.reduceAdd, if_pos, if_neg, e5]
      exact kk h h3 h4
  | succ d ih =>
    intro N i h h1 h2 h3 h4
    obtain ⟨N, rfl⟩ : ∃ k, N = k + 1 := ⟨N - 1, by omega⟩
    have e5 : h 66 a = nI s := by rw [h3 66 (by omega)]; exact h55
    have e4 : h 57 (81 + (i / 5 * 12 + t) * 5 + (i % 5 + 1) - 1) = nI (C t (i / 5) (i % 5 + 1)) := by
      rw [h3 57 (by omega)]
      exact hR.2.2.2.1 t (i / 5) (i % 5 + 1) ht (by omega) (by omega) (by omega)
    obtain ⟨d1, d2⟩ := dv5 i (by omega)
    have n5 : ¬ (nI 5 : Int32) = 0 := by decide
    rw [X8_into_c39_s]
    rw [d1, d2]
    simp (disch := omega) only [Nat.not_lt_zero, nneg, nneg2, nlt, nle, neq, nI_add, pk_mul, nsub, ncl, nin, and_true, true_and, not_true_eq_false, not_false_eq_true, ↓reduceIte, Nat.reduceAdd, if_pos, if_neg, e5, n5, P_X8_at, e4]
    refine ih N (i + 1) _ (by omega) (by omega) (fun b hb => ?_) (fun j => ?_)
    · rw [up_ne _ _ _ _ hb]; exact h3 b hb
    · rw [upr, h4 j]
      by_cases e : j = 36 * a + k + i
      · rw [if_pos ⟨rfl, e⟩, if_pos (by omega)]
        have : j - (a * 36 + k) = i := by omega
        rw [this]
      · rw [if_neg (by omega)]
        by_cases e2 : a * 36 + k ≤ j ∧ j < a * 36 + k + i
        · rw [if_pos e2, if_pos (by omega)]
        · rw [if_neg e2, if_neg (by omega)]
theorem into_z {a s k : Nat} {K : Int32 → AH → Prop} {w : Int32} (hFu : 500 ≤ F) (ha : a < 3) (hs : s ≤ 36) (hk : s ≤ k) (hk2 : k < 2147483648) (h55 : h 55 a = nI s) (kk : K (nI 0) h) : X7_into_c52 F K F (nI a) (nI k) w (nI 0) h := by
  obtain ⟨N, hN⟩ : ∃ k, F = k + 1 := ⟨F - 1, by omega⟩
  have go : ∀ N, X7_into_c52 F K (N + 1) (nI a) (nI k) w (nI 0) h := by
    intro N
    rw [X7_into_c52_s]
    simp (disch := omega) only [Nat.not_lt_zero, nneg, nneg2, nlt, nle, neq, nI_add, pk_mul, nsub, ncl, nin, and_true, true_and, not_true_eq_false, not_false_eq_true, ↓reduceIte, Nat.reduceAdd, if_pos, if_neg, Nat.add_zero]
    rw [hasP_n ha h55 hs (fun ⟨j, q1, q2⟩ => by have := (nI_eq (by omega) (by omega)).mp q2; omega), if_pos rfl]
    exact kk
  have := go N
  rw [← hN] at this
  exact this
theorem into_z2 {a s k : Nat} {K : Int32 → AH → Prop} {w : Int32} (hFu : 500 ≤ F) (ha : a < 3) (hs : s ≤ 36) (hk : s ≤ k) (hk2 : k < 2147483648) (h55 : h 66 a = nI s) (kk : K (nI 0) h) : X8_into_c39 F K F w (nI a) (nI k) (nI 0) h := by
  obtain ⟨N, hN⟩ : ∃ k, F = k + 1 := ⟨F - 1, by omega⟩
  have go : ∀ N, X8_into_c39 F K (N + 1) w (nI a) (nI k) (nI 0) h := by
    intro N
    rw [X8_into_c39_s]
    simp (disch := omega) only [Nat.not_lt_zero, nneg, nneg2, nlt, nle, neq, nI_add, pk_mul, nsub, ncl, nin, and_true, true_and, not_true_eq_false, not_false_eq_true, ↓reduceIte, Nat.reduceAdd, if_pos, if_neg, h55, Nat.sub_zero]
    exact kk
  have := go N
  rw [← hN] at this
  exact this
theorem call_into (hFu : 500 ≤ F) (hI : INV m h) (hm : m < 513) (kk : ∀ h', INV (m + 1) h' → G h') : P_X7_into F x y z h (fun r h1 => P_X8_into F x y z h1 (fun r' h3 => if r = r' then G h3 else Z h3)) := by
  obtain ⟨c, l, n, W, B, C, ln, pl, g, hs⟩ := hI
  have hF := hs.2.2.1
  have hn := hF.1
  have done := kk _ (INV_s hs hm)
  obtain ⟨k1, k2, k3, k4, k5⟩ := hs.2.2.2.1
  unfold P_X7_into P_X8_into
  by_cases hx : inr x n
  · rw [isThing_y hs.1.1 hn hx]
    have exx := hx
    obtain ⟨t, ht, rfl⟩ := hx
    by_cases hy : inr y 3
    · have ey := hy
      obtain ⟨a, ha, rfl⟩ := hy
      obtain ⟨a1, a2⟩ := k5 a ha
      simp (disch := omega) only [Nat.not_lt_zero, nneg, nneg2, nlt, nle, neq, nI_add, pk_mul, nsub, ncl, nin, and_true, true_and, not_true_eq_false, not_false_eq_true, ↓reduceIte, Nat.reduceAdd, if_pos, if_neg]
      rw [isList_y ey]
      simp (disch := omega) only [Nat.not_lt_zero, nneg, nneg2, nlt, nle, neq, nI_add, pk_mul, nsub, ncl, nin, and_true, true_and, not_true_eq_false, not_false_eq_true, ↓reduceIte, Nat.reduceAdd, if_pos, if_neg]
      rcases a2 with a2 | ⟨s, s1, s2, s3⟩
      · rw [holds_n ha a2]
        have q : ¬ nI 0 ≤ (-1 : Int32) := by decide
        simp (disch := omega) only [Nat.not_lt_zero, nneg, nneg2, nlt, nle, neq, nI_add, pk_mul, nsub, ncl, nin, and_true, true_and, not_true_eq_false, not_false_eq_true, ↓reduceIte, Nat.reduceAdd, if_pos, if_neg]
        rw [isThing_ry hs.2.1.1.1 hn exx]
        simp (disch := omega) only [Nat.not_lt_zero, nneg, nneg2, nlt, nle, neq, nI_add, pk_mul, nsub, ncl, nin, and_true, true_and, not_true_eq_false, not_false_eq_true, ↓reduceIte, Nat.reduceAdd, if_pos, if_neg]
        rw [isList_ry ey]
        simp (disch := omega) only [Nat.not_lt_zero, nneg, nneg2, nlt, nle, neq, nI_add, pk_mul, nsub, ncl, nin, and_true, true_and, not_true_eq_false, not_false_eq_true, ↓reduceIte, Nat.reduceAdd, if_pos, if_neg, ← a1, a2, q, if_true, if_false]
        exact done
      · rw [holds_y ha s2 s1]
        simp (disch := omega) only [Nat.not_lt_zero, nneg, nneg2, nlt, nle, neq, nI_add, pk_mul, nsub, ncl, nin, and_true, true_and, not_true_eq_false, not_false_eq_true, ↓reduceIte, Nat.reduceAdd, if_pos, if_neg]
        rcases i32_cases z with q | ⟨k, q1, rfl⟩
        · have e := neg_le (k := 0) q (by omega)
          simp only [e, if_false]
          rw [isThing_ry hs.2.1.1.1 hn exx]
          simp (disch := omega) only [Nat.not_lt_zero, nneg, nneg2, nlt, nle, neq, nI_add, pk_mul, nsub, ncl, nin, and_true, true_and, not_true_eq_false, not_false_eq_true, ↓reduceIte, Nat.reduceAdd, if_pos, if_neg]
          rw [isList_ry ey]
          simp (disch := omega) only [Nat.not_lt_zero, nneg, nneg2, nlt, nle, neq, nI_add, pk_mul, nsub, ncl, nin, and_true, true_and, not_true_eq_false, not_false_eq_true, ↓reduceIte, Nat.reduceAdd, if_pos, if_neg, ← a1, s2, Nat.zero_le, if_true]
          exact done
        · have et : (t * 6 + 0) * 5 + 1 - 1 = t * 30 := by omega
          simp (disch := omega) only [Nat.not_lt_zero, nneg, nneg2, nlt, nle, neq, nI_add, pk_mul, nsub, ncl, nin, and_true, true_and, not_true_eq_false, not_false_eq_true, ↓reduceIte, Nat.reduceAdd, if_pos, if_neg, Nat.zero_le, P_X5_cell, et]
          by_cases ek : s ≤ k
          · refine into_z hFu ha s1 ek q1 s2 ?_
            rw [isThing_ry hs.2.1.1.1 hn exx]
            simp (disch := omega) only [Nat.not_lt_zero, nneg, nneg2, nlt, nle, neq, nI_add, pk_mul, nsub, ncl, nin, and_true, true_and, not_true_eq_false, not_false_eq_true, ↓reduceIte, Nat.reduceAdd, if_pos, if_neg]
            rw [isList_ry ey]
            simp (disch := omega) only [Nat.not_lt_zero, nneg, nneg2, nlt, nle, neq, nI_add, pk_mul, nsub, ncl, nin, and_true, true_and, not_true_eq_false, not_false_eq_true, ↓reduceIte, Nat.reduceAdd, if_pos, if_neg, ← a1, s2, Nat.zero_le]
            refine into_z2 hFu ha s1 ek q1 (by rw [← a1]; exact s2) ?_
            rw [if_pos rfl]
            exact done
          · refine into_c (h0 := h) hs.1 hn ht ha s1 (by omega) s2 (fun h1 p1 p2 => ?_) (min 30 (s - k)) F 0 h (by omega) (by omega) (fun _ _ => rfl) (fun j => by rw [if_neg (by omega)])
            have e66 : h1 66 a = nI s := by rw [p1 66 (by omega), ← a1]; exact s2
            have hR1 : RG 57 n W B C ln pl h1 := RG_c hs.2.1.1 (p1 57 (by omega))
            rw [isThing_ry hR1.1 hn exx]
            simp (disch := omega) only [Nat.not_lt_zero, nneg, nneg2, nlt, nle, neq, nI_add, pk_mul, nsub, ncl, nin, and_true, true_and, not_true_eq_false, not_false_eq_true, ↓reduceIte, Nat.reduceAdd, if_pos, if_neg]
            rw [isList_ry ey]
            simp (disch := omega) only [Nat.not_lt_zero, nneg, nneg2, nlt, nle, neq, nI_add, pk_mul, nsub, ncl, nin, and_true, true_and, not_true_eq_false, not_false_eq_true, ↓reduceIte, Nat.reduceAdd, if_pos, if_neg, e66, Nat.zero_le]
            refine into_r (h0 := h1) hR1 hn ht ha s1 (by omega) e66 (fun h2 p3 p4 => ?_) (min 30 (s - k)) F 0 h1 (by omega) (by omega) (fun _ _ => rfl) (fun j => by rw [if_neg (by omega)])
            rw [if_pos rfl]
            have v : ∀ b, b ≠ 54 → b ≠ 67 → h2 b = h b := fun b b1 b2 => by rw [p3 b b2, p1 b b1]
            refine kk _ (INV_o hs hm (fun b hb => v b (by omega) (by omega)) (by rw [v 56 (by omega) (by omega)]) (by rw [v 56 (by omega) (by omega)]) (AY_ls hs.2.2.2.1.2 (fun b b1 _ _ b4 => v b b1 b4) ?_) (Nat.le_succ l))
            intro b hb
            rw [v 55 (by omega) (by omega), v 66 (by omega) (by omega)]
            obtain ⟨d1, d2⟩ := k5 b hb
            refine ⟨d1, ?_⟩
            rcases d2 with d2 | ⟨s', f1, f2, f3⟩
            · exact Or.inl d2
            · refine Or.inr ⟨s', f1, f2, fun i hi => ?_⟩
              rw [p3 54 (by omega), p2, p4, p1 67 (by omega)]
              have e9 : 36 * b + i = b * 36 + i := by omega
              rw [e9]
              by_cases e : a * 36 + k ≤ b * 36 + i ∧ b * 36 + i < a * 36 + k + min 30 (s - k)
              · rw [if_pos e, if_pos e]
              · rw [if_neg e, if_neg e]
                have f4 := f3 i hi
                rw [e9] at f4
                exact f4
    · simp (disch := omega) only [Nat.not_lt_zero, nneg, nneg2, nlt, nle, neq, nI_add, pk_mul, nsub, ncl, nin, and_true, true_and, not_true_eq_false, not_false_eq_true, ↓reduceIte, Nat.reduceAdd, if_pos, if_neg]
      rw [isList_n hy]
      simp (disch := omega) only [Nat.not_lt_zero, nneg, nneg2, nlt, nle, neq, nI_add, pk_mul, nsub, ncl, nin, and_true, true_and, not_true_eq_false, not_false_eq_true, ↓reduceIte, Nat.reduceAdd, if_pos, if_neg]
      rw [isThing_ry hs.2.1.1.1 hn exx]
      simp (disch := omega) only [Nat.not_lt_zero, nneg, nneg2, nlt, nle, neq, nI_add, pk_mul, nsub, ncl, nin, and_true, true_and, not_true_eq_false, not_false_eq_true, ↓reduceIte, Nat.reduceAdd, if_pos, if_neg]
      rw [isList_rn hy]
      simp (disch := omega) only [Nat.not_lt_zero, nneg, nneg2, nlt, nle, neq, nI_add, pk_mul, nsub, ncl, nin, and_true, true_and, not_true_eq_false, not_false_eq_true, ↓reduceIte, Nat.reduceAdd, if_pos, if_neg, if_true]
      exact done
  · rw [isThing_n hs.1.1 hn hx]
    simp (disch := omega) only [Nat.not_lt_zero, nneg, nneg2, nlt, nle, neq, nI_add, pk_mul, nsub, ncl, nin, and_true, true_and, not_true_eq_false, not_false_eq_true, ↓reduceIte, Nat.reduceAdd, if_pos, if_neg]
    rw [isThing_rn hs.2.1.1.1 hn hx]
    simp (disch := omega) only [Nat.not_lt_zero, nneg, nneg2, nlt, nle, neq, nI_add, pk_mul, nsub, ncl, nin, and_true, true_and, not_true_eq_false, not_false_eq_true, ↓reduceIte, Nat.reduceAdd, if_pos, if_neg, if_true]
    exact done
end CN
