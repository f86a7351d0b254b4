/-! bell, plunges -/
section CK
variable {m F : Nat} {h : AH} {G Z : AH → Prop} {x y z : Int32}
theorem nm_11 : ¬ (-11 : Int32) = nI 0 := by decide
theorem nm_1 : ¬ (-1 : Int32) = nI 0 := by decide
theorem call_bell (hI : INV m h) (hm : m < 513) (kk : ∀ h', INV (m + 1) h' → G h') : P_X7_bell F x y h (fun r h1 => P_X8_bell F x y h1 (fun r' h3 => if r = r' then G h3 else Z h3)) := by
  obtain ⟨c, l, n, W, B, C, ln, pl, g, hs⟩ := hI
  have hF := hs.2.2.1
  have hn := hF.1
  have hB := hF.2.2.1
  have done := kk _ (INV_s hs hm)
  by_cases hy : ins y 0 3
  · have ey := hy
    obtain ⟨k, hk1, hk2, rfl⟩ := hy
    by_cases hx : inr x n
    · have ex := hx
      obtain ⟨t, ht, rfl⟩ := hx
      by_cases e : B t = 1
      · refine pairI (P7 := fun h K => P_X7_bell F (nI t) (nI k) h K) (P8 := fun h K => P_X8_bell F (nI t) (nI k) h K) ⟨-11, fun K kk => ?_, fun K kk => ?_⟩ done
        · unfold P_X7_bell
          simp (disch := omega) only [Nat.not_lt_zero, nneg, nneg2, nlt, nle, neq, nI_add, pk_mul, nsub, ncl, nin, and_true, true_and, not_true_eq_false, not_false_eq_true, ↓reduceIte, Nat.reduceAdd, if_pos, if_neg]
          rw [gref_t hs.1 hn hB ht, if_pos e, if_neg nm_11]
          exact kk
        · unfold P_X8_bell
          rw [isThing_ry hs.2.1.1.1 hn ex]
          simp (disch := omega) only [Nat.not_lt_zero, nneg, nneg2, nlt, nle, neq, nI_add, pk_mul, nsub, ncl, nin, and_true, true_and, not_true_eq_false, not_false_eq_true, ↓reduceIte, Nat.reduceAdd, if_pos, if_neg]
          rw [inA_y (a := 0) (b := 3) (by omega) ey]
          simp (disch := omega) only [Nat.not_lt_zero, nneg, nneg2, nlt, nle, neq, nI_add, pk_mul, nsub, ncl, nin, and_true, true_and, not_true_eq_false, not_false_eq_true, ↓reduceIte, Nat.reduceAdd, if_pos, if_neg]
          rw [bare_r hs.2.1.1 hn hB ht, if_pos e]
          simp (disch := omega) only [Nat.not_lt_zero, nneg, nneg2, nlt, nle, neq, nI_add, pk_mul, nsub, ncl, nin, and_true, true_and, not_true_eq_false, not_false_eq_true, ↓reduceIte, Nat.reduceAdd, if_pos, if_neg]
          exact kk
      · by_cases e1 : k ≤ 1
        · unfold P_X7_bell
          simp (disch := omega) only [Nat.not_lt_zero, nneg, nneg2, nlt, nle, neq, nI_add, pk_mul, nsub, ncl, nin, and_true, true_and, not_true_eq_false, not_false_eq_true, ↓reduceIte, Nat.reduceAdd, if_pos, if_neg]
          rw [gref_t hs.1 hn hB ht, if_neg e, if_pos rfl]
          refine enter_e (gs_a hs) hn ht (fun h1 g1 => ?_)
          refine leave_e g1 hn ht (fun h2 g2 => ?_)
          rw [lI_e] at g2
          have hM : RM n W B C ln pl g h2 := ⟨RG_c hs.2.1.1 (g2.2.2.1 57 (by omega) (by omega) (by omega) (by omega)), by rw [g2.2.2.2.1 4 (by omega)]; exact hs.2.1.2⟩
          unfold P_X8_bell
          rw [isThing_ry hM.1.1 hn ex]
          simp (disch := omega) only [Nat.not_lt_zero, nneg, nneg2, nlt, nle, neq, nI_add, pk_mul, nsub, ncl, nin, and_true, true_and, not_true_eq_false, not_false_eq_true, ↓reduceIte, Nat.reduceAdd, if_pos, if_neg]
          rw [inA_y (a := 0) (b := 3) (by omega) ey]
          simp (disch := omega) only [Nat.not_lt_zero, nneg, nneg2, nlt, nle, neq, nI_add, pk_mul, nsub, ncl, nin, and_true, true_and, not_true_eq_false, not_false_eq_true, ↓reduceIte, Nat.reduceAdd, if_pos, if_neg]
          rw [bare_r hM.1 hn hB ht, if_neg e]
          simp (disch := omega) only [Nat.not_lt_zero, nneg, nneg2, nlt, nle, neq, nI_add, pk_mul, nsub, ncl, nin, and_true, true_and, not_true_eq_false, not_false_eq_true, ↓reduceIte, Nat.reduceAdd, if_pos, if_neg]
          refine goes_e (gs_b hs g2) hn ht (fun h3 g3 => ?_)
          have g4 := rleave g3 ht
          rw [lI_e] at g4
          exact kk _ (INV_g hs hm g2 g4 (fun _ _ => rfl))
        · refine pairI (P7 := fun h K => P_X7_bell F (nI t) (nI k) h K) (P8 := fun h K => P_X8_bell F (nI t) (nI k) h K) ⟨-12, fun K kk => ?_, fun K kk => ?_⟩ done
          · unfold P_X7_bell
            simp (disch := omega) only [Nat.not_lt_zero, nneg, nneg2, nlt, nle, neq, nI_add, pk_mul, nsub, ncl, nin, and_true, true_and, not_true_eq_false, not_false_eq_true, ↓reduceIte, Nat.reduceAdd, if_pos, if_neg]
            rw [gref_t hs.1 hn hB ht, if_neg e, if_pos rfl]
            exact kk
          · unfold P_X8_bell
            rw [isThing_ry hs.2.1.1.1 hn ex]
            simp (disch := omega) only [Nat.not_lt_zero, nneg, nneg2, nlt, nle, neq, nI_add, pk_mul, nsub, ncl, nin, and_true, true_and, not_true_eq_false, not_false_eq_true, ↓reduceIte, Nat.reduceAdd, if_pos, if_neg]
            rw [inA_y (a := 0) (b := 3) (by omega) ey]
            simp (disch := omega) only [Nat.not_lt_zero, nneg, nneg2, nlt, nle, neq, nI_add, pk_mul, nsub, ncl, nin, and_true, true_and, not_true_eq_false, not_false_eq_true, ↓reduceIte, Nat.reduceAdd, if_pos, if_neg]
            rw [bare_r hs.2.1.1 hn hB ht, if_neg e]
            simp (disch := omega) only [Nat.not_lt_zero, nneg, nneg2, nlt, nle, neq, nI_add, pk_mul, nsub, ncl, nin, and_true, true_and, not_true_eq_false, not_false_eq_true, ↓reduceIte, Nat.reduceAdd, if_pos, if_neg]
            exact kk
    · refine pairI (P7 := fun h K => P_X7_bell F x (nI k) h K) (P8 := fun h K => P_X8_bell F x (nI k) h K) ⟨-1, fun K kk => ?_, fun K kk => ?_⟩ done
      · unfold P_X7_bell
        simp (disch := omega) only [Nat.not_lt_zero, nneg, nneg2, nlt, nle, neq, nI_add, pk_mul, nsub, ncl, nin, and_true, true_and, not_true_eq_false, not_false_eq_true, ↓reduceIte, Nat.reduceAdd, if_pos, if_neg]
        rw [gref_e hs.1 hn hB hx, if_neg nm_1]
        exact kk
      · unfold P_X8_bell
        rw [isThing_rn hs.2.1.1.1 hn hx]
        simp (disch := omega) only [Nat.not_lt_zero, nneg, nneg2, nlt, nle, neq, nI_add, pk_mul, nsub, ncl, nin, and_true, true_and, not_true_eq_false, not_false_eq_true, ↓reduceIte, Nat.reduceAdd, if_pos, if_neg]
        exact kk
  · refine pairI (P7 := fun h K => P_X7_bell F x y h K) (P8 := fun h K => P_X8_bell F x y h K) ⟨-1, fun K kk => ?_, fun K kk => ?_⟩ done
    · unfold P_X7_bell
      rcases ins_not hy with q | ⟨k, q1, q2, rfl⟩
      · simp only [neg_lt (k := 0) q (by omega), if_true]
        exact kk
      · simp (disch := omega) only [Nat.not_lt_zero, nneg, nneg2, nlt, nle, neq, nI_add, pk_mul, nsub, ncl, nin, and_true, true_and, not_true_eq_false, not_false_eq_true, ↓reduceIte, Nat.reduceAdd, if_pos, if_neg]
        exact kk
    · unfold P_X8_bell
      by_cases hx : inr x n
      · rw [isThing_ry hs.2.1.1.1 hn hx]
        simp (disch := omega) only [Nat.not_lt_zero, nneg, nneg2, nlt, nle, neq, nI_add, pk_mul, nsub, ncl, nin, and_true, true_and, not_true_eq_false, not_false_eq_true, ↓reduceIte, Nat.reduceAdd, if_pos, if_neg]
        rw [inA_n (a := 0) (b := 3) (by omega) (by omega) hy]
        simp (disch := omega) only [Nat.not_lt_zero, nneg, nneg2, nlt, nle, neq, nI_add, pk_mul, nsub, ncl, nin, and_true, true_and, not_true_eq_false, not_false_eq_true, ↓reduceIte, Nat.reduceAdd, if_pos, if_neg]
        exact kk
      · rw [isThing_rn hs.2.1.1.1 hn hx]
        simp (disch := omega) only [Nat.not_lt_zero, nneg, nneg2, nlt, nle, neq, nI_add, pk_mul, nsub, ncl, nin, and_true, true_and, not_true_eq_false, not_false_eq_true, ↓reduceIte, Nat.reduceAdd, if_pos, if_neg]
        exact kk
def itE (t : Nat) : Nat → (Nat → Int32) → (Nat → Int32)
  | 0, E => E
  | j + 1, E => eE (itE t j E) t
def itD (t : Nat) : Nat → (Nat → Int32) → (Nat → Int32)
  | 0, D => D
  | j + 1, D => eD (itD t j D) (uI (fun _ => nI 0) t (nI j)) t
theorem uI_2 (f : Nat → Int32) (t : Nat) (a b : Int32) : uI (uI f t a) t b = uI f t b := by
  funext j
  unfold uI
  by_cases e : j = t <;> simp [e]
theorem uI_i (f : Nat → Int32) (t : Nat) (a : Int32) : uI f t a t = a := by unfold uI; simp
theorem uI_0 (t : Nat) : uI (fun _ => nI 0) t (nI 0) = fun _ => nI 0 := by
  funext j
  unfold uI
  simp
theorem plg_c {n t k : Nat} {E D : Nat → Int32} {X : Int32} {h0 : AH} {K : Int32 → AH → Prop} (hn : n ≤ 12) (ht : t < n) (hk : k ≤ 30) (hFu : 500 ≤ F) (kk : ∀ h', gs 41 n (itE t k E) (itD t k D) (fun _ => nI 0) X h0 h' → K (nI k) h') : ∀ (d N j : Nat) (h : AH), j + d = k → d + 1 ≤ N → gs 41 n (itE t j E) (itD t j D) (uI (fun _ => nI 0) t (nI j)) X h0 h → X7_plunges_c51 F K N (nI t) (nI k) (nI j) h := by
  have lv : ∀ (d N j : Nat) (h : AH), j + d = k → d + 1 ≤ N → gs 41 n (itE t k E) (itD t k D) (uI (fun _ => nI 0) t (nI d)) X h0 h → X7_plunges_c75 F K N (nI t) (nI k) (nI j) h := by
    intro d
    induction d with
    | zero =>
      intro N j h h1 h2 h3
      obtain ⟨N, rfl⟩ : ∃ k, N = k + 1 := ⟨N - 1, by omega⟩
      rw [X7_plunges_c75_s]
      simp (disch := omega) only [Nat.not_lt_zero, nneg, nneg2, nlt, nle, neq, nI_add, pk_mul, nsub, ncl, nin, and_true, true_and, not_true_eq_false, not_false_eq_true, ↓reduceIte, Nat.reduceAdd, if_pos, if_neg]
      rw [uI_0] at h3
      exact kk h h3
    | succ d ih =>
      intro N j h h1 h2 h3
      obtain ⟨N, rfl⟩ : ∃ k, N = k + 1 := ⟨N - 1, by omega⟩
      rw [X7_plunges_c75_s]
      simp (disch := omega) only [Nat.not_lt_zero, nneg, nneg2, nlt, nle, neq, nI_add, pk_mul, nsub, ncl, nin, and_true, true_and, not_true_eq_false, not_false_eq_true, ↓reduceIte, Nat.reduceAdd, if_pos, if_neg]
      refine leave_e h3 hn ht (fun h' g' => ?_)
      refine ih N (j + 1) h' (by omega) (by omega) ?_
      unfold lI at g'
      rw [uI_i, uI_2] at g'
      have : nI (d + 1) - nI 1 = nI d := nI_pred d
      rw [this] at g'
      exact g'
  intro d
  induction d with
  | zero =>
    intro N j h h1 h2 h3
    obtain ⟨N, rfl⟩ : ∃ k, N = k + 1 := ⟨N - 1, by omega⟩
    rw [X7_plunges_c51_s]
    simp (disch := omega) only [Nat.not_lt_zero, nneg, nneg2, nlt, nle, neq, nI_add, pk_mul, nsub, ncl, nin, and_true, true_and, not_true_eq_false, not_false_eq_true, ↓reduceIte, Nat.reduceAdd, if_pos, if_neg]
    have : j = k := by omega
    subst this
    exact lv j F 0 h (by omega) (by omega) h3
  | succ d ih =>
    intro N j h h1 h2 h3
    obtain ⟨N, rfl⟩ : ∃ k, N = k + 1 := ⟨N - 1, by omega⟩
    rw [X7_plunges_c51_s]
    simp (disch := omega) only [Nat.not_lt_zero, nneg, nneg2, nlt, nle, neq, nI_add, pk_mul, nsub, ncl, nin, and_true, true_and, not_true_eq_false, not_false_eq_true, ↓reduceIte, Nat.reduceAdd, if_pos, if_neg]
    refine enter_e h3 hn ht (fun h' g' => ?_)
    refine ih N (j + 1) h' (by omega) (by omega) ?_
    have e : eI (uI (fun _ => nI 0) t (nI j)) t = uI (fun _ => nI 0) t (nI (j + 1)) := by
      unfold eI
      rw [uI_i, uI_2, nI_add]
    rw [e] at g'
    exact g'
theorem plg_r {n t k : Nat} {E D : Nat → Int32} {X : Int32} {h0 : AH} {K : Int32 → AH → Prop} (hn : n ≤ 12) (ht : t < n) (hk : k ≤ 30) (kk : ∀ h', gs 60 n (itE t k E) (itD t k D) (fun _ => nI 0) X h0 h' → K (nI k) h') : ∀ (d N j : Nat) (h : AH), j + d = k → d + 1 ≤ N → gs 60 n (itE t j E) (itD t j D) (uI (fun _ => nI 0) t (nI j)) X h0 h → X8_plunges_c54 F K N (nI t) (nI k) (nI j) h := by
  intro d
  induction d with
  | zero =>
    intro N j h h1 h2 h3
    obtain ⟨N, rfl⟩ : ∃ k, N = k + 1 := ⟨N - 1, by omega⟩
    rw [X8_plunges_c54_s]
    simp (disch := omega) only [Nat.not_lt_zero, nneg, nneg2, nlt, nle, neq, nI_add, pk_mul, nsub, ncl, nin, and_true, true_and, not_true_eq_false, not_false_eq_true, ↓reduceIte, Nat.reduceAdd, if_pos, if_neg]
    have : j = k := by omega
    subst this
    refine kk _ (gs_I (by omega) h3 ht ?_)
    rw [uI_2, uI_0]
  | succ d ih =>
    intro N j h h1 h2 h3
    obtain ⟨N, rfl⟩ : ∃ k, N = k + 1 := ⟨N - 1, by omega⟩
    rw [X8_plunges_c54_s]
    simp (disch := omega) only [Nat.not_lt_zero, nneg, nneg2, nlt, nle, neq, nI_add, pk_mul, nsub, ncl, nin, and_true, true_and, not_true_eq_false, not_false_eq_true, ↓reduceIte, Nat.reduceAdd, if_pos, if_neg]
    refine goes_e h3 hn ht (fun h' g' => ?_)
    refine ih N (j + 1) h' (by omega) (by omega) ?_
    have e : eI (uI (fun _ => nI 0) t (nI j)) t = uI (fun _ => nI 0) t (nI (j + 1)) := by
      unfold eI
      rw [uI_i, uI_2, nI_add]
    rw [e] at g'
    exact g'
theorem call_plunges (hFu : 500 ≤ F) (hI : INV m h) (hm : m < 513) (kk : ∀ h', INV (m + 1) h' → G h') : P_X7_plunges F x y z h (fun r h1 => P_X8_plunges F x y z h1 (fun r' h3 => if r = r' then G h3 else Z h3)) := by
  obtain ⟨c, l, n, W, B, C, ln, pl, g, hs⟩ := hI
  have hF := hs.2.2.1
  have hn := hF.1
  have hB := hF.2.2.1
  have done := kk _ (INV_s hs hm)
  by_cases hy : ins y 1 30
  · have ey := hy
    obtain ⟨k, hk1, hk2, rfl⟩ := hy
    by_cases hz : ins z 0 k
    · have ez := hz
      obtain ⟨j, hj1, hj2, rfl⟩ := hz
      by_cases hx : inr x n
      · have ex := hx
        obtain ⟨t, ht, rfl⟩ := hx
        by_cases e : B t = 1
        · refine pairI (P7 := fun h K => P_X7_plunges F (nI t) (nI k) (nI j) h K) (P8 := fun h K => P_X8_plunges F (nI t) (nI k) (nI j) h K) ⟨-11, fun K kk => ?_, fun K kk => ?_⟩ done
          · unfold P_X7_plunges
            simp (disch := omega) only [Nat.not_lt_zero, nneg, nneg2, nlt, nle, neq, nI_add, pk_mul, nsub, ncl, nin, and_true, true_and, not_true_eq_false, not_false_eq_true, ↓reduceIte, Nat.reduceAdd, if_pos, if_neg]
            rw [gref_t hs.1 hn hB ht, if_pos e, if_neg nm_11]
            exact kk
          · unfold P_X8_plunges
            rw [isThing_ry hs.2.1.1.1 hn ex]
            simp (disch := omega) only [Nat.not_lt_zero, nneg, nneg2, nlt, nle, neq, nI_add, pk_mul, nsub, ncl, nin, and_true, true_and, not_true_eq_false, not_false_eq_true, ↓reduceIte, Nat.reduceAdd, if_pos, if_neg]
            rw [inA_y (a := 1) (b := 30) (by omega) ey]
            simp (disch := omega) only [Nat.not_lt_zero, nneg, nneg2, nlt, nle, neq, nI_add, pk_mul, nsub, ncl, nin, and_true, true_and, not_true_eq_false, not_false_eq_true, ↓reduceIte, Nat.reduceAdd, if_pos, if_neg]
            rw [inA_y (a := 0) (b := k) (by omega) ez]
            simp (disch := omega) only [Nat.not_lt_zero, nneg, nneg2, nlt, nle, neq, nI_add, pk_mul, nsub, ncl, nin, and_true, true_and, not_true_eq_false, not_false_eq_true, ↓reduceIte, Nat.reduceAdd, if_pos, if_neg]
            rw [bare_r hs.2.1.1 hn hB ht, if_pos e]
            simp (disch := omega) only [Nat.not_lt_zero, nneg, nneg2, nlt, nle, neq, nI_add, pk_mul, nsub, ncl, nin, and_true, true_and, not_true_eq_false, not_false_eq_true, ↓reduceIte, Nat.reduceAdd, if_pos, if_neg]
            exact kk
        · have fin : ∀ q, q ≤ 30 → (q = if j = 0 then k else j) → X7_plunges_c46 F (fun r h1 => P_X8_plunges F (nI t) (nI k) (nI j) h1 (fun r' h3 => if r = r' then G h3 else Z h3)) (nI t) (nI q) h := fun q hq hqe => by
            unfold X7_plunges_c46
            have g1 := gs_a hs
            rw [← uI_0 t] at g1
            refine plg_c hn ht hq hFu (fun h1 g2 => ?_) q F 0 h (by omega) (by omega) g1
            have g3 := gs_b hs g2
            rw [← uI_0 t] at g3
            have hM : RM n W B C ln pl g h1 := ⟨RG_c hs.2.1.1 (g2.2.2.1 57 (by omega) (by omega) (by omega) (by omega)), by rw [g2.2.2.2.1 4 (by omega)]; exact hs.2.1.2⟩
            unfold P_X8_plunges
            rw [isThing_ry hM.1.1 hn ex]
            simp (disch := omega) only [Nat.not_lt_zero, nneg, nneg2, nlt, nle, neq, nI_add, pk_mul, nsub, ncl, nin, and_true, true_and, not_true_eq_false, not_false_eq_true, ↓reduceIte, Nat.reduceAdd, if_pos, if_neg]
            rw [inA_y (a := 1) (b := 30) (by omega) ey]
            simp (disch := omega) only [Nat.not_lt_zero, nneg, nneg2, nlt, nle, neq, nI_add, pk_mul, nsub, ncl, nin, and_true, true_and, not_true_eq_false, not_false_eq_true, ↓reduceIte, Nat.reduceAdd, if_pos, if_neg]
            rw [inA_y (a := 0) (b := k) (by omega) ez]
            simp (disch := omega) only [Nat.not_lt_zero, nneg, nneg2, nlt, nle, neq, nI_add, pk_mul, nsub, ncl, nin, and_true, true_and, not_true_eq_false, not_false_eq_true, ↓reduceIte, Nat.reduceAdd, if_pos, if_neg]
            rw [bare_r hM.1 hn hB ht, if_neg e]
            simp (disch := omega) only [Nat.not_lt_zero, nneg, nneg2, nlt, nle, neq, nI_add, pk_mul, nsub, ncl, nin, and_true, true_and, not_true_eq_false, not_false_eq_true, ↓reduceIte, Nat.reduceAdd, if_pos, if_neg]
            have core : X8_plunges_c49 F (fun r' h3 => if nI q = r' then G h3 else Z h3) (nI t) (nI q) h1 := by
              unfold X8_plunges_c49
              refine plg_r hn ht hq (fun h4 g4 => ?_) q F 0 h1 (by omega) (by omega) g3
              rw [if_pos rfl]
              exact kk _ (INV_g hs hm g2 g4 (fun _ _ => rfl))
            by_cases e0 : j = 0
            · rw [if_pos e0] at hqe
              subst hqe
              simp only [e0, not_true_eq_false, if_false]
              exact core
            · rw [if_neg e0] at hqe
              subst hqe
              simp only [e0, not_false_eq_true, if_true]
              exact core
          unfold P_X7_plunges
          simp (disch := omega) only [Nat.not_lt_zero, nneg, nneg2, nlt, nle, neq, nI_add, pk_mul, nsub, ncl, nin, and_true, true_and, not_true_eq_false, not_false_eq_true, ↓reduceIte, Nat.reduceAdd, if_pos, if_neg]
          rw [gref_t hs.1 hn hB ht, if_neg e, if_pos rfl]
          by_cases e0 : j = 0
          · have := fin k (by omega) (by rw [if_pos e0])
            simp only [e0, not_true_eq_false, if_false] at this ⊢
            exact this
          · have := fin j (by omega) (by rw [if_neg e0])
            simp only [e0, not_false_eq_true, if_true]
            exact this
      · refine pairI (P7 := fun h K => P_X7_plunges F x (nI k) (nI j) h K) (P8 := fun h K => P_X8_plunges F x (nI k) (nI j) h K) ⟨-1, fun K kk => ?_, fun K kk => ?_⟩ done
        · unfold P_X7_plunges
          simp (disch := omega) only [Nat.not_lt_zero, nneg, nneg2, nlt, nle, neq, nI_add, pk_mul, nsub, ncl, nin, and_true, true_and, not_true_eq_false, not_false_eq_true, ↓reduceIte, Nat.reduceAdd, if_pos, if_neg]
          rw [gref_e hs.1 hn hB hx, if_neg nm_1]
          exact kk
        · unfold P_X8_plunges
          rw [isThing_rn hs.2.1.1.1 hn hx]
          simp (disch := omega) only [Nat.not_lt_zero, nneg, nneg2, nlt, nle, neq, nI_add, pk_mul, nsub, ncl, nin, and_true, true_and, not_true_eq_false, not_false_eq_true, ↓reduceIte, Nat.reduceAdd, if_pos, if_neg]
          exact kk
    · refine pairI (P7 := fun h K => P_X7_plunges F x (nI k) z h K) (P8 := fun h K => P_X8_plunges F x (nI k) z h K) ⟨-1, fun K kk => ?_, fun K kk => ?_⟩ done
      · unfold P_X7_plunges
        simp (disch := omega) only [Nat.not_lt_zero, nneg, nneg2, nlt, nle, neq, nI_add, pk_mul, nsub, ncl, nin, and_true, true_and, not_true_eq_false, not_false_eq_true, ↓reduceIte, Nat.reduceAdd, if_pos, if_neg]
        rcases ins_not hz with q | ⟨k, q1, q2, rfl⟩
        · simp only [neg_lt (k := 0) q (by omega), if_true]
          exact kk
        · simp (disch := omega) only [Nat.not_lt_zero, nneg, nneg2, nlt, nle, neq, nI_add, pk_mul, nsub, ncl, nin, and_true, true_and, not_true_eq_false, not_false_eq_true, ↓reduceIte, Nat.reduceAdd, if_pos, if_neg]
          exact kk
      · unfold P_X8_plunges
        by_cases hx : inr x n
        · rw [isThing_ry hs.2.1.1.1 hn hx]
          simp (disch := omega) only [Nat.not_lt_zero, nneg, nneg2, nlt, nle, neq, nI_add, pk_mul, nsub, ncl, nin, and_true, true_and, not_true_eq_false, not_false_eq_true, ↓reduceIte, Nat.reduceAdd, if_pos, if_neg]
          rw [inA_y (a := 1) (b := 30) (by omega) ey]
          simp (disch := omega) only [Nat.not_lt_zero, nneg, nneg2, nlt, nle, neq, nI_add, pk_mul, nsub, ncl, nin, and_true, true_and, not_true_eq_false, not_false_eq_true, ↓reduceIte, Nat.reduceAdd, if_pos, if_neg]
          rw [inA_n (a := 0) (b := k) (by omega) (by omega) hz]
          simp (disch := omega) only [Nat.not_lt_zero, nneg, nneg2, nlt, nle, neq, nI_add, pk_mul, nsub, ncl, nin, and_true, true_and, not_true_eq_false, not_false_eq_true, ↓reduceIte, Nat.reduceAdd, if_pos, if_neg]
          exact kk
        · rw [isThing_rn hs.2.1.1.1 hn hx]
          simp (disch := omega) only [Nat.not_lt_zero, nneg, nneg2, nlt, nle, neq, nI_add, pk_mul, nsub, ncl, nin, and_true, true_and, not_true_eq_false, not_false_eq_true, ↓reduceIte, Nat.reduceAdd, if_pos, if_neg]
          exact kk
  · refine pairI (P7 := fun h K => P_X7_plunges F x y z h K) (P8 := fun h K => P_X8_plunges F x y z h K) ⟨-1, fun K kk => ?_, fun K kk => ?_⟩ done
    · unfold P_X7_plunges
      rcases ins_not hy with q | ⟨k, q1, q2, rfl⟩
      · simp only [neg_lt (k := 1) q (by omega), if_true]
        exact kk
      · by_cases e : k < 1
        · simp (disch := omega) only [Nat.not_lt_zero, nneg, nneg2, nlt, nle, neq, nI_add, pk_mul, nsub, ncl, nin, and_true, true_and, not_true_eq_false, not_false_eq_true, ↓reduceIte, Nat.reduceAdd, if_pos, if_neg]
          exact kk
        · simp (disch := omega) only [Nat.not_lt_zero, nneg, nneg2, nlt, nle, neq, nI_add, pk_mul, nsub, ncl, nin, and_true, true_and, not_true_eq_false, not_false_eq_true, ↓reduceIte, Nat.reduceAdd, if_pos, if_neg]
          exact kk
    · unfold P_X8_plunges
      by_cases hx : inr x n
      · rw [isThing_ry hs.2.1.1.1 hn hx]
        simp (disch := omega) only [Nat.not_lt_zero, nneg, nneg2, nlt, nle, neq, nI_add, pk_mul, nsub, ncl, nin, and_true, true_and, not_true_eq_false, not_false_eq_true, ↓reduceIte, Nat.reduceAdd, if_pos, if_neg]
        rw [inA_n (a := 1) (b := 30) (by omega) (by omega) hy]
        simp (disch := omega) only [Nat.not_lt_zero, nneg, nneg2, nlt, nle, neq, nI_add, pk_mul, nsub, ncl, nin, and_true, true_and, not_true_eq_false, not_false_eq_true, ↓reduceIte, Nat.reduceAdd, if_pos, if_neg]
        exact kk
      · rw [isThing_rn hs.2.1.1.1 hn hx]
        simp (disch := omega) only [Nat.not_lt_zero, nneg, nneg2, nlt, nle, neq, nI_add, pk_mul, nsub, ncl, nin, and_true, true_and, not_true_eq_false, not_false_eq_true, ↓reduceIte, Nat.reduceAdd, if_pos, if_neg]
        exact kk
end CK
