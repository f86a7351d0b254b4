/-! needs -/
def pop (x : Nat) : Nat := b2n (x.testBit 0) + b2n (x.testBit 1) + b2n (x.testBit 2) + b2n (x.testBit 3) + b2n (x.testBit 4) + b2n (x.testBit 5)
theorem pop_lt (x : Nat) : pop x ≤ 6 := by
  have := b2n_lt (x.testBit 0); have := b2n_lt (x.testBit 1); have := b2n_lt (x.testBit 2); have := b2n_lt (x.testBit 3); have := b2n_lt (x.testBit 4); have := b2n_lt (x.testBit 5)
  unfold pop
  omega
theorem pop_s : ∀ x, x < 64 → 0 < x → nI x &&& (nI x - nI 1) = nI (x &&& (x - 1)) ∧ pop (x &&& (x - 1)) + 1 = pop x ∧ (x &&& (x - 1)) < x := by decide +kernel
theorem pop_0 : pop 0 = 0 := by decide
theorem pop_m_d : (List.range 64).all (fun a => (List.range 64).all (fun b => !(a &&& b == a) || (decide (pop a ≤ pop b) && (!(decide (pop b ≤ pop a)) || (a == b))))) = true := by decide +kernel
theorem pop_m {a b : Nat} (ha : a < 64) (hb : b < 64) (h : a &&& b = a) : pop a ≤ pop b ∧ (pop b ≤ pop a → a = b) := by
  have h1 := List.all_eq_true.mp pop_m_d a (List.mem_range.mpr ha)
  have h2 := List.all_eq_true.mp h1 b (List.mem_range.mpr hb)
  have h3 : (a &&& b == a) = true := by rw [h]; simp
  rw [h3] at h2
  simp only [Bool.not_true, Bool.false_or, Bool.and_eq_true, decide_eq_true_eq, Bool.or_eq_true, Bool.not_eq_true', decide_eq_false_iff_not, beq_iff_eq] at h2
  exact ⟨h2.1, fun z => by
    rcases h2.2 with q | q
    · exact absurd z q
    · exact q⟩
theorem and63 : ∀ a, a < 64 → a &&& 63 = a := by decide +kernel
section CP
variable {n c F : Nat} {W B : Nat → Nat} {C : CT} {ln pl : LN} {g : Nat} {h : AH}
theorem bits_l {K : Int32 → AH → Prop} : ∀ (p N x k : Nat), x < 64 → pop x = p → p + 1 ≤ N → X8_bits_c4 F K N (nI k) (nI x) h = K (nI (k + p)) h := by
  intro p
  induction p with
  | zero =>
    intro N x k h1 h2 h3
    obtain ⟨N, rfl⟩ : ∃ k, N = k + 1 := ⟨N - 1, by omega⟩
    have : x = 0 := by
      rcases Nat.eq_zero_or_pos x with z | z
      · exact z
      · have := (pop_s x h1 z).2.1
        omega
    subst this
    rw [X8_bits_c4_s]
    simp (disch := omega) only [Nat.not_lt_zero, nneg, nneg2, nlt, nle, neq, nI_add, pk_mul, nsub, ncl, nin, and_true, true_and, not_true_eq_false, not_false_eq_true, ↓reduceIte, Nat.reduceAdd, if_pos, if_neg, Nat.add_zero]
  | succ p ih =>
    intro N x k h1 h2 h3
    obtain ⟨N, rfl⟩ : ∃ k, N = k + 1 := ⟨N - 1, by omega⟩
    have hx : 0 < x := by
      rcases Nat.eq_zero_or_pos x with z | z
      · rw [z, pop_0] at h2; omega
      · exact z
    obtain ⟨s1, s2, s3⟩ := pop_s x h1 hx
    have e : ¬ nI x = nI 0 := by rw [neq (by omega) (by omega)]; omega
    rw [X8_bits_c4_s, if_neg e, s1, nI_add]
    rw [ih N _ (k + 1) (by omega) (by omega) (by omega)]
    have : k + 1 + p = k + (p + 1) := by omega
    rw [this]
theorem bits_e {K : Int32 → AH → Prop} {x : Nat} (hFu : 500 ≤ F) (hx : x < 64) : P_X8_bits F (nI x) h K = K (nI (pop x)) h := by
  have := pop_lt x
  have := bits_l (F := F) (h := h) (K := K) (pop x) F x 0 hx rfl (by omega)
  rw [Nat.zero_add] at this
  exact this
/-- owners put out -/
def clrT (C : CT) (s i : Nat) : CT := fun t o k => if o < i ∧ s.testBit o = true then 0 else C t o k
def rmT (ln : LN) (s i : Nat) : LN := ln.filter (fun q => !(decide (q.1 < i) && s.testBit q.1))
theorem clrT_0 (C : CT) (s : Nat) : clrT C s 0 = C := by
  funext t o k
  unfold clrT
  simp
theorem rmT_0 (ln : LN) (s : Nat) : rmT ln s 0 = ln := by
  unfold rmT
  exact List.filter_eq_self.mpr (fun q _ => by simp)
theorem clrT_n (C : CT) (s i : Nat) (h : s.testBit i = false) : clrT C s (i + 1) = clrT C s i := by
  funext t o k
  unfold clrT
  by_cases e : o = i
  · subst e; simp [h]
  · have : (o < i + 1) = (o < i) := propext ⟨fun h => by omega, fun h => by omega⟩
    simp only [this]
theorem rmT_n (ln : LN) (s i : Nat) (h : s.testBit i = false) : rmT ln s (i + 1) = rmT ln s i := by
  unfold rmT
  refine List.filter_congr (fun q _ => ?_)
  by_cases e : q.1 = i
  · rw [e, h]; simp
  · have : (q.1 < i + 1) = (q.1 < i) := propext ⟨fun h => by omega, fun h => by omega⟩
    simp only [this]
theorem clrT_y (C : CT) (s i : Nat) (h : s.testBit i = true) : clrO (clrT C s i) i = clrT C s (i + 1) := by
  funext t o k
  unfold clrO clrT
  by_cases e : o = i
  · subst e; simp [h]
  · have : (o < i + 1) = (o < i) := propext ⟨fun h => by omega, fun h => by omega⟩
    simp only [this, e, if_false]
theorem rmT_y (ln : LN) (s i : Nat) (h : s.testBit i = true) : rm (rmT ln s i) i = rmT ln s (i + 1) := by
  unfold rm rmT
  rw [List.filter_filter]
  refine List.filter_congr (fun q _ => ?_)
  by_cases e : q.1 = i
  · rw [e, h]; simp
  · have : (q.1 < i + 1) = (q.1 < i) := propext ⟨fun h => by omega, fun h => by omega⟩
    simp only [this]
    simp [e]
theorem WF_T (hF : WF c n W B C ln pl) (s : Nat) : ∀ i, WF c n W B (clrT C s i) (rmT ln s i) pl
  | 0 => by rw [clrT_0, rmT_0]; exact hF
  | i + 1 => by
    cases e : s.testBit i with
    | false => rw [clrT_n C s i e, rmT_n ln s i e]; exact WF_T hF s i
    | true => rw [← clrT_y C s i e, ← rmT_y ln s i e]; exact WF_clr (WF_rm (WF_T hF s i))
theorem hcl_T {s t m j : Nat} (hj : j < 6) : hcl (clrT C s 6) t m j = (!s.testBit j && hcl C t m j) := by
  unfold hcl clrT
  cases e : s.testBit j <;> simp [hj]
theorem rai_T {s o t : Nat} (ho : s.testBit o = false) : rai (clrT C s 6) o t = rai C o t := by
  unfold rai clrT
  simp [ho]
theorem brd_T {s t m j : Nat} (hj : j < 6) : brd W (clrT C s 6) t m j = (!s.testBit j && brd W C t m j) := by
  unfold brd
  rw [hcl_T hj]
  have : (chn W t).any (fun w => hcl (clrT C s 6) w (ab m) j) = (!s.testBit j && (chn W t).any (fun w => hcl C w (ab m) j)) := by
    have e : (fun w => hcl (clrT C s 6) w (ab m) j) = (fun w => !s.testBit j && hcl C w (ab m) j) := funext (fun w => hcl_T hj)
    rw [e]
    cases s.testBit j <;> simp
  rw [this]
  cases s.testBit j <;> simp
theorem bhd_T {s t m j : Nat} (hj : j < 6) : bhd t m (rmT ln s 6) j = (!s.testBit j && bhd t m ln j) := by
  unfold bhd rmT
  rw [List.any_filter]
  cases e : s.testBit j with
  | true =>
    simp only [Bool.not_true, Bool.false_and]
    rw [List.any_eq_false]
    intro q _ z
    simp only [Bool.and_eq_true, beq_iff_eq] at z
    rw [z.2.1, e] at z
    simp [hj] at z
  | false =>
    simp only [Bool.not_false, Bool.true_and]
    congr 1
    funext q
    by_cases e2 : q.1 = j
    · rw [e2, e]; simp
    · have : (q.1 == j) = false := beq_eq_false_iff_ne.mpr e2
      rw [this]; simp
theorem hnd_T {s o t m : Nat} (hs : s < 64) (ho : s.testBit o = false) : (hnd W (clrT C s 6) o t m (rmT ln s 6) = 0) = (hnd W C o t m ln &&& s = hnd W C o t m ln) := by
  have e : hnd W (clrT C s 6) o t m (rmT ln s 6) = mk6 (fun j => !s.testBit j && (hnd W C o t m ln).testBit j) := by
    unfold hnd
    refine mk6_cong (fun j hj => ?_)
    rw [mk6_tb _ hj, brd_T hj, rai_T ho, bhd_T hj]
    cases s.testBit j <;> simp
  rw [e]
  refine propext ⟨fun z => ?_, fun z => ?_⟩
  · refine eq6 (Nat.and_lt_two_pow (n := 6) _ hs) (hnd_lt _ _ _ _ _ _) (fun j hj => ?_)
    have := mk6_z.mp z j hj
    rw [Nat.testBit_and]
    cases e1 : s.testBit j with
    | true => simp
    | false =>
      rw [e1] at this
      simp at this
      rw [this]
      rfl
  · refine mk6_z.mpr (fun j hj => ?_)
    rw [← z, Nat.testBit_and]
    cases s.testBit j <;> simp
theorem could_l {o t m s : Nat} {K : Int32 → AH → Prop} {n0 : Nat} {W0 B0 : Nat → Nat} {C0 : CT} {ln0 pl0 : LN} {g0 : Nat} {h0 : AH} (hF0 : WF c n0 W0 B0 C0 ln0 pl0) (hF : WF c n W B C ln pl) (hc : c < 1000000) (hFu : 500 ≤ F) (hv : vq n (o, t, m)) (hs : s < 64) (ho : s.testBit o = false)
    (kk : ∀ h', RM n0 W0 B0 C0 ln0 pl0 g0 h' → AS8 n0 W0 B0 C0 ln0 pl0 g0 h' → fr8 h0 h' → K (bn (decide (hnd W C o t m ln &&& s = hnd W C o t m ln))) h') : ∀ (d N i : Nat) (h : AH), i + d = 6 → d + 1 ≤ N → RM n W B (clrT C s i) (rmT ln s i) pl g h → AS8 n0 W0 B0 C0 ln0 pl0 g0 h → fr8 h0 h → X8_couldBe_c3 F K N (nI o) (nI t) (nI m) (nI s) (nI i) h := by
  intro d
  induction d with
  | zero =>
    intro N i h h1 h2 hR hA hf
    obtain ⟨N, rfl⟩ : ∃ k, N = k + 1 := ⟨N - 1, by omega⟩
    have : i = 6 := by omega
    subst this
    have hF6 := WF_T hF s 6
    rw [X8_couldBe_c3_s]
    refine ifp (by rw [nle (by omega) (by omega)]; omega) ?_
    refine canBe_e hR.1 hF6 (by omega) (by omega) hv ?_
    refine back8_e (n' := 0) (W' := W) (B' := B) (C' := C) (ln' := ln) (pl' := pl) hFu hA hF0 (fun h17 h18 h20 h19 _ => ?_)
    have e := hnd_T (W := W) (C := C) (ln := ln) (t := t) (m := m) hs ho
    have e2 : decide (hnd W (clrT C s 6) o t m (rmT ln s 6) = 0) = decide (hnd W C o t m ln &&& s = hnd W C o t m ln) := by simp only [e]
    rw [e2]
    refine ⟨?_, kk _ h18 h20 (fr8_tr hf h19)⟩
    cases decide (hnd W C o t m ln &&& s = hnd W C o t m ln) with
    | false => rw [show bn false = nI 0 from rfl, zB0]; trivial
    | true => rw [show bn true = nI 1 from rfl, zB1]; trivial
  | succ d ih =>
    intro N i h h1 h2 hR hA hf
    obtain ⟨N, rfl⟩ : ∃ k, N = k + 1 := ⟨N - 1, by omega⟩
    rw [X8_couldBe_c3_s]
    refine ifn (by rw [nle (by omega) (by omega)]; omega) ?_
    rw [has_e (by omega) (by omega)]
    cases e : s.testBit i with
    | false =>
      refine ifp rfl ?_
      unfold X8_couldBe_c26
      rw [nI_add]
      exact ih N (i + 1) h (by omega) (by omega) (by rw [clrT_n C s i e, rmT_n ln s i e]; exact hR) hA hf
    | true =>
      refine ifn (by decide) ?_
      refine emp_e hR (WF_T hF s i) (by omega) (by omega) (fun h3 h4 h5 => ?_)
      rw [clrT_y C s i e, rmT_y ln s i e] at h4
      unfold X8_couldBe_c26
      rw [nI_add]
      exact ih N (i + 1) h3 (by omega) (by omega) h4 (AS8_fm hA h5) (fr8_tr hf (fr8_fm h5))
theorem could_e {o t m s : Nat} {K : Int32 → AH → Prop} (hF : WF c n W B C ln pl) (hc : c < 1000000) (hFu : 500 ≤ F) (hv : vq n (o, t, m)) (hs : s < 64) (ho : s.testBit o = false) (hR : RM n W B C ln pl g h) (hA : AS8 n W B C ln pl g h)
    (kk : ∀ h', RM n W B C ln pl g h' → AS8 n W B C ln pl g h' → fr8 h h' → K (bn (decide (hnd W C o t m ln &&& s = hnd W C o t m ln))) h') : P_X8_couldBe F (nI o) (nI t) (nI m) (nI s) h K :=
  could_l hF hF hc hFu hv hs ho kk 6 F 0 h (by omega) (by omega) (by rw [clrT_0, rmT_0]; exact hR) hA (fr8_rf h)
theorem wI_add (c : Nat) : nI c + -1 = wI c := by
  cases c with
  | zero => decide
  | succ c => rw [nm1 (by omega), wI_s]; rfl
theorem needs_l {o t m : Nat} {K : Int32 → AH → Prop} {h0 : AH} (hF : WF c n W B C ln pl) (hc : c < 1000000) (hFu : 500 ≤ F) (hv : vq n (o, t, m)) (hi : (hnd W C o t m ln).testBit o = false)
    (kk : ∀ h', RM n W B C ln pl g h' → fr8 h0 h' → K (nI (hnd W C o t m ln)) h') : ∀ (j N b : Nat) (h : AH), j ≤ 63 → j + 1 ≤ N → b < 64 → (hnd W C o t m ln < j → hnd W C o t m ln &&& b = hnd W C o t m ln) → (j ≤ hnd W C o t m ln → b = hnd W C o t m ln) → RM n W B C ln pl g h → AS8 n W B C ln pl g h → fr8 h0 h → X8_needs_c35 F K N (nI o) (nI t) (nI m) (nI b) (wI j) h := by
  have hl := hnd_lt W C o t m ln
  have ho : o < 6 := hv.1
  have h63 : hnd W C o t m ln ≠ 63 := by
    intro e
    rw [e] at hi
    have : ∀ o, o < 6 → (63 : Nat).testBit o = true := by decide
    rw [this o ho] at hi
    cases hi
  intro j
  induction j with
  | zero =>
    intro N b h h1 h2 hb h3 h4 hR hA hf
    obtain ⟨N, rfl⟩ : ∃ k, N = k + 1 := ⟨N - 1, by omega⟩
    have hbb := h4 (by omega)
    subst hbb
    rw [X8_needs_c35_s, wI_0]
    refine ifp (by decide) ?_
    refine ifp (by rw [neq (by omega) (by omega)]; exact h63) ?_
    exact kk h hR hf
  | succ j ih =>
    intro N b h h1 h2 hb h3 h4 hR hA hf
    obtain ⟨N, rfl⟩ : ∃ k, N = k + 1 := ⟨N - 1, by omega⟩
    rw [X8_needs_c35_s, wI_s]
    refine ifn (by rw [nlt (by omega) (by omega)]; omega) ?_
    rw [has_e (by omega) (by omega)]
    have skip : ∀ h', hnd W C o t m ln ≠ j → RM n W B C ln pl g h' → AS8 n W B C ln pl g h' → fr8 h0 h' → X8_needs_c78 F (X8_needs_c35 F K N) K (nI o) (nI t) (nI m) (nI b) (nI j) h' := fun h' hne q1 q2 q3 => by
      unfold X8_needs_c78
      rw [wI_add]
      exact ih N b h' (by omega) (by omega) hb (fun z => h3 (by omega)) (fun z => h4 (by omega)) q1 q2 q3
    cases e : j.testBit o with
    | true =>
      refine ifp (by decide) ?_
      refine skip h (fun z => ?_) hR hA hf
      rw [z, e] at hi
      cases hi
    | false =>
      refine ifn (by decide) ?_
      rw [bits_e hFu (by omega)]
      have p1 := pop_lt j
      have p2 := pop_lt b
      show P_X8_bits F (nI b) h _
      rw [bits_e hFu hb]
      by_cases ep : pop b < pop j
      · refine ifp (by rw [nlt (by omega) (by omega)]; exact ep) ?_
        refine skip h (fun z => ?_) hR hA hf
        have q := h3 (by omega)
        have := (pop_m hl hb q).1
        rw [z] at this
        omega
      · refine ifn (by rw [nlt (by omega) (by omega)]; exact ep) ?_
        refine could_e hF hc hFu hv (by omega) e hR hA (fun h' q1 q2 q3 => ?_)
        by_cases es : hnd W C o t m ln &&& j = hnd W C o t m ln
        · rw [decide_eq_true es]
          refine ifn (by decide) ?_
          unfold X8_needs_c78
          rw [wI_add]
          have lej : hnd W C o t m ln ≤ j := by rw [← es]; exact Nat.and_le_right
          refine ih N j h' (by omega) (by omega) (by omega) (fun _ => es) (fun z => by omega) q1 q2 (fr8_tr hf q3)
        · rw [decide_eq_false es]
          refine ifp rfl ?_
          refine skip h' (fun z => es ?_) q1 q2 (fr8_tr hf q3)
          rw [z, Nat.and_self]
end CP
section CP2
variable {m F : Nat} {h : AH} {G Z : AH → Prop} {x y z : Int32}
theorem call_needs (hFu : 500 ≤ F) (hI : INV m h) (hm : m < 513) (kk : ∀ h', INV (m + 1) h' → G h') : P_X7_needs F x y z h (fun r h1 => P_X8_needs F x y z h1 (fun r' h3 => if r = r' then G h3 else Z h3)) := by
  obtain ⟨c, l, n, W, B, C, ln, pl, g, hs⟩ := hI
  have hc := ST_c hs
  have hF := hs.2.2.1
  have hn := hF.1
  have hL : ∀ q, q ∈ ln → q.1 < 6 := fun q hq => (WF_v hF q hq).1
  have hlen := WF_6 hF
  have done := kk _ (INV_s hs hm)
  by_cases hx : isA n x y z
  · obtain ⟨q, hv, rfl, rfl, rfl⟩ := isA_of hx
    have hq1 := hv.1
    cases e : inL ln q.1 with
    | true =>
      refine pairI (P7 := fun h K => P_X7_needs F (nI q.1) (nI q.2.1) (nI q.2.2) h K) (P8 := fun h K => P_X8_needs F (nI q.1) (nI q.2.1) (nI q.2.2) h K) ⟨-5, fun K kk => ?_, fun K kk => ?_⟩ done
      · unfold P_X7_needs
        rw [isAsk_y hs.1.1 hn hx]
        simp (disch := omega) only [Nat.not_lt_zero, nneg, nneg2, nlt, nle, neq, nI_add, pk_mul, nsub, ncl, nin, and_true, true_and, not_true_eq_false, not_false_eq_true, ↓reduceIte, Nat.reduceAdd, if_pos, if_neg]
        rw [waiting_e hs.1 (WF_v hF) hq1, e]
        simp (disch := omega) only [Nat.not_lt_zero, nneg, nneg2, nlt, nle, neq, nI_add, pk_mul, nsub, ncl, nin, and_true, true_and, not_true_eq_false, not_false_eq_true, ↓reduceIte, Nat.reduceAdd, if_pos, if_neg, if_true]
        exact kk
      · unfold P_X8_needs
        rw [isAsk_ry hs.2.1.1.1 hn hx]
        simp (disch := omega) only [Nat.not_lt_zero, nneg, nneg2, nlt, nle, neq, nI_add, pk_mul, nsub, ncl, nin, and_true, true_and, not_true_eq_false, not_false_eq_true, ↓reduceIte, Nat.reduceAdd, if_pos, if_neg]
        refine inLine_e hs.2.1.1 hL hlen hq1 (by omega) ?_
        rw [e]
        simp (disch := omega) only [bn, Nat.not_lt_zero, nneg, nneg2, nlt, nle, neq, nI_add, pk_mul, nsub, ncl, nin, and_true, true_and, not_true_eq_false, not_false_eq_true, ↓reduceIte, Nat.reduceAdd, if_pos, if_neg, if_true]
        exact kk
    | false =>
      have hi : (hnd W C q.1 q.2.1 q.2.2 ln).testBit q.1 = false := by
        unfold hnd
        rw [mk6_tb _ hq1]
        simp
      unfold P_X7_needs
      rw [isAsk_y hs.1.1 hn hx]
      simp (disch := omega) only [Nat.not_lt_zero, nneg, nneg2, nlt, nle, neq, nI_add, pk_mul, nsub, ncl, nin, and_true, true_and, not_true_eq_false, not_false_eq_true, ↓reduceIte, Nat.reduceAdd, if_pos, if_neg]
      rw [waiting_e hs.1 (WF_v hF) hq1, e]
      simp (disch := omega) only [Nat.not_lt_zero, nneg, nneg2, nlt, nle, neq, nI_add, pk_mul, nsub, ncl, nin, and_true, true_and, not_true_eq_false, not_false_eq_true, ↓reduceIte, Nat.reduceAdd, if_pos, if_neg, Bool.false_eq_true, if_false]
      rw [hind_e hs.1 hF (by omega) hv, tw_no e]
      show P_X8_needs F (nI q.1) (nI q.2.1) (nI q.2.2) h _
      unfold P_X8_needs
      rw [isAsk_ry hs.2.1.1.1 hn hx]
      refine ifp (by decide) ?_
      refine inLine_e hs.2.1.1 hL hlen hq1 (by omega) ?_
      rw [e]
      refine ifp (show bn false = nI 0 from rfl) ?_
      refine lays_e hFu hs.2.1 hF (fun h1 h2 h3 h4 => ?_)
      have hl := hnd_lt W C q.1 q.2.1 q.2.2 ln
      refine needs_l (h0 := h) hF (by omega) hFu hv hi (fun h5 h6 h7 => ?_) 63 F 63 h1 (by omega) (by omega) (by omega) (fun _ => and63 _ hl) (fun z => Nat.le_antisymm z (Nat.le_of_lt_succ hl)) h2 h3 h4
      rw [if_pos rfl]
      exact kk _ (INV_f hs hm hs.1 (fa_rf h) h6 h7 (WF_le hF (by omega)))
  · refine pairI (P7 := fun h K => P_X7_needs F x y z h K) (P8 := fun h K => P_X8_needs F x y z h K) ⟨-1, fun K kk => ?_, fun K kk => ?_⟩ done
    · unfold P_X7_needs
      rw [isAsk_n hs.1.1 hn hx]
      simp (disch := omega) only [Nat.not_lt_zero, nneg, nneg2, nlt, nle, neq, nI_add, pk_mul, nsub, ncl, nin, and_true, true_and, not_true_eq_false, not_false_eq_true, ↓reduceIte, Nat.reduceAdd, if_pos, if_neg]
      exact kk
    · unfold P_X8_needs
      rw [isAsk_rn hs.2.1.1.1 hn hx]
      simp (disch := omega) only [Nat.not_lt_zero, nneg, nneg2, nlt, nle, neq, nI_add, pk_mul, nsub, ncl, nin, and_true, true_and, not_true_eq_false, not_false_eq_true, ↓reduceIte, Nat.reduceAdd, if_pos, if_neg]
      exact kk
end CP2
