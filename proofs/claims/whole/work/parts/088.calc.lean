/-! what is told of a thing; the counts -/
theorem sumTo_c {f g : Nat → Nat} : ∀ n, (∀ p, p < n → f p = g p) → sumTo f n = sumTo g n
  | 0, _ => rfl
  | n + 1, h => by rw [sumTo, sumTo, sumTo_c n (fun p hp => h p (by omega)), h n (by omega)]
def csum (C : CT) (t : Nat) : Nat → Nat := sumTo (fun j => C t (j / 5) (j % 5 + 1))
def tsum (C : CT) : Nat → Nat := sumTo (fun t => csum C t 30)
def pbt (W : Nat → Nat) (t : Nat) : Nat → Nat := orTo (fun p => decide (W p = t + 1))
theorem nI_ex (x : Int32) : ∃ k, x = nI k := by
  rcases i32_cases x with q | ⟨k, q1, q2⟩
  · refine ⟨x.toBitVec.toNat, Int32.toBitVec_inj.mp ?_⟩
    show x.toBitVec = BitVec.ofNat 32 x.toBitVec.toNat
    simp
  · exact ⟨k, q2⟩
theorem pbt_s (W : Nat → Nat) (t i : Nat) : pbt W t (i + 1) = pbt W t i ||| (if W i = t + 1 then 2 ^ i else 0) := by
  unfold pbt
  rw [orTo]
  simp
section CC
variable {b n : Nat} {W B : Nat → Nat} {C : CT} {ln pl : LN} {g : Nat} {h : AH} {F : Nat} {K : Int32 → AH → Prop}
theorem cAt_l {t x3 : Nat} (hR : RC b n W B C ln pl g h) (ht : t < 12) (hx : x3 = t * 30) : ∀ (d N j : Nat), j + d = 30 → d + 1 ≤ N → X5_countsAt_c12 F b K N (nI (csum C t j)) (nI x3) (nI j) h = K (nI (csum C t 30)) h := by
  obtain ⟨r0, rW, rB, rC, -⟩ := hR
  intro d
  induction d with
  | zero =>
    intro N j h1 h2
    obtain ⟨N, rfl⟩ : ∃ k, N = k + 1 := ⟨N - 1, by omega⟩
    have : j = 30 := by omega
    subst this
    rw [X5_countsAt_c12_s]
    simp (disch := omega) only [Nat.not_lt_zero, nneg, nneg2, nlt, nle, neq, nI_add, pk_mul, nsub, ncl, nin, and_true, true_and, not_true_eq_false, not_false_eq_true, ↓reduceIte, Nat.reduceAdd, if_pos, if_neg]
  | succ d ih =>
    intro N j h1 h2
    obtain ⟨N, rfl⟩ : ∃ k, N = k + 1 := ⟨N - 1, by omega⟩
    have e := rC t (j / 5) (j % 5 + 1) ht (by omega) (by omega) (by omega)
    have e2 : (t * 6 + j / 5) * 5 + (j % 5 + 1) - 1 = x3 + j := by omega
    rw [e2] at e
    rw [X5_countsAt_c12_s]
    simp (disch := omega) only [Nat.not_lt_zero, nneg, nneg2, nlt, nle, neq, nI_add, pk_mul, nsub, ncl, nin, and_true, true_and, not_true_eq_false, not_false_eq_true, ↓reduceIte, Nat.reduceAdd, if_pos, if_neg, e]
    exact ih N (j + 1) (by omega) (by omega)
theorem cAt_e {t : Nat} (hR : RC b n W B C ln pl g h) (ht : t < 12) (hFu : 500 ≤ F) : P_X5_countsAt F b (nI t) h K = K (nI (csum C t 30)) h := by
  unfold P_X5_countsAt
  simp (disch := omega) only [Nat.not_lt_zero, nneg, nneg2, nlt, nle, neq, nI_add, pk_mul, nsub, ncl, nin, and_true, true_and, not_true_eq_false, not_false_eq_true, ↓reduceIte, Nat.reduceAdd, if_pos, if_neg]
  exact cAt_l hR ht (by omega) 30 F 0 (by omega) (by omega)
theorem all_l (hR : RC b n W B C ln pl g h) (hn : n ≤ 12) (hFu : 500 ≤ F) : ∀ (d N t : Nat), t + d = n → d + 1 ≤ N → X5_allCounts_c4 F b K N (nI (tsum C t)) (nI t) h = K (nI (tsum C n)) h := by
  have r0 := hR.1
  intro d
  induction d with
  | zero =>
    intro N t h1 h2
    obtain ⟨N, rfl⟩ : ∃ k, N = k + 1 := ⟨N - 1, by omega⟩
    have : t = n := by omega
    subst this
    rw [X5_allCounts_c4_s]
    simp (disch := omega) only [Nat.not_lt_zero, nneg, nneg2, nlt, nle, neq, nI_add, pk_mul, nsub, ncl, nin, and_true, true_and, not_true_eq_false, not_false_eq_true, ↓reduceIte, Nat.reduceAdd, if_pos, if_neg, r0]
  | succ d ih =>
    intro N t h1 h2
    obtain ⟨N, rfl⟩ : ∃ k, N = k + 1 := ⟨N - 1, by omega⟩
    rw [X5_allCounts_c4_s]
    simp (disch := omega) only [Nat.not_lt_zero, nneg, nneg2, nlt, nle, neq, nI_add, pk_mul, nsub, ncl, nin, and_true, true_and, not_true_eq_false, not_false_eq_true, ↓reduceIte, Nat.reduceAdd, if_pos, if_neg, r0]
    rw [cAt_e hR (by omega) hFu]
    simp only [nI_add]
    exact ih N (t + 1) (by omega) (by omega)
/-- the reference -/
theorem rcA_in {rc4 : Int32 → Int32 → Int32 → AH → Prop} {t o : Nat} (hR : RG 57 n W B C ln pl h) (hn : n ≤ 12) (ht : t < n) (ho : o < 6) : ∀ (d N k : Nat), k + d = 6 → 1 ≤ k → d + 1 ≤ N →
    X8_countsAt_c13 F rc4 K N (nI t) (nI (csum C t (o * 5 + k - 1))) (nI o) (nI k) h = rc4 (nI t) (nI (csum C t (o * 5 + 5))) (nI (o + 1)) h := by
  obtain ⟨r0, rW, rB, rC, -⟩ := hR
  intro d
  induction d with
  | zero =>
    intro N k h1 h2 h3
    obtain ⟨N, rfl⟩ : ∃ k, N = k + 1 := ⟨N - 1, by omega⟩
    have : k = 6 := by omega
    subst this
    rw [X8_countsAt_c13_s]
    simp (disch := omega) only [Nat.not_lt_zero, nneg, nneg2, nlt, nle, neq, nI_add, pk_mul, nsub, ncl, nin, and_true, true_and, not_true_eq_false, not_false_eq_true, ↓reduceIte, Nat.reduceAdd, if_pos, if_neg]
    rfl
  | succ d ih =>
    intro N k h1 h2 h3
    obtain ⟨N, rfl⟩ : ∃ k, N = k + 1 := ⟨N - 1, by omega⟩
    have ih2 := ih N (k + 1) (by omega) (by omega) (by omega)
    have e : csum C t (o * 5 + (k + 1) - 1) = csum C t (o * 5 + k - 1) + C t o k := by
      have e1 : o * 5 + (k + 1) - 1 = (o * 5 + k - 1) + 1 := by omega
      have e2 : (o * 5 + k - 1) / 5 = o := by omega
      have e3 : (o * 5 + k - 1) % 5 + 1 = k := by omega
      rw [e1]
      unfold csum
      rw [sumTo, e2, e3]
    rw [e] at ih2
    rw [X8_countsAt_c13_s]
    simp (disch := omega) only [Nat.not_lt_zero, nneg, nneg2, nlt, nle, neq, nI_add, pk_mul, nsub, ncl, nin, and_true, true_and, not_true_eq_false, not_false_eq_true, ↓reduceIte, Nat.reduceAdd, if_pos, if_neg, P_X8_at, rC]
    exact ih2
theorem rcA_l {t : Nat} (hR : RG 57 n W B C ln pl h) (hn : n ≤ 12) (ht : t < n) (hFu : 500 ≤ F) : ∀ (d N o : Nat), o + d = 6 → d + 1 ≤ N →
    X8_countsAt_c4 F K N (nI t) (nI (csum C t (o * 5))) (nI o) h = K (nI (csum C t 30)) h := by
  intro d
  induction d with
  | zero =>
    intro N o h1 h2
    obtain ⟨N, rfl⟩ : ∃ k, N = k + 1 := ⟨N - 1, by omega⟩
    have : o = 6 := by omega
    subst this
    rw [X8_countsAt_c4_s]
    simp (disch := omega) only [Nat.not_lt_zero, nneg, nneg2, nlt, nle, neq, nI_add, pk_mul, nsub, ncl, nin, and_true, true_and, not_true_eq_false, not_false_eq_true, ↓reduceIte, Nat.reduceAdd, if_pos, if_neg]
  | succ d ih =>
    intro N o h1 h2
    obtain ⟨N, rfl⟩ : ∃ k, N = k + 1 := ⟨N - 1, by omega⟩
    have ih2 := ih N (o + 1) (by omega) (by omega)
    have := rcA_in (F := F) (K := K) (rc4 := X8_countsAt_c4 F K N) hR hn ht (o := o) (by omega) 5 F 1 (by omega) (by omega) (by omega)
    have e : (o + 1) * 5 = o * 5 + 5 := by omega
    have e2 : o * 5 + 1 - 1 = o * 5 := by omega
    rw [e2] at this
    rw [e] at ih2
    rw [X8_countsAt_c4_s]
    simp (disch := omega) only [Nat.not_lt_zero, nneg, nneg2, nlt, nle, neq, nI_add, pk_mul, nsub, ncl, nin, and_true, true_and, not_true_eq_false, not_false_eq_true, ↓reduceIte, Nat.reduceAdd, if_pos, if_neg]
    rw [this]
    exact ih2
theorem rcA_e {t : Nat} (hR : RG 57 n W B C ln pl h) (hn : n ≤ 12) (ht : t < n) (hFu : 500 ≤ F) : P_X8_countsAt F (nI t) h K = K (nI (csum C t 30)) h :=
  rcA_l hR hn ht hFu 6 F 0 (by omega) (by omega)
theorem rall_l (hR : RG 57 n W B C ln pl h) (hn : n ≤ 12) (hFu : 500 ≤ F) : ∀ (d N t : Nat), t + d = n → d + 1 ≤ N → X8_allCounts_c4 F K N (nI (tsum C t)) (nI t) h = K (nI (tsum C n)) h := by
  have r0 := hR.1
  intro d
  induction d with
  | zero =>
    intro N t h1 h2
    obtain ⟨N, rfl⟩ : ∃ k, N = k + 1 := ⟨N - 1, by omega⟩
    have : t = n := by omega
    subst this
    rw [X8_allCounts_c4_s]
    simp (disch := omega) only [Nat.not_lt_zero, nneg, nneg2, nlt, nle, neq, nI_add, pk_mul, nsub, ncl, nin, and_true, true_and, not_true_eq_false, not_false_eq_true, ↓reduceIte, Nat.reduceAdd, if_pos, if_neg, r0]
  | succ d ih =>
    intro N t h1 h2
    obtain ⟨N, rfl⟩ : ∃ k, N = k + 1 := ⟨N - 1, by omega⟩
    rw [X8_allCounts_c4_s]
    simp (disch := omega) only [Nat.not_lt_zero, nneg, nneg2, nlt, nle, neq, nI_add, pk_mul, nsub, ncl, nin, and_true, true_and, not_true_eq_false, not_false_eq_true, ↓reduceIte, Nat.reduceAdd, if_pos, if_neg, r0]
    rw [rcA_e hR hn (by omega) hFu]
    simp only [nI_add]
    exact ih N (t + 1) (by omega) (by omega)
/-- the wholes above -/
theorem wh_l (hR : RC b n W B C ln pl g h) (hn : n ≤ 12) (hW : ∀ t, t < n → W t ≤ t) : ∀ (f c N k : Nat), c ≤ f → c ≤ n → k + c ≤ 11 → f + 1 ≤ N → X5_wholesAbove_c9 F b K N (nI k) (wI c) h = K (nI (k + (ch W f c).length)) h := by
  intro f
  induction f with
  | zero =>
    intro c N k h1 h2 h3 h4
    obtain ⟨N, rfl⟩ : ∃ k, N = k + 1 := ⟨N - 1, by omega⟩
    have : c = 0 := by omega
    subst this
    rw [X5_wholesAbove_c9_s]
    simp only [wI_lt (c := 0) (by omega), if_true, ch, List.length_nil, Nat.add_zero]
  | succ f ih =>
    intro c N k h1 h2 h3 h4
    obtain ⟨N, rfl⟩ : ∃ k, N = k + 1 := ⟨N - 1, by omega⟩
    rw [X5_wholesAbove_c9_s]
    cases c with
    | zero => simp only [wI_lt (c := 0) (by omega), if_true, ch, List.length_nil, Nat.add_zero]
    | succ c =>
      have hw := hW c (by omega)
      have r1 := hR.2.1 c (by omega)
      rw [wI_s]
      simp (disch := omega) only [Nat.not_lt_zero, nneg, nneg2, nlt, nle, neq, nI_add, pk_mul, nsub, ncl, nin, and_true, true_and, not_true_eq_false, not_false_eq_true, ↓reduceIte, Nat.reduceAdd, if_pos, if_neg, r1]
      rw [ih (W c) N (k + 1) (by omega) (by omega) (by omega) (by omega)]
      have : (ch W (f + 1) (c + 1)).length = (ch W f (W c)).length + 1 := by rw [ch, List.length_cons]
      rw [this, Nat.add_assoc, Nat.add_comm 1]
theorem rwh_l (hR : RG 57 n W B C ln pl h) (hn : n ≤ 12) (hW : ∀ t, t < n → W t ≤ t) : ∀ (f c N k : Nat), c ≤ f → c ≤ n → f + 1 ≤ N → X8_wholes_c11 F K N (nI k) (wI c) h = K (nI (k + (ch W f c).length)) h := by
  intro f
  induction f with
  | zero =>
    intro c N k h1 h2 h4
    obtain ⟨N, rfl⟩ : ∃ k, N = k + 1 := ⟨N - 1, by omega⟩
    have : c = 0 := by omega
    subst this
    rw [X8_wholes_c11_s]
    simp only [wI_m1 (c := 0) (by omega), if_true, ch, List.length_nil, Nat.add_zero]
  | succ f ih =>
    intro c N k h1 h2 h4
    obtain ⟨N, rfl⟩ : ∃ k, N = k + 1 := ⟨N - 1, by omega⟩
    rw [X8_wholes_c11_s]
    cases c with
    | zero => simp only [wI_m1 (c := 0) (by omega), if_true, ch, List.length_nil, Nat.add_zero]
    | succ c =>
      have hw := hW c (by omega)
      have r1 := hR.2.1 c (by omega)
      rw [wI_s]
      simp (disch := omega) only [Nat.not_lt_zero, nneg, nneg2, nlt, nle, neq, nI_add, pk_mul, nsub, ncl, nin, and_true, true_and, not_true_eq_false, not_false_eq_true, ↓reduceIte, Nat.reduceAdd, if_pos, if_neg, r1]
      rw [ih (W c) N (k + 1) (by omega) (by omega) (by omega)]
      have : (ch W (f + 1) (c + 1)).length = (ch W f (W c)).length + 1 := by rw [ch, List.length_cons]
      rw [this, Nat.add_assoc, Nat.add_comm 1]
/-- the parts -/
theorem pb_l {t : Nat} (hR : RC b n W B C ln pl g h) (hn : n ≤ 12) (hW : ∀ t, t < n → W t ≤ t) (ht : t < n) : ∀ (d N i : Nat), i + d = n → d + 1 ≤ N → X5_partBits_c6 F b K N (nI t) (nI (pbt W t i)) (nI i) h = K (nI (pbt W t n)) h := by
  obtain ⟨r0, rW, rB, rC, -⟩ := hR
  intro d
  induction d with
  | zero =>
    intro N i h1 h2
    obtain ⟨N, rfl⟩ : ∃ k, N = k + 1 := ⟨N - 1, by omega⟩
    have : i = n := by omega
    subst this
    rw [X5_partBits_c6_s]
    simp (disch := omega) only [Nat.not_lt_zero, nneg, nneg2, nlt, nle, neq, nI_add, pk_mul, nsub, ncl, nin, and_true, true_and, not_true_eq_false, not_false_eq_true, ↓reduceIte, Nat.reduceAdd, if_pos, if_neg, r0]
  | succ d ih =>
    intro N i h1 h2
    obtain ⟨N, rfl⟩ : ∃ k, N = k + 1 := ⟨N - 1, by omega⟩
    have ih2 := ih N (i + 1) (by omega) (by omega)
    have hw := hW i (by omega)
    rw [X5_partBits_c6_s]
    simp (disch := omega) only [Nat.not_lt_zero, nneg, nneg2, nlt, nle, neq, nI_add, pk_mul, nsub, ncl, nin, and_true, true_and, not_true_eq_false, not_false_eq_true, ↓reduceIte, Nat.reduceAdd, if_pos, if_neg, r0, rW, wI_eq]
    rw [pbt_s] at ih2
    by_cases e : W i = t + 1
    · simp only [e, not_true_eq_false, if_false, X5_partBits_c30, if_true] at ih2 ⊢
      rw [bsh1 i (by omega)]
      simp only [bor, nI_add]
      exact ih2
    · simp only [e, not_false_eq_true, if_true, X5_partBits_c30, if_false, Nat.or_zero, nI_add] at ih2 ⊢
      exact ih2
theorem rpb_l {t : Nat} (hR : RG 57 n W B C ln pl h) (hn : n ≤ 12) (hW : ∀ t, t < n → W t ≤ t) (ht : t < n) : ∀ (d N i : Nat), i + d = n → d + 1 ≤ N → X8_partsOf_c4 F K N (nI t) (nI (pbt W t i)) (nI i) h = K (nI (pbt W t n)) h := by
  obtain ⟨r0, rW, rB, rC, -⟩ := hR
  intro d
  induction d with
  | zero =>
    intro N i h1 h2
    obtain ⟨N, rfl⟩ : ∃ k, N = k + 1 := ⟨N - 1, by omega⟩
    have : i = n := by omega
    subst this
    rw [X8_partsOf_c4_s]
    simp (disch := omega) only [Nat.not_lt_zero, nneg, nneg2, nlt, nle, neq, nI_add, pk_mul, nsub, ncl, nin, and_true, true_and, not_true_eq_false, not_false_eq_true, ↓reduceIte, Nat.reduceAdd, if_pos, if_neg, r0]
  | succ d ih =>
    intro N i h1 h2
    obtain ⟨N, rfl⟩ : ∃ k, N = k + 1 := ⟨N - 1, by omega⟩
    have ih2 := ih N (i + 1) (by omega) (by omega)
    have hw := hW i (by omega)
    rw [X8_partsOf_c4_s]
    simp (disch := omega) only [Nat.not_lt_zero, nneg, nneg2, nlt, nle, neq, nI_add, pk_mul, nsub, ncl, nin, and_true, true_and, not_true_eq_false, not_false_eq_true, ↓reduceIte, Nat.reduceAdd, if_pos, if_neg, r0, rW, wI_eq]
    rw [pbt_s] at ih2
    by_cases e : W i = t + 1
    · simp only [e, not_true_eq_false, if_false, X8_partsOf_c34, if_true] at ih2 ⊢
      rw [bsh1 i (by omega)]
      simp only [bor, nI_add]
      exact ih2
    · simp only [e, not_false_eq_true, if_true, X8_partsOf_c34, if_false, Nat.or_zero, nI_add, bor] at ih2 ⊢
      exact ih2
def askd (ln : LN) (t o : Nat) : Bool := ln.any (fun q => q.1 == o && q.2.1 == t)
def nask (ln : LN) (t : Nat) : Nat → Nat := sumTo (fun o => if askd ln t o = true then 1 else 0)
theorem sumTo_i {j : Nat} : ∀ n, sumTo (fun o => if o = j then 1 else 0) n = if j < n then 1 else 0
  | 0 => by simp [sumTo]
  | n + 1 => by
    rw [sumTo, sumTo_i n]
    by_cases e : n = j
    · subst e; simp
    · have : (j < n + 1) = (j < n) := propext ⟨fun h => by omega, fun h => by omega⟩
      simp [e, this]
theorem sumTo_p {f g : Nat → Nat} : ∀ n, sumTo (fun o => f o + g o) n = sumTo f n + sumTo g n
  | 0 => rfl
  | n + 1 => by simp only [sumTo]; rw [sumTo_p n]; omega
theorem nask_e {t : Nat} : ∀ ln : LN, (∀ q ∈ ln, q.1 < 6) → (ln.map (fun q => q.1)).Nodup → nask ln t 6 = (ln.filter (fun q => q.2.1 == t)).length
  | [], _, _ => by
    unfold nask
    exact sumTo_0 6 (fun p _ => by simp [askd])
  | q :: r, h1, h2 => by
    have hn := List.nodup_cons.mp h2
    have ih := nask_e (t := t) r (fun p hp => h1 p (List.mem_cons_of_mem _ hp)) hn.2
    by_cases e : q.2.1 = t
    · have : nask (q :: r) t 6 = sumTo (fun o => (if o = q.1 then 1 else 0) + (if askd r t o = true then 1 else 0)) 6 := by
        unfold nask
        refine sumTo_c 6 (fun o ho => ?_)
        by_cases e2 : o = q.1
        · subst e2
          have e3 : askd r t q.1 = false := by
            unfold askd
            rw [List.any_eq_false]
            intro p hp e4
            simp at e4
            exact hn.1 (List.mem_map.mpr ⟨p, hp, e4.1⟩)
          rw [e3]
          simp [askd, e]
        · have e5 : (q.1 == o) = false := beq_eq_false_iff_ne.mpr (fun z => e2 z.symm)
          have e7 : askd (q :: r) t o = askd r t o := by
            unfold askd
            rw [List.any_cons, e5]
            rfl
          rw [e7, if_neg e2, Nat.zero_add]
      rw [this, sumTo_p, sumTo_i, if_pos (h1 q List.mem_cons_self)]
      show 1 + nask r t 6 = _
      rw [ih]
      simp [e, Nat.add_comm]
    · have : nask (q :: r) t 6 = nask r t 6 := by
        unfold nask
        have e6 : (q.2.1 == t) = false := beq_eq_false_iff_ne.mpr e
        refine sumTo_c 6 (fun o ho => ?_)
        have e7 : askd (q :: r) t o = askd r t o := by
          unfold askd
          rw [List.any_cons, e6, Bool.and_false]
          rfl
        rw [e7]
      rw [this, ih]
      simp [e]
theorem asksFor_l {t : Nat} (hR : RC b n W B C ln pl g h) (hv : ∀ q, q ∈ ln → vq n q) (hd : (ln.map (fun q => q.1)).Nodup) (hn : n ≤ 12) (ht : t < n) (hFu : 20 ≤ F) : ∀ (d N o : Nat), o + d = 6 → d + 1 ≤ N → X5_asksFor_c4 F b K N (nI t) (nI (nask ln t o)) (nI o) h = K (nI (nask ln t 6)) h := by
  intro d
  induction d with
  | zero =>
    intro N o h1 h2
    obtain ⟨N, rfl⟩ : ∃ k, N = k + 1 := ⟨N - 1, by omega⟩
    have : o = 6 := by omega
    subst this
    rw [X5_asksFor_c4_s]
    simp (disch := omega) only [Nat.not_lt_zero, nneg, nneg2, nlt, nle, neq, nI_add, pk_mul, nsub, ncl, nin, and_true, true_and, not_true_eq_false, not_false_eq_true, ↓reduceIte, Nat.reduceAdd, if_pos, if_neg]
  | succ d ih =>
    intro N o h1 h2
    obtain ⟨N, rfl⟩ : ∃ k, N = k + 1 := ⟨N - 1, by omega⟩
    have ih2 := ih N (o + 1) (by omega) (by omega)
    unfold nask at ih2
    rw [sumTo] at ih2
    rw [X5_asksFor_c4_s]
    simp (disch := omega) only [Nat.not_lt_zero, nneg, nneg2, nlt, nle, neq, nI_add, pk_mul, nsub, ncl, nin, and_true, true_and, not_true_eq_false, not_false_eq_true, ↓reduceIte, Nat.reduceAdd, if_pos, if_neg]
    rw [waiting_e hR hv (by omega)]
    unfold nask
    cases e : inL ln o with
    | false =>
      have e2 : askd ln t o = false := by
        unfold askd
        rw [List.any_eq_false]
        intro p hp e4
        simp at e4
        exact inL_f e p hp e4.1
      simp only [e2, Bool.false_eq_true, if_false, Nat.add_zero] at ih2
      simp (disch := omega) only [Bool.false_eq_true, if_false, Nat.not_lt_zero, nneg, nneg2, nlt, nle, neq, nI_add, pk_mul, nsub, ncl, nin, and_true, true_and, not_true_eq_false, not_false_eq_true, ↓reduceIte, Nat.reduceAdd, if_pos, if_neg, X5_asksFor_c31]
      exact ih2
    | true =>
      obtain ⟨q, hq, rfl⟩ := inL_of e
      have hq2 := hv q hq
      have ra := hR.2.2.2.2.2.2.2.1 q hq
      obtain ⟨v1, v2, v3⟩ := hq2
      simp (disch := omega) only [if_true, Nat.not_lt_zero, nneg, nneg2, nlt, nle, neq, nI_add, pk_mul, nsub, ncl, nin, and_true, true_and, not_true_eq_false, not_false_eq_true, ↓reduceIte, Nat.reduceAdd, if_pos, if_neg, ra.1, X5_asksFor_c31]
      by_cases e3 : q.2.1 = t
      · have e2 : askd ln t q.1 = true := List.any_eq_true.mpr ⟨q, hq, by simp [e3]⟩
        simp only [e2, if_true] at ih2
        simp only [e3, not_true_eq_false, if_false]
        exact ih2
      · have e2 : askd ln t q.1 = false := by
          unfold askd
          rw [List.any_eq_false]
          intro p hp e4
          simp at e4
          have : p = q := by
            have hd2 := List.pairwise_map.mp hd
            obtain ⟨i, hi, rfl⟩ := List.mem_iff_getElem.mp hp
            obtain ⟨j, hj, rfl⟩ := List.mem_iff_getElem.mp hq
            have hd3 := List.pairwise_iff_getElem.mp hd2
            rcases Nat.lt_trichotomy i j with z | z | z
            · exact absurd e4.1 (hd3 i j hi hj z)
            · subst z; rfl
            · exact absurd e4.1.symm (hd3 j i hj hi z)
          exact e3 (this ▸ e4.2)
        simp only [e2, Bool.false_eq_true, if_false, Nat.add_zero] at ih2
        simp only [e3, not_false_eq_true, if_true]
        exact ih2
theorem askers_l {t : Nat} (hR : RG 57 n W B C ln pl h) (hv : ∀ q, q ∈ ln → vq n q) (hlen : ln.length ≤ 6) (hn : n ≤ 12) (ht : t < n) : ∀ (rest pre : LN) (N : Nat), ln = pre ++ rest → rest.length + 1 ≤ N →
    X8_askers_c4 F K N (nI t) (nI (pre.filter (fun q => q.2.1 == t)).length) (nI pre.length) h = K (nI (ln.filter (fun q => q.2.1 == t)).length) h := by
  obtain ⟨r0, rW, rB, rC, rL, rk, -⟩ := hR
  intro rest
  induction rest with
  | nil =>
    intro pre N hl h2
    obtain ⟨N, rfl⟩ : ∃ k, N = k + 1 := ⟨N - 1, by omega⟩
    have e : ln = pre := by rw [hl]; simp
    subst e
    rw [X8_askers_c4_s]
    simp (disch := omega) only [Nat.not_lt_zero, nneg, nneg2, nlt, nle, neq, nI_add, pk_mul, nsub, ncl, nin, and_true, true_and, not_true_eq_false, not_false_eq_true, ↓reduceIte, Nat.reduceAdd, if_pos, if_neg, rL]
  | cons q rest ih =>
    intro pre N hl h2
    obtain ⟨N, rfl⟩ : ∃ k, N = k + 1 := ⟨N - 1, by omega⟩
    have ih2 := ih (pre ++ [q]) N (by rw [hl]; simp) (by simp at h2 ⊢; omega)
    have hlen2 := hlen
    rw [hl] at hlen2
    simp at hlen2
    have e := rk pre.length q (by rw [hl]; simp)
    have hlL : ln.length = pre.length + rest.length + 1 := by rw [hl]; simp; omega
    have hq := hv q (by rw [hl]; simp)
    obtain ⟨v1, v2, v3⟩ := hq
    rw [X8_askers_c4_s]
    simp (disch := omega) only [Nat.not_lt_zero, nneg, nneg2, nlt, nle, neq, nI_add, pk_mul, nsub, ncl, nin, and_true, true_and, not_true_eq_false, not_false_eq_true, ↓reduceIte, Nat.reduceAdd, if_pos, if_neg, rL, e.2.1]
    rw [List.filter_append, List.length_append, List.length_append] at ih2
    by_cases e3 : q.2.1 = t
    · have e4 : ([q].filter (fun q => q.2.1 == t)).length = 1 := by simp [e3]
      rw [e4] at ih2
      simp only [e3, not_true_eq_false, if_false, X8_askers_c38, nI_add]
      exact ih2
    · have e4 : ([q].filter (fun q => q.2.1 == t)).length = 0 := by simp [e3]
      rw [e4] at ih2
      simp only [e3, not_false_eq_true, if_true, X8_askers_c38, nI_add]
      exact ih2
end CC
