/-! weighs -/
abbrev WR : Type := Option Nat × (Nat → Int32) × (Nat → Int32)
def wl (W B : Nat → Nat) (rec : (Nat → Int32) → (Nat → Int32) → (Nat → Int32) → Nat → WR) (wh th : Nat) (I : Nat → Int32) : Nat → Nat → Nat → (Nat → Int32) → (Nat → Int32) → WR
  | 0, _, acc, E, D => (some acc, E, D)
  | d + 1, p, acc, E, D => if W p = th + 1 then (if B p = 1 then (none, E, D) else
      match rec (eE (eE E p) wh) (eD (eD D I p) (eI I p) wh) (eI (eI I p) wh) p with
      | (none, E', D') => (none, E', D')
      | (some v, E', D') => wl W B rec wh th I d (p + 1) (acc + v) E' D')
    else wl W B rec wh th I d (p + 1) acc E D
def wg (n : Nat) (W B : Nat → Nat) (C : CT) (wh : Nat) : Nat → (Nat → Int32) → (Nat → Int32) → (Nat → Int32) → Nat → WR
  | 0, E, D, _, _ => (none, E, D)
  | f + 1, E, D, I, th => wl W B (wg n W B C wh f) wh th I (n - (th + 1)) (th + 1) (csum C th 30) E D
theorem csum_lt {C : CT} {c t : Nat} (h : ∀ t o m, C t o m ≤ c) : ∀ i, csum C t i ≤ i * c := fun i => sumTo_b (fun p => h _ _ _) i
def wv : Option Nat → Int32
  | none => -11
  | some v => nI v
section WG
variable {n b F : Nat} {W B : Nat → Nat} {C : CT} {ln pl : LN} {g wh : Nat}
theorem lI_2 (I : Nat → Int32) {p wh : Nat} (h : p ≠ wh) : lI (lI (eI (eI I p) wh) wh) p = I := by
  rw [lI_e, lI_e]
theorem lI_3 (I : Nat → Int32) {p wh : Nat} (h : p ≠ wh) : lI (lI (eI (eI I p) wh) p) wh = I := by
  have h2 : wh ≠ p := fun e => h e.symm
  funext j
  unfold lI eI uI
  by_cases e1 : j = wh
  · subst e1
    simp [h, h2]
  · by_cases e2 : j = p
    · subst e2
      simp [h, h2]
    · simp [e1, e2]
theorem RC_gs {n' : Nat} {E D I : Nat → Int32} {X : Int32} {h0 h : AH} (hR : RC 1 n W B C ln pl g h0) (hs : gs 41 n' E D I X h0 h) : RC 1 n W B C ln pl g h := by
  refine RC_c hR (fun a h1 h2 _ => hs.2.2.1 a (by omega) (by omega) (by omega) (by omega)) ?_
  rw [hs.2.2.1 1 (by omega) (by omega) (by omega) (by omega)]
  exact hR.2.2.2.2.2.2.2.2.2.2.2
/-- a bound on what is weighed -/
theorem wl_b {rec : (Nat → Int32) → (Nat → Int32) → (Nat → Int32) → Nat → WR} {th : Nat} {I : Nat → Int32} {M : Nat} (hr : ∀ E D I p v, th < p → p < n → (rec E D I p).1 = some v → v ≤ M * 2 ^ (n - 1 - p)) : ∀ (d p acc : Nat) (E D : Nat → Int32) (v : Nat), p + d = n → th < p → (wl W B rec wh th I d p acc E D).1 = some v → v + M ≤ acc + M * 2 ^ d
  | 0, p, acc, E, D, v, hp, ht, h => by
    unfold wl at h
    simp at h
    omega
  | d + 1, p, acc, E, D, v, hp, ht, h => by
    unfold wl at h
    have h2 : M * 2 ^ (d + 1) = M * 2 ^ d + M * 2 ^ d := by rw [Nat.pow_succ, ← Nat.mul_assoc]; omega
    split at h
    · split at h
      · simp at h
      · split at h
        · simp at h
        · rename_i v2 E2 D2 h3
          have h4 := hr (eE (eE E p) wh) (eD (eD D I p) (eI I p) wh) (eI (eI I p) wh) p v2 ht (by omega) (by rw [h3])
          have h5 : n - 1 - p = d := by omega
          rw [h5] at h4
          have := wl_b hr d (p + 1) _ _ _ _ (by omega) (by omega) h
          omega
    · have := wl_b hr d (p + 1) _ _ _ _ (by omega) (by omega) h
      have h6 : M ≤ M * 2 ^ d := Nat.le_mul_of_pos_right _ (Nat.two_pow_pos d)
      omega
theorem wg_b {c : Nat} (hC : ∀ t o m, C t o m ≤ c) : ∀ (f : Nat) (E D I : Nat → Int32) (th v : Nat), th < n → (wg n W B C wh f E D I th).1 = some v → v ≤ 30 * c * 2 ^ (n - 1 - th)
  | 0, E, D, I, th, v, _, h => by
    unfold wg at h
    simp at h
  | f + 1, E, D, I, th, v, ht, h => by
    unfold wg at h
    have := wl_b (n := n) (M := 30 * c) (fun E D I p v _ h2 h3 => wg_b hC f E D I p v h2 h3) (n - (th + 1)) (th + 1) _ _ _ v (by omega) (by omega) h
    have h2 := csum_lt (t := th) hC 30
    have h3 : n - (th + 1) = n - 1 - th := by omega
    rw [h3] at this
    omega
theorem wg_s {c f th v : Nat} {E D I : Nat → Int32} (hn : n ≤ 12) (hc : c < 10000) (hC : ∀ t o m, C t o m ≤ c) (ht : th < n) (h : (wg n W B C wh f E D I th).1 = some v) : v < 700000000 := by
  have h1 := wg_b hC f E D I th v ht h
  have h2 : 2 ^ (n - 1 - th) ≤ 2 ^ 11 := Nat.pow_le_pow_right (by omega) (by omega)
  have h3 : 30 * c * 2 ^ (n - 1 - th) ≤ 30 * c * 2 ^ 11 := Nat.mul_le_mul_left _ h2
  omega
/-- the class -/
theorem wc_l {c : Nat} {h0 : AH} {X : Int32} {f th dep : Nat} {I : Nat → Int32} {K : Int32 → AH → Prop} (hR0 : RC 1 n W B C ln pl g h0) (hF : WF c n W B C ln pl) (hc : c < 10000) (hFu : 500 ≤ F) (hth : th < n) (hwh : wh ≤ th) (hdep : dep ≤ 11)
    (ih : ∀ (p : Nat) (E D I : Nat → Int32) (h : AH) (K : Int32 → AH → Prop), th < p → p < n → gs 41 n E D I X h0 h → (∀ h', gs 41 n (wg n W B C wh f E D I p).2.1 (wg n W B C wh f E D I p).2.2 I X h0 h' → K (wv (wg n W B C wh f E D I p).1) h') → PR_X7_weighInside F f 1 (nI wh) (nI p) (nI (dep + 1)) h K) :
    ∀ (d N p acc : Nat) (E D : Nat → Int32) (h : AH), p + d = n → th < p → d + 1 ≤ N → gs 41 n E D I X h0 h →
    (∀ h', gs 41 n (wl W B (wg n W B C wh f) wh th I d p acc E D).2.1 (wl W B (wg n W B C wh f) wh th I d p acc E D).2.2 I X h0 h' → K (wv (wl W B (wg n W B C wh f) wh th I d p acc E D).1) h') →
    X7_weighInside_c22 F 1 (PR_X7_weighInside F f) K N (nI wh) (nI th) (nI dep) (nI acc) (nI p) h := by
  have hn := hF.1
  have hB := hF.2.2.1
  have hW := hF.2.1
  intro d
  induction d with
  | zero =>
    intro N p acc E D h h1 h2 h3 h4 kk
    obtain ⟨N, rfl⟩ : ∃ k, N = k + 1 := ⟨N - 1, by omega⟩
    have hp : p = n := by omega
    subst hp
    have hR := RC_gs hR0 h4
    rw [X7_weighInside_c22_s]
    simp (disch := omega) only [Nat.not_lt_zero, nneg, nneg2, nlt, nle, neq, nI_add, pk_mul, nsub, ncl, nin, and_true, true_and, not_true_eq_false, not_false_eq_true, ↓reduceIte, Nat.reduceAdd, if_pos, if_neg, hR.1]
    exact kk h h4
  | succ d ihd =>
    intro N p acc E D h h1 h2 h3 h4 kk
    obtain ⟨N, rfl⟩ : ∃ k, N = k + 1 := ⟨N - 1, by omega⟩
    have hR := RC_gs hR0 h4
    have w := hR.2.1 p (by omega)
    have hwp := hW p (by omega)
    have hpw : p ≠ wh := by omega
    rw [X7_weighInside_c22_s]
    simp (disch := omega) only [Nat.not_lt_zero, nneg, nneg2, nlt, nle, neq, nI_add, pk_mul, nsub, ncl, nin, and_true, true_and, not_true_eq_false, not_false_eq_true, ↓reduceIte, Nat.reduceAdd, if_pos, if_neg, hR.1, w, wI_eq]
    unfold wl at kk
    by_cases e : W p = th + 1
    · simp only [e, if_true] at kk ⊢
      rw [bare_e hR hn hB (by omega)]
      by_cases e2 : B p = 1
      · simp (disch := omega) only [Nat.not_lt_zero, nneg, nneg2, nlt, nle, neq, nI_add, pk_mul, nsub, ncl, nin, and_true, true_and, not_true_eq_false, not_false_eq_true, ↓reduceIte, Nat.reduceAdd, e2, if_true, if_pos, if_neg] at kk ⊢
        exact kk h h4
      · simp (disch := omega) only [Nat.not_lt_zero, nneg, nneg2, nlt, nle, neq, nI_add, pk_mul, nsub, ncl, nin, and_true, true_and, not_true_eq_false, not_false_eq_true, ↓reduceIte, Nat.reduceAdd, e2, if_false, if_pos, if_neg] at kk ⊢
        refine enter_e h4 hn (by omega) (fun ha ga => ?_)
        refine enter_e ga hn (by omega) (fun hb gb => ?_)
        refine ih p _ _ _ hb _ h2 (by omega) gb (fun hc' gc => ?_)
        refine leave_e gc hn (by omega) (fun hd gd => ?_)
        refine leave_e gd hn (by omega) (fun he ge => ?_)
        rw [lI_2 I hpw] at ge
        cases er : wg n W B C wh f (eE (eE E p) wh) (eD (eD D I p) (eI I p) wh) (eI (eI I p) wh) p with
        | mk r1 r2 =>
          obtain ⟨E', D'⟩ := r2
          rw [er] at ge kk
          cases r1 with
          | none =>
            have q : ¬ nI 0 ≤ (-11 : Int32) := by decide
            simp only [wv, q, if_false]
            exact kk he ge
          | some v =>
            have hv := wg_s (v := v) hn hc hF.2.2.2.2.1 (by omega : p < n) (by rw [er])
            simp (disch := omega) only [wv, Nat.not_lt_zero, nneg, nneg2, nlt, nle, neq, nI_add, pk_mul, nsub, ncl, nin, and_true, true_and, not_true_eq_false, not_false_eq_true, ↓reduceIte, Nat.reduceAdd, if_pos, if_neg, Nat.zero_le, X7_weighInside_c108]
            exact ihd N (p + 1) (acc + v) E' D' he (by omega) (by omega) (by omega) ge kk
    · simp only [e, if_false, X7_weighInside_c108, nI_add] at kk ⊢
      exact ihd N (p + 1) acc E D h (by omega) (by omega) (by omega) h4 kk
theorem wc_e {c : Nat} {h0 : AH} {X : Int32} (hR0 : RC 1 n W B C ln pl g h0) (hF : WF c n W B C ln pl) (hc : c < 10000) (hFu : 500 ≤ F) : ∀ (f th dep : Nat) (E D I : Nat → Int32) (h : AH) (K : Int32 → AH → Prop), n - th ≤ f → th < n → wh ≤ th → dep + (n - th) ≤ 12 → gs 41 n E D I X h0 h →
    (∀ h', gs 41 n (wg n W B C wh f E D I th).2.1 (wg n W B C wh f E D I th).2.2 I X h0 h' → K (wv (wg n W B C wh f E D I th).1) h') → PR_X7_weighInside F f 1 (nI wh) (nI th) (nI dep) h K := by
  have hn := hF.1
  intro f
  induction f with
  | zero => intro th dep E D I h K h1 h2; omega
  | succ f ih =>
    intro th dep E D I h K h1 h2 h3 h4 h5 kk
    have hR := RC_gs hR0 h5
    rw [PR_X7_weighInside_s]
    unfold Pb_X7_weighInside
    simp (disch := omega) only [Nat.not_lt_zero, nneg, nneg2, nlt, nle, neq, nI_add, pk_mul, nsub, ncl, nin, and_true, true_and, not_true_eq_false, not_false_eq_true, ↓reduceIte, Nat.reduceAdd, if_pos, if_neg]
    rw [cAt_e hR (by omega) hFu]
    refine wc_l hR0 hF hc hFu h2 h3 (by omega) (fun p E D I h K q1 q2 q3 q4 => ih p (dep + 1) E D I h K (by omega) q2 (by omega) (by omega) q3 q4) (n - (th + 1)) F (th + 1) (csum C th 30) E D h (by omega) (by omega) (by omega) h5 ?_
    exact kk
/-- the reference -/
def kR (n : Nat) (I : Nat → Int32) (h0 : AH) (K : Int32 → AH → Prop) (r : WR) : Prop := match r.1 with
  | some v => ∀ h', gs 60 n r.2.1 r.2.2 I (nI 0) h0 h' → K (nI v) h'
  | none => ∀ s h', gs 60 n r.2.1 r.2.2 I (nI 1) h0 h' → K s h'
theorem RG_gs {n' : Nat} {E D I : Nat → Int32} {X : Int32} {h0 h : AH} (hR : RG 57 n W B C ln pl h0) (hs : gs 60 n' E D I X h0 h) : RG 57 n W B C ln pl h := RG_c hR (hs.2.2.1 57 (by omega) (by omega) (by omega) (by omega))
theorem gs_X {a : Nat} {E D I : Nat → Int32} {X Y : Int32} {h0 h : AH} (ha : a + 2 < 56 ∨ 56 < a) (hs : gs a n E D I X h0 h) : gs a n E D I Y h0 (up h 56 14 Y) := by
  obtain ⟨s1, s2, s3, s4, s5⟩ := hs
  refine ⟨fun t ht => ?_, fun t ht => ?_, fun b h1 h2 h3 h4 => ?_, fun k hk => ?_, ?_⟩
  · rw [up_ne _ _ _ _ (by omega), up_ne _ _ _ _ (by omega), up_ne _ _ _ _ (by omega)]; exact s1 t ht
  · rw [up_ne _ _ _ _ (by omega), up_ne _ _ _ _ (by omega), up_ne _ _ _ _ (by omega)]; exact s2 t ht
  · rw [up_ne _ _ _ _ h4]; exact s3 b h1 h2 h3 h4
  · rw [upr, if_neg (by omega)]; exact s4 k hk
  · rw [upr, if_pos ⟨rfl, rfl⟩]
theorem wr_l {h0 : AH} {f th : Nat} {I : Nat → Int32} {K : Int32 → AH → Prop} {c : Nat} (hR0 : RG 57 n W B C ln pl h0) (hF : WF c n W B C ln pl) (hc : c < 10000) (hth : th < n) (hwh : wh ≤ th)
    (ih : ∀ (p : Nat) (E D I : Nat → Int32) (h : AH) (K : Int32 → AH → Prop), th < p → p < n → gs 60 n E D I (nI 0) h0 h → kR n I h0 K (wg n W B C wh f E D I p) → PR_X8_weighsFrom F f (nI p) (nI wh) h K) :
    ∀ (d N p acc : Nat) (E D : Nat → Int32) (h : AH), p + d = n → d + 1 ≤ N → gs 60 n E D I (nI 0) h0 h → kR n I h0 K (wl W B (wg n W B C wh f) wh th I d p acc E D) →
    X8_weighsFrom_c9 F (PR_X8_weighsFrom F f) K N (nI th) (nI wh) (nI acc) (nI p) h := by
  have hn := hF.1
  have hB := hF.2.2.1
  have hW := hF.2.1
  intro d
  induction d with
  | zero =>
    intro N p acc E D h h1 h3 h4 kk
    obtain ⟨N, rfl⟩ : ∃ k, N = k + 1 := ⟨N - 1, by omega⟩
    have hp : p = n := by omega
    subst hp
    have hR := RG_gs hR0 h4
    rw [X8_weighsFrom_c9_s]
    simp (disch := omega) only [Nat.not_lt_zero, nneg, nneg2, nlt, nle, neq, nI_add, pk_mul, nsub, ncl, nin, and_true, true_and, not_true_eq_false, not_false_eq_true, ↓reduceIte, Nat.reduceAdd, if_pos, if_neg, hR.1]
    exact kk h h4
  | succ d ihd =>
    intro N p acc E D h h1 h3 h4 kk
    obtain ⟨N, rfl⟩ : ∃ k, N = k + 1 := ⟨N - 1, by omega⟩
    have hR := RG_gs hR0 h4
    have w := hR.2.1 p (by omega)
    have bb := hR.2.2.1 p (by omega)
    have hB1 := hB p (by omega)
    have hwp := hW p (by omega)
    have s0 := h4.2.2.2.2
    rw [X8_weighsFrom_c9_s]
    simp (disch := omega) only [Nat.not_lt_zero, nneg, nneg2, nlt, nle, neq, nI_add, pk_mul, nsub, ncl, nin, and_true, true_and, not_true_eq_false, not_false_eq_true, ↓reduceIte, Nat.reduceAdd, if_pos, if_neg, hR.1, w, wI_eq, s0, bb]
    unfold wl at kk
    by_cases e : W p = th + 1
    · have hpw : p ≠ wh := by omega
      simp only [e, if_true] at kk ⊢
      by_cases e2 : B p = 1
      · simp (disch := omega) only [Nat.not_lt_zero, nneg, nneg2, nlt, nle, neq, nI_add, pk_mul, nsub, ncl, nin, and_true, true_and, not_true_eq_false, not_false_eq_true, ↓reduceIte, Nat.reduceAdd, e2, if_true, if_pos, if_neg] at kk ⊢
        exact kk _ _ (gs_X (by omega) h4)
      · simp (disch := omega) only [Nat.not_lt_zero, nneg, nneg2, nlt, nle, neq, nI_add, pk_mul, nsub, ncl, nin, and_true, true_and, not_true_eq_false, not_false_eq_true, ↓reduceIte, Nat.reduceAdd, e2, if_false, if_pos, if_neg] at kk ⊢
        refine goes_e h4 hn (by omega) (fun ha ga => ?_)
        refine goes_e ga hn (by omega) (fun hb gb => ?_)
        refine ih p _ _ _ hb _ (by omega) (by omega) gb ?_
        cases er : wg n W B C wh f (eE (eE E p) wh) (eD (eD D I p) (eI I p) wh) (eI (eI I p) wh) p with
        | mk r1 r2 =>
          obtain ⟨E', D'⟩ := r2
          rw [er] at kk
          cases r1 with
          | none =>
            intro s hc' gc
            have gd := rleave gc (t := p) (by omega)
            have ge := rleave gd (t := wh) (by omega)
            rw [lI_3 I hpw] at ge
            have hR2 := RG_gs hR0 ge
            have s2 := ge.2.2.2.2
            simp (disch := omega) only [Nat.not_lt_zero, nneg, nneg2, nlt, nle, neq, nI_add, pk_mul, nsub, ncl, nin, and_true, true_and, not_true_eq_false, not_false_eq_true, ↓reduceIte, Nat.reduceAdd, if_pos, if_neg, X8_weighsFrom_c106]
            obtain ⟨N', rfl⟩ : ∃ k, N = k + 1 := ⟨N - 1, by omega⟩
            rw [X8_weighsFrom_c9_s]
            simp (disch := omega) only [Nat.not_lt_zero, nneg, nneg2, nlt, nle, neq, nI_add, pk_mul, nsub, ncl, nin, and_true, true_and, not_true_eq_false, not_false_eq_true, ↓reduceIte, Nat.reduceAdd, if_pos, if_neg, hR2.1, s2, ite_self]
            exact kk _ _ ge
          | some v =>
            intro hc' gc
            have gd := rleave gc (t := p) (by omega)
            have ge := rleave gd (t := wh) (by omega)
            rw [lI_3 I hpw] at ge
            simp (disch := omega) only [Nat.not_lt_zero, nneg, nneg2, nlt, nle, neq, nI_add, pk_mul, nsub, ncl, nin, and_true, true_and, not_true_eq_false, not_false_eq_true, ↓reduceIte, Nat.reduceAdd, if_pos, if_neg, X8_weighsFrom_c106]
            exact ihd N (p + 1) (acc + v) E' D' _ (by omega) (by omega) ge kk
    · simp only [e, if_false, X8_weighsFrom_c106, nI_add] at kk ⊢
      exact ihd N (p + 1) acc E D h (by omega) (by omega) h4 kk
theorem wl_k {rec : (Nat → Int32) → (Nat → Int32) → (Nat → Int32) → Nat → WR} {th acc d : Nat} {I E D : Nat → Int32} : ∀ (j p : Nat), (∀ q, p ≤ q → q < p + j → W q ≠ th + 1) → wl W B rec wh th I (d + j) p acc E D = wl W B rec wh th I d (p + j) acc E D
  | 0, p, _ => rfl
  | j + 1, p, h => by
    have e : d + (j + 1) = (d + j) + 1 := by omega
    rw [e]
    have h1 : wl W B rec wh th I (d + j + 1) p acc E D = wl W B rec wh th I (d + j) (p + 1) acc E D := by
      conv => lhs; unfold wl
      rw [if_neg (h p (by omega) (by omega))]
    rw [h1, wl_k j (p + 1) (fun q h1 h2 => h q (by omega) (by omega))]
    have e2 : p + 1 + j = p + (j + 1) := by omega
    rw [e2]
theorem wr_e {c : Nat} {h0 : AH} (hR0 : RG 57 n W B C ln pl h0) (hF : WF c n W B C ln pl) (hc : c < 10000) (hFu : 500 ≤ F) : ∀ (f th : Nat) (E D I : Nat → Int32) (h : AH) (K : Int32 → AH → Prop), n - th ≤ f → th < n → wh ≤ th → gs 60 n E D I (nI 0) h0 h →
    kR n I h0 K (wg n W B C wh f E D I th) → PR_X8_weighsFrom F f (nI th) (nI wh) h K := by
  have hn := hF.1
  have hW := hF.2.1
  intro f
  induction f with
  | zero => intro th E D I h K h1 h2; omega
  | succ f ih =>
    intro th E D I h K h1 h2 h3 h5 kk
    have hR := RG_gs hR0 h5
    rw [PR_X8_weighsFrom_s]
    unfold Pb_X8_weighsFrom
    rw [rcA_e hR hn h2 hFu]
    refine wr_l hR0 hF hc h2 h3 (fun p E D I h K q1 q2 q3 q4 => ih p E D I h K (by omega) q2 (by omega) q3 q4) n F 0 (csum C th 30) E D h (by omega) (by omega) h5 ?_
    have e : n = (n - (th + 1)) + (th + 1) := by omega
    have := wl_k (W := W) (B := B) (rec := wg n W B C wh f) (wh := wh) (th := th) (acc := csum C th 30) (d := n - (th + 1)) (I := I) (E := E) (D := D) (th + 1) 0 (fun q _ hq => by have := hW q (by omega); omega)
    rw [← e, Nat.zero_add] at this
    rw [this]
    exact kk
end WG
section CL
variable {m F : Nat} {h : AH} {G Z : AH → Prop} {x y z : Int32}
theorem call_weighs (hFu : 500 ≤ F) (hI : INV m h) (hm : m < 513) (kk : ∀ h', INV (m + 1) h' → G h') : P_X7_weighs F x h (fun r h1 => P_X8_weighs F x h1 (fun r' h3 => if r = r' then G h3 else Z h3)) := by
  obtain ⟨c, l, n, W, B, C, ln, pl, g, hs⟩ := hI
  have hc := ST_c hs
  have hF := hs.2.2.1
  have hn := hF.1
  have hB := hF.2.2.1
  have done := kk _ (INV_s hs hm)
  by_cases hx : inr x n
  · have ex := hx
    obtain ⟨t, ht, rfl⟩ := hx
    by_cases e : B t = 1
    · refine pairI (P7 := fun h K => P_X7_weighs F (nI t) h K) (P8 := fun h K => P_X8_weighs F (nI t) h K) ⟨-11, fun K kk => ?_, fun K kk => ?_⟩ done
      · unfold P_X7_weighs
        rw [gref_t hs.1 hn hB ht, if_pos e, if_neg nm_11]
        exact kk
      · unfold P_X8_weighs
        rw [isThing_ry hs.2.1.1.1 hn ex]
        simp (disch := omega) only [Nat.not_lt_zero, nneg, nneg2, nlt, nle, neq, nI_add, pk_mul, nsub, ncl, nin, and_true, true_and, not_true_eq_false, not_false_eq_true, ↓reduceIte, Nat.reduceAdd, if_pos, if_neg]
        rw [bare_r hs.2.1.1 hn hB ht, if_pos e]
        simp (disch := omega) only [Nat.not_lt_zero, nneg, nneg2, nlt, nle, neq, nI_add, pk_mul, nsub, ncl, nin, and_true, true_and, not_true_eq_false, not_false_eq_true, ↓reduceIte, Nat.reduceAdd, if_pos, if_neg]
        exact kk
    · unfold P_X7_weighs
      rw [gref_t hs.1 hn hB ht, if_neg e, if_pos rfl]
      refine enter_e (gs_a hs) hn ht (fun h1 g1 => ?_)
      unfold P_X7_weighInside
      refine wc_e hs.1 hF hc hFu 16 t 0 _ _ _ h1 _ (by omega) ht (by omega) (by omega) g1 (fun h2 g2 => ?_)
      refine leave_e g2 hn ht (fun h3 g3 => ?_)
      rw [lI_e] at g3
      have hM : RM n W B C ln pl g h3 := ⟨RG_c hs.2.1.1 (g3.2.2.1 57 (by omega) (by omega) (by omega) (by omega)), by rw [g3.2.2.2.1 4 (by omega)]; exact hs.2.1.2⟩
      unfold P_X8_weighs
      show P_X8_isThing F (nI t) h3 _
      rw [isThing_ry hM.1.1 hn ex]
      simp (disch := omega) only [Nat.not_lt_zero, nneg, nneg2, nlt, nle, neq, nI_add, pk_mul, nsub, ncl, nin, and_true, true_and, not_true_eq_false, not_false_eq_true, ↓reduceIte, Nat.reduceAdd, if_pos, if_neg]
      rw [bare_r hM.1 hn hB ht, if_neg e]
      simp (disch := omega) only [Nat.not_lt_zero, nneg, nneg2, nlt, nle, neq, nI_add, pk_mul, nsub, ncl, nin, and_true, true_and, not_true_eq_false, not_false_eq_true, ↓reduceIte, Nat.reduceAdd, if_pos, if_neg]
      have g4 := gs_X (Y := nI 0) (by omega) (gs_b hs g3)
      refine goes_e g4 hn ht (fun h4 g5 => ?_)
      unfold P_X8_weighsFrom
      refine wr_e hM.1 hF hc hFu 16 t _ _ _ h4 _ (by omega) ht (by omega) g5 ?_
      cases er : wg n W B C t 16 (eE (h 41) t) (eD (h 42) (fun _ => nI 0) t) (eI (fun _ => nI 0) t) t with
      | mk r1 r2 =>
        obtain ⟨E', D'⟩ := r2
        rw [er] at g3
        cases r1 with
        | none =>
          intro s h5 g6
          have g7 := rleave g6 ht
          rw [lI_e] at g7
          have s2 := g7.2.2.2.2
          simp (disch := omega) only [Nat.not_lt_zero, nneg, nneg2, nlt, nle, neq, nI_add, pk_mul, nsub, ncl, nin, and_true, true_and, not_true_eq_false, not_false_eq_true, ↓reduceIte, Nat.reduceAdd, if_pos, if_neg, s2, wv, if_true]
          exact kk _ (INV_g hs hm g3 g7 (fun _ _ => rfl))
        | some v =>
          intro h5 g6
          have g7 := rleave g6 ht
          rw [lI_e] at g7
          have s2 := g7.2.2.2.2
          simp (disch := omega) only [Nat.not_lt_zero, nneg, nneg2, nlt, nle, neq, nI_add, pk_mul, nsub, ncl, nin, and_true, true_and, not_true_eq_false, not_false_eq_true, ↓reduceIte, Nat.reduceAdd, if_pos, if_neg, s2, wv, if_true]
          exact kk _ (INV_g hs hm g3 g7 (fun _ _ => rfl))
  · refine pairI (P7 := fun h K => P_X7_weighs F x h K) (P8 := fun h K => P_X8_weighs F x h K) ⟨-1, fun K kk => ?_, fun K kk => ?_⟩ done
    · unfold P_X7_weighs
      rw [gref_e hs.1 hn hB hx, if_neg nm_1]
      exact kk
    · unfold P_X8_weighs
      rw [isThing_rn hs.2.1.1.1 hn hx]
      simp (disch := omega) only [Nat.not_lt_zero, nneg, nneg2, nlt, nle, neq, nI_add, pk_mul, nsub, ncl, nin, and_true, true_and, not_true_eq_false, not_false_eq_true, ↓reduceIte, Nat.reduceAdd, if_pos, if_neg]
      exact kk
end CL
