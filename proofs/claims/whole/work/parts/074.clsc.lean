/-! what changes: counts along a way up, the line, serving -/
def sh1 (C : CT) (o t k : Nat) (f : Nat → Nat) : CT := fun t' o' k' => if t' = t ∧ o' = o ∧ k' = k then f (C t o k) else C t' o' k'
def shL (o k : Nat) (f : Nat → Nat) : List Nat → CT → CT
  | [], C => C
  | w :: ws, C => shL o k f ws (sh1 C o w k f)
def sft (W : Nat → Nat) (C : CT) (o t m : Nat) (f : Nat → Nat) : CT := shL o (ab m) f (chn W t) (sh1 C o t m f)
def okS (by' : Int32) (f : Nat → Nat) (o k : Nat) : List Nat → CT → Prop
  | [], _ => True
  | w :: ws, C => (nI (C w o k) + by' = nI (f (C w o k)) ∧ f (C w o k) < 2147483648) ∧ okS by' f o k ws (sh1 C o w k f)
def okA (W : Nat → Nat) (C : CT) (o t m : Nat) (by' : Int32) (f : Nat → Nat) : Prop := (nI (C t o m) + by' = nI (f (C t o m)) ∧ f (C t o m) < 2147483648) ∧ okS by' f o (ab m) (chn W t) (sh1 C o t m f)
section CC
variable {b n : Nat} {W B : Nat → Nat} {ln pl : LN} {g : Nat}
theorem RC_sh1 {C : CT} {h : AH} {o t k : Nat} {f : Nat → Nat} (hR : RC b n W B C ln pl g h) (ht : t < 12) (ho : o < 6) (hk1 : 1 ≤ k) (hk : k ≤ 5) :
    RC b n W B (sh1 C o t k f) ln pl g (up (up h (b + 3) ((t * 6 + o) * 5 + k - 1) (nI (f (C t o k)))) (b + 4) (t * 5 + k - 1) (nI (mk6 (fun j => decide (0 < sh1 C o t k f t j k))))) := by
  obtain ⟨r0, rW, rB, rC, rH, rL, rk, ra, rz, rP, rp, rg⟩ := hR
  refine ⟨?_, ?_, ?_, ?_, ?_, ?_, ?_, ?_, ?_, ?_, ?_, ?_⟩
  · rw [up_c (by omega), up_c (by omega)]; exact r0
  · intro t' h'; rw [up_c (by omega), up_c (by omega)]; exact rW t' h'
  · intro t' h'; rw [up_c (by omega), up_c (by omega)]; exact rB t' h'
  · intro t' o' m' h1 h2 h3 h4
    rw [up_c (by omega)]
    by_cases e : t' = t ∧ o' = o ∧ m' = k
    · obtain ⟨rfl, rfl, rfl⟩ := e
      rw [up_s]
      simp [sh1]
    · rw [up_k (by omega), rC t' o' m' h1 h2 h3 h4]
      simp [sh1, e]
  · intro t' m' h1 h3 h4
    by_cases e : t' = t ∧ m' = k
    · obtain ⟨rfl, rfl⟩ := e
      rw [up_s]
    · rw [up_k (by omega), up_c (by omega), rH t' m' h1 h3 h4]
      congr 1
      refine mk6_cong (fun j _ => ?_)
      have : ¬ (t' = t ∧ j = o ∧ m' = k) := fun q => e ⟨q.1, q.2.2⟩
      simp [sh1, this]
  · rw [up_c (by omega), up_c (by omega)]; exact rL
  · intro k' q hq; rw [up_c (by omega), up_c (by omega)]; exact rk k' q hq
  · intro q hq; rw [up_c (by omega), up_c (by omega), up_c (by omega), up_c (by omega)]; exact ra q hq
  · intro o' h1 h2; rw [up_c (by omega), up_c (by omega)]; exact rz o' h1 h2
  · rw [up_c (by omega), up_c (by omega)]; exact rP
  · intro k' q hq; rw [up_c (by omega), up_c (by omega), up_c (by omega), up_c (by omega), up_c (by omega), up_c (by omega)]; exact rp k' q hq
  · rw [up_c (by omega), up_c (by omega)]; exact rg
/-- one step of the way up -/
theorem sft_1 {C : CT} {h : AH} {F N o m t k up' : Nat} {by' : Int32} {f : Nat → Nat} {K : AH → Prop} (hR : RC b n W B C ln pl g h) (ht : t < n) (hn : n ≤ 12) (ho : o < 6) (hm : m = 2 ∨ m = 4 ∨ m = 5) (hk1 : 1 ≤ k) (hk : k ≤ 5) (hu : up' < 12)
    (hok : nI (C t o k) + by' = nI (f (C t o k)) ∧ f (C t o k) < 2147483648)
    (kk : ∀ h', RC b n W B (sh1 C o t k f) ln pl g h' → fr b h h' → X5_shiftCounts_c9 F b K N (nI o) (nI m) by' (wI (W t)) (nI (ab m)) (nI (up' + 1)) h') :
    X5_shiftCounts_c9 F b K (N + 1) (nI o) (nI m) by' (nI t) (nI k) (nI up') h := by
  have hR0 := hR
  obtain ⟨r0, rW, rB, rC, rH, -⟩ := hR
  rw [X5_shiftCounts_c9_s]
  simp (disch := omega) only [Nat.not_lt_zero, nneg, nneg2, nlt, nle, neq, nI_add, pk_mul, nsub, ncl, nin, and_true, true_and, not_true_eq_false, not_false_eq_true, ↓reduceIte, Nat.reduceAdd, if_neg, if_pos, P_X5_cell, P_X5_row, rC, hok.1, X5_shiftCounts_c95, up_s]
  have e4 : (up h (b + 3) ((t * 6 + o) * 5 + k - 1) (nI (f (C t o k)))) (b + 4) (t * 5 + k - 1) = nI (mk6 (fun j => decide (0 < C t j k))) := by
    rw [up_c (by omega)]
    exact rH t k (by omega) hk1 hk
  have fin : ∀ v, v = nI (mk6 (fun j => decide (0 < sh1 C o t k f t j k))) → X5_shiftCounts_c9 F b K N (nI o) (nI m) by' ((up (up h (b + 3) ((t * 6 + o) * 5 + k - 1) (nI (f (C t o k)))) (b + 4) (t * 5 + k - 1) v) (b + 1) t) (tMA m) (nI (up' + 1)) (up (up h (b + 3) ((t * 6 + o) * 5 + k - 1) (nI (f (C t o k)))) (b + 4) (t * 5 + k - 1) v) := by
    intro v hv
    rw [up_c (by omega), up_c (by omega), rW t ht, tMA_ab hm, hv]
    exact kk _ (RC_sh1 hR0 (by omega) ho hk1 hk) (fr_tr (fr_up (by omega) (by omega)) (fr_up (by omega) (by omega)))
  by_cases e : f (C t o k) = 0
  · rw [if_pos e, e4]
    refine fin _ ?_
    rw [bclr (mk6_lt _) ho, clr_mk ho]
    congr 1
    refine mk6_cong (fun j _ => ?_)
    by_cases e2 : j = o
    · subst e2
      simp [sh1, e]
    · simp [sh1, e2]
  · rw [if_neg e, e4]
    refine fin _ ?_
    rw [bsh1 o (by omega), bor, mk6_1 ho, mk6_or]
    congr 1
    refine mk6_cong (fun j _ => ?_)
    by_cases e2 : j = o
    · subst e2
      simp [sh1]
      omega
    · simp [sh1, e2]
theorem sft_l {F o m : Nat} {by' : Int32} {f : Nat → Nat} {K : AH → Prop} (hW : ∀ t, t < n → W t ≤ t) (hn : n ≤ 12) (ho : o < 6) (hm : m = 2 ∨ m = 4 ∨ m = 5) : ∀ (fu N c up' : Nat) (C : CT) (h : AH), RC b n W B C ln pl g h → okS by' f o (ab m) (ch W fu c) C → c ≤ fu → c ≤ n → up' + fu = 12 → fu + 1 ≤ N →
    (∀ h', RC b n W B (shL o (ab m) f (ch W fu c) C) ln pl g h' → fr b h h' → K h') → X5_shiftCounts_c9 F b K N (nI o) (nI m) by' (wI c) (nI (ab m)) (nI up') h := by
  intro fu
  induction fu with
  | zero =>
    intro N c up' C h hR hok hc _ hu hN kk
    obtain ⟨N, rfl⟩ : ∃ k, N = k + 1 := ⟨N - 1, by omega⟩
    have hc0 : c = 0 := by omega
    subst hc0
    rw [X5_shiftCounts_c9_s]
    simp (disch := omega) only [Nat.not_lt_zero, nneg, nneg2, nlt, nle, neq, nI_add, pk_mul, nsub, ncl, nin, and_true, true_and, not_true_eq_false, not_false_eq_true, ↓reduceIte, Nat.reduceAdd, if_neg, if_pos]
    exact kk h hR (fr_rf b h)
  | succ fu ih =>
    intro N c up' C h hR hok hc hcn hu hN kk
    obtain ⟨N, rfl⟩ : ∃ k, N = k + 1 := ⟨N - 1, by omega⟩
    cases c with
    | zero =>
      rw [X5_shiftCounts_c9_s, wI_0]
      simp (disch := omega) only [Nat.not_lt_zero, nneg, nneg2, nlt, nle, neq, nI_add, pk_mul, nsub, ncl, nin, and_true, true_and, not_true_eq_false, not_false_eq_true, ↓reduceIte, Nat.reduceAdd, if_neg, if_pos]
      rw [if_pos (by decide)]
      exact kk h hR (fr_rf b h)
    | succ c =>
      have hb := ab_b m
      have hwc := hW c (by omega)
      rw [wI_s]
      exact sft_1 hR (by omega) hn ho hm hb.1 hb.2 (by omega) hok.1 (fun h' hR' hf => ih N (W c) (up' + 1) _ h' hR' hok.2 (by omega) (by omega) (by omega) (by omega) (fun h2 hR2 hf2 => kk h2 hR2 (fr_tr hf hf2)))
theorem shiftC_e {C : CT} {h : AH} {F o t m : Nat} {by' : Int32} {f : Nat → Nat} {K : AH → Prop} (hR : RC b n W B C ln pl g h) (hW : ∀ t, t < n → W t ≤ t) (hn : n ≤ 12) (hFu : 20 ≤ F) (hv : vq n (o, t, m)) (hok : okA W C o t m by' f)
    (kk : ∀ h', RC b n W B (sft W C o t m f) ln pl g h' → fr b h h' → K h') : P_X5_shiftCounts F b (nI o) (nI t) (nI m) by' h K := by
  obtain ⟨ho, ht, hm⟩ := hv
  simp only at ho ht hm
  unfold P_X5_shiftCounts
  have key : ∀ N, 14 ≤ N → X5_shiftCounts_c9 F b K N (nI o) (nI m) by' (nI t) (nI m) (nI 0) h := by
    intro N hN
    obtain ⟨N, rfl⟩ : ∃ k, N = k + 1 := ⟨N - 1, by omega⟩
    have hwc := hW t ht
    have e := ch_fuel W n hW 11 12 (W t) (by omega) (by omega) (by omega)
    refine sft_1 hR ht hn ho hm (by omega) (by omega) (by omega) hok.1 (fun h' hR' hf => sft_l (f := f) hW hn ho hm 11 N (W t) 1 _ h' hR' ?_ (by omega) (by omega) (by omega) (by omega) (fun h2 hR2 hf2 => kk h2 ?_ (fr_tr hf hf2)))
    · rw [e]; exact hok.2
    · rw [e] at hR2; exact hR2
  exact key F (by omega)
theorem RC_g {C : CT} {h : AH} {g' : Nat} (hR : RC b n W B C ln pl g h) : RC b n W B C ln pl g' (up h b 13 (nI g')) := by
  obtain ⟨r0, rW, rB, rC, rH, rL, rk, ra, rz, rP, rp, rg⟩ := hR
  refine ⟨?_, ?_, ?_, ?_, ?_, ?_, ?_, ?_, ?_, ?_, ?_, up_s _ _ _ _⟩
  · rw [up_k (by omega)]; exact r0
  · intro t' h'; rw [up_c (by omega)]; exact rW t' h'
  · intro t' h'; rw [up_c (by omega)]; exact rB t' h'
  · intro t' o' m' h1 h2 h3 h4; rw [up_c (by omega)]; exact rC t' o' m' h1 h2 h3 h4
  · intro t' m' h1 h3 h4; rw [up_c (by omega)]; exact rH t' m' h1 h3 h4
  · rw [up_k (by omega)]; exact rL
  · intro k' q hq; rw [up_c (by omega)]; exact rk k' q hq
  · intro q hq; rw [up_c (by omega), up_c (by omega)]; exact ra q hq
  · intro o' h1 h2; rw [up_c (by omega)]; exact rz o' h1 h2
  · rw [up_k (by omega)]; exact rP
  · intro k' q hq; rw [up_c (by omega), up_c (by omega), up_c (by omega)]; exact rp k' q hq
theorem grant_e {C : CT} {h : AH} {F o t m : Nat} {K : AH → Prop} (hR : RC b n W B C ln pl g h) (hW : ∀ t, t < n → W t ≤ t) (hn : n ≤ 12) (hFu : 20 ≤ F) (hv : vq n (o, t, m)) (hok : okA W C o t m (nI 1) (· + 1))
    (kk : ∀ h', RC b n W B (sft W C o t m (· + 1)) ln pl (g + 1) h' → fr b h h' → K h') : P_X5_grant F b (nI o) (nI t) (nI m) h K := by
  unfold P_X5_grant
  refine shiftC_e hR hW hn hFu hv hok (fun h' hR' hf => ?_)
  have rg := hR'.2.2.2.2.2.2.2.2.2.2.2
  simp only [rg, nI_add]
  exact kk _ (RC_g hR') (fr_tr hf (fr_up (by omega) (by omega)))
end CC
theorem sh1_le {C : CT} {o t k c : Nat} (h : ∀ t o m, C t o m ≤ c) : ∀ t' o' m', sh1 C o t k (· + 1) t' o' m' ≤ c + 1 := by
  intro t' o' m'
  unfold sh1
  split
  · have := h t o k; show C t o k + 1 ≤ _; omega
  · have := h t' o' m'; omega
