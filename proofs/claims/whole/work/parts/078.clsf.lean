/-! the class's table: all giving up, rings, the least, copying -/
theorem RC_cong {b n : Nat} {W B : Nat → Nat} {C C' : CT} {ln pl : LN} {g : Nat} {h : AH} (hR : RC b n W B C ln pl g h) (e : ∀ t o m, t < 12 → o < 6 → 1 ≤ m → m ≤ 5 → C' t o m = C t o m) : RC b n W B C' ln pl g h := by
  obtain ⟨r0, rW, rB, rC, rH, r⟩ := hR
  refine ⟨r0, rW, rB, fun t o m h1 h2 h3 h4 => ?_, fun t m h1 h3 h4 => ?_, r⟩
  · rw [e t o m h1 h2 h3 h4]; exact rC t o m h1 h2 h3 h4
  · rw [rH t m h1 h3 h4]
    congr 1
    exact mk6_cong (fun o ho => by rw [e t o m h1 ho h3 h4])
def clrM (C : CT) (o k j : Nat) : CT := fun t' o' m' => if o' = o ∧ (t' < k ∨ (t' = k ∧ m' < j)) then 0 else C t' o' m'
theorem clrM_s (C : CT) (o k j : Nat) : sh1 (clrM C o k j) o k j (fun _ => 0) = clrM C o k (j + 1) := by
  funext t' o' m'
  unfold sh1 clrM
  by_cases e : t' = k ∧ o' = o ∧ m' = j
  · have c : o' = o ∧ (t' < k ∨ (t' = k ∧ m' < j + 1)) := by omega
    rw [if_pos e, if_pos c]
  · rw [if_neg e]
    by_cases e2 : o' = o ∧ (t' < k ∨ (t' = k ∧ m' < j))
    · have c : o' = o ∧ (t' < k ∨ (t' = k ∧ m' < j + 1)) := by omega
      rw [if_pos e2, if_pos c]
    · have c : ¬ (o' = o ∧ (t' < k ∨ (t' = k ∧ m' < j + 1))) := by omega
      rw [if_neg e2, if_neg c]
section CF
variable {b n : Nat} {W B : Nat → Nat} {pl : LN}
theorem gua_in {F o k : Nat} {C : CT} {ln : LN} {g : Nat} {rc7 : Int32 → Int32 → AH → Prop} {K : Int32 → AH → Prop} (ho : o < 6) (hk : k < 12) (h0 : AH) (kk : ∀ h', RC b n W B (clrM C o k 6) ln pl g h' → fr b h0 h' → rc7 (nI o) (nI (k + 1)) h') : ∀ (r N j : Nat) (h : AH), j + r = 6 → 1 ≤ j → r + 1 ≤ N → RC b n W B (clrM C o k j) ln pl g h → fr b h0 h → X5_giveUpAll_c17 F b rc7 K N (nI o) (nI k) (nI j) h := by
  intro r
  induction r with
  | zero =>
    intro N j h h1 h2 h3 hR hf
    obtain ⟨N, rfl⟩ : ∃ k, N = k + 1 := ⟨N - 1, by omega⟩
    have : j = 6 := by omega
    subst this
    rw [X5_giveUpAll_c17_s]
    simp (disch := omega) only [Nat.not_lt_zero, nneg, nneg2, nlt, nle, neq, nI_add, pk_mul, nsub, ncl, nin, and_true, true_and, not_true_eq_false, not_false_eq_true, ↓reduceIte, Nat.reduceAdd, if_pos, if_neg]
    exact kk h hR hf
  | succ r ih =>
    intro N j h h1 h2 h3 hR hf
    obtain ⟨N, rfl⟩ : ∃ k, N = k + 1 := ⟨N - 1, by omega⟩
    rw [X5_giveUpAll_c17_s]
    have rH := hR.2.2.2.2.1
    have e4 : ∀ x, (up h (b + 3) ((k * 6 + o) * 5 + j - 1) x) (b + 4) (k * 5 + j - 1) = nI (mk6 (fun i => decide (0 < clrM C o k j k i j))) := fun x => by
      rw [up_c (by omega)]
      exact rH k j hk h2 (by omega)
    simp (disch := omega) only [Nat.not_lt_zero, nneg, nneg2, nlt, nle, neq, nI_add, pk_mul, nsub, ncl, nin, and_true, true_and, not_true_eq_false, not_false_eq_true, ↓reduceIte, Nat.reduceAdd, if_pos, if_neg, P_X5_cell, P_X5_row, e4]
    rw [bclr (mk6_lt _) ho, clr_mk ho]
    have h2' := RC_sh1 (f := fun _ => 0) hR hk ho h2 (show j ≤ 5 by omega)
    rw [clrM_s] at h2'
    have e5 : mk6 (fun i => decide (0 < clrM C o k j k i j) && !(i == o)) = mk6 (fun i => decide (0 < clrM C o k (j + 1) k i j)) := by
      refine mk6_cong (fun i _ => ?_)
      by_cases e : i = o
      · subst e
        simp [clrM]
      · simp [clrM, e]
    rw [e5]
    exact ih N (j + 1) _ (by omega) (by omega) (by omega) h2' (fr_tr hf (fr_tr (fr_up (by omega) (by omega)) (fr_up (by omega) (by omega))))
theorem gua_l {c F o g : Nat} {C : CT} {ln : LN} {K : Int32 → AH → Prop} (hFu : 20 ≤ F) (ho : o < 6) (hn : n ≤ 12) (h0 : AH) (hc : c < 1900000000) (hF : WF c n W B C ln pl)
    (kk : ∀ h', RC b n W B (sv W (clrO C o) ln).1 (sv W (clrO C o) ln).2.1 pl (g + (sv W (clrO C o) ln).2.2) h' → fr b h0 h' → K (nI (sv W (clrO C o) ln).2.2) h') : ∀ (r N k : Nat) (h : AH), k + r = n → r + 1 ≤ N → RC b n W B (clrM C o k 1) ln pl g h → fr b h0 h → X5_giveUpAll_c7 F b K N (nI o) (nI k) h := by
  intro r
  induction r with
  | zero =>
    intro N k h h1 h3 hR hf
    obtain ⟨N, rfl⟩ : ∃ k, N = k + 1 := ⟨N - 1, by omega⟩
    have : k = n := by omega
    subst this
    rw [X5_giveUpAll_c7_s, hR.1]
    simp (disch := omega) only [Nat.not_lt_zero, nneg, nneg2, nlt, nle, neq, nI_add, pk_mul, nsub, ncl, nin, and_true, true_and, not_true_eq_false, not_false_eq_true, ↓reduceIte, Nat.reduceAdd, if_pos, if_neg]
    have hR2 : RC b k W B (clrO C o) ln pl g h := RC_cong hR (fun t o' m h1 h2 h3 h4 => by
      unfold clrO clrM
      by_cases e : o' = o
      · rw [if_pos e]
        by_cases e2 : t < k
        · rw [if_pos ⟨e, Or.inl e2⟩]
        · rw [if_neg (by omega)]
          exact (hF.2.2.2.1 t o' m (by omega)).symm
      · rw [if_neg e, if_neg (fun q => e q.1)])
    exact serve_e hR2 (WF_clr hF) hFu hc (fun h2 hR3 hf2 => kk h2 hR3 (fr_tr hf hf2))
  | succ r ih =>
    intro N k h h1 h3 hR hf
    obtain ⟨N, rfl⟩ : ∃ k, N = k + 1 := ⟨N - 1, by omega⟩
    rw [X5_giveUpAll_c7_s, hR.1]
    simp (disch := omega) only [Nat.not_lt_zero, nneg, nneg2, nlt, nle, neq, nI_add, pk_mul, nsub, ncl, nin, and_true, true_and, not_true_eq_false, not_false_eq_true, ↓reduceIte, Nat.reduceAdd, if_pos, if_neg]
    refine gua_in ho (by omega) h0 (fun h' hR' hf' => ?_) 5 F 1 h (by omega) (by omega) (by omega) hR hf
    refine ih N (k + 1) h' (by omega) (by omega) (RC_cong hR' (fun t o' m h1 h2 h3 h4 => ?_)) hf'
    unfold clrM
    by_cases e : o' = o ∧ (t < k ∨ (t = k ∧ m < 6))
    · have c : o' = o ∧ (t < k + 1 ∨ (t = k + 1 ∧ m < 1)) := by omega
      rw [if_pos e, if_pos c]
    · have c : ¬ (o' = o ∧ (t < k + 1 ∨ (t = k + 1 ∧ m < 1))) := by omega
      rw [if_neg e, if_neg c]
/-- all giving up -/
def gaS (W : Nat → Nat) (C : CT) (ln : LN) (o : Nat) : CT × LN × Nat := sv W (clrO C o) (rm ln o)
theorem gaS_WF {c : Nat} {C : CT} {ln : LN} {o : Nat} (h : WF c n W B C ln pl) : WF (c + 6) n W B (gaS W C ln o).1 (gaS W C ln o).2.1 pl := sv_WF (WF_clr (WF_rm h))
theorem gua_e {c F o g : Nat} {C : CT} {ln : LN} {h : AH} {K : Int32 → AH → Prop} (hR : RC b n W B C ln pl g h) (hF : WF c n W B C ln pl) (hFu : 20 ≤ F) (hc : c < 1900000000) (ho : o < 6)
    (kk : ∀ h', RC b n W B (gaS W C ln o).1 (gaS W C ln o).2.1 pl (g + (gaS W C ln o).2.2) h' → fr b h h' → K (nI (gaS W C ln o).2.2) h') : P_X5_giveUpAll F b (nI o) h K := by
  unfold P_X5_giveUpAll
  refine quit_e hR (fun p hp => (WF_v hF p hp).1) (WF_6 hF) ho hFu (fun h1 hR1 hf1 => ?_)
  refine gua_l hFu ho hF.1 h hc (WF_rm hF) (fun h2 hR2 hf2 => kk h2 hR2 hf2) n F 0 h1 (by omega) (by have := hF.1; omega) (RC_cong hR1 (fun t o' m _ _ h3 _ => ?_)) hf1
  unfold clrM
  have c : ¬ (o' = o ∧ (t < 0 ∨ (t = 0 ∧ m < 1))) := by omega
  rw [if_neg c]
/-- whom one waits for -/
def wfb (W : Nat → Nat) (C : CT) (ln : LN) (o : Nat) : Nat := match ln.find? (fun q => q.1 == o) with
  | none => 0
  | some q => hnd W C o q.2.1 q.2.2 (ln.takeWhile (fun q => q.1 != o))
theorem wfb_lt {C : CT} {ln : LN} {o : Nat} : wfb W C ln o < 64 := by
  unfold wfb
  split
  · omega
  · exact hnd_lt _ _ _ _ _ _
theorem wfb_e {c F o g : Nat} {C : CT} {ln : LN} {h : AH} {K : Int32 → AH → Prop} (hR : RC b n W B C ln pl g h) (hF : WF c n W B C ln pl) (hFu : 20 ≤ F) (ho : o < 6) : P_X5_waitsForBits F b (nI o) h K = K (nI (wfb W C ln o)) h := by
  unfold P_X5_waitsForBits wfb
  cases e : ln.find? (fun q => q.1 == o) with
  | none =>
    rw [waiting_n hR ho (fun q hq => by have := List.find?_eq_none.mp e q hq; simpa using this)]
    simp (disch := omega) only [Nat.not_lt_zero, nneg, nneg2, nlt, nle, neq, nI_add, pk_mul, nsub, ncl, nin, and_true, true_and, not_true_eq_false, not_false_eq_true, ↓reduceIte, Nat.reduceAdd, if_pos, if_neg]
  | some q =>
    have hq := List.mem_of_find?_eq_some e
    have hqo : q.1 = o := by have := List.find?_some e; simpa using this
    subst hqo
    have hv := WF_v hF q hq
    have ra := hR.2.2.2.2.2.2.2.1 q hq
    rw [waiting_y hR hv hq]
    simp (disch := omega) only [Nat.not_lt_zero, nneg, nneg2, nlt, nle, neq, nI_add, pk_mul, nsub, ncl, nin, and_true, true_and, not_true_eq_false, not_false_eq_true, ↓reduceIte, Nat.reduceAdd, if_pos, if_neg, ra.1, ra.2]
    rw [hind_e (o := q.1) (t := q.2.1) (m := q.2.2) hR hF hFu hv]
/-- the closure of the waiting, by Warshall -/
def wst (k : Nat) (r : Nat → Nat) : Nat → Nat := fun i => if (r i).testBit k then r i ||| r k else r i
def wsh (r : Nat → Nat) : Nat → Nat := wst 5 (wst 4 (wst 3 (wst 2 (wst 1 (wst 0 r)))))
def ringS (r : Nat → Nat) : Nat := mk6 (fun o => (wsh r o).testBit o)
/-- rows at cell b + 11 -/
def RR (b : Nat) (r : Nat → Nat) (h : AH) : Prop := ∀ o, o < 6 → h (b + 11) o = nI (r o)
def fq (b : Nat) (h h' : AH) : Prop := ∀ a, a ≠ b + 11 → h' a = h a
theorem RC_fq {C : CT} {ln : LN} {g : Nat} {h h' : AH} (hR : RC b n W B C ln pl g h) (e : fq b h h') : RC b n W B C ln pl g h' := by
  obtain ⟨r0, rW, rB, rC, rH, rL, rk, ra, rz, rP, rp, rg⟩ := hR
  have e' := fun a (ha : a ≠ b + 11) (k : Nat) => congrFun (e a ha) k
  refine ⟨?_, ?_, ?_, ?_, ?_, ?_, ?_, ?_, ?_, ?_, ?_, ?_⟩
  · rw [e' _ (by omega)]; exact r0
  · intro t' h'; rw [e' _ (by omega)]; exact rW t' h'
  · intro t' h'; rw [e' _ (by omega)]; exact rB t' h'
  · intro t' o' m' h1 h2 h3 h4; rw [e' _ (by omega)]; exact rC t' o' m' h1 h2 h3 h4
  · intro t' m' h1 h3 h4; rw [e' _ (by omega)]; exact rH t' m' h1 h3 h4
  · rw [e' _ (by omega)]; exact rL
  · intro k' q hq; rw [e' _ (by omega)]; exact rk k' q hq
  · intro q hq; rw [e' _ (by omega), e' _ (by omega)]; exact ra q hq
  · intro o' h1 h2; rw [e' _ (by omega)]; exact rz o' h1 h2
  · rw [e' _ (by omega)]; exact rP
  · intro k' q hq; rw [e' _ (by omega), e' _ (by omega), e' _ (by omega)]; exact rp k' q hq
  · rw [e' _ (by omega)]; exact rg
theorem ring_94 {F : Nat} {K : Int32 → AH → Prop} {r : Nat → Nat} {h : AH} (hr : RR b r h) (hl : ∀ o, o < 6 → r o < 64) : ∀ (d N o s : Nat), o + d = 6 → d + 1 ≤ N → X5_ringBits_c94 F b K N (nI s) (nI o) h = K (nI (s ||| mk6 (fun i => decide (o ≤ i) && (r i).testBit i))) h := by
  intro d
  induction d with
  | zero =>
    intro N o s h1 h2
    obtain ⟨N, rfl⟩ : ∃ k, N = k + 1 := ⟨N - 1, by omega⟩
    rw [X5_ringBits_c94_s]
    simp (disch := omega) only [Nat.not_lt_zero, nneg, nneg2, nlt, nle, neq, nI_add, pk_mul, nsub, ncl, nin, and_true, true_and, not_true_eq_false, not_false_eq_true, ↓reduceIte, Nat.reduceAdd, if_pos, if_neg]
    have : mk6 (fun i => decide (o ≤ i) && (r i).testBit i) = 0 := by
      rw [← mk6_0]
      exact mk6_cong (fun i hi => by simp; omega)
    rw [this, Nat.or_zero]
  | succ d ih =>
    intro N o s h1 h2
    obtain ⟨N, rfl⟩ : ∃ k, N = k + 1 := ⟨N - 1, by omega⟩
    rw [X5_ringBits_c94_s]
    simp (disch := omega) only [Nat.not_lt_zero, nneg, nneg2, nlt, nle, neq, nI_add, pk_mul, nsub, ncl, nin, and_true, true_and, not_true_eq_false, not_false_eq_true, ↓reduceIte, Nat.reduceAdd, if_pos, if_neg, hr o (by omega), bsh1]
    have hb : nI (r o) &&& nI (2 ^ o) = nI (mk6 (fun i => i == o && (r o).testBit o)) := by
      have e : nI (r o) &&& nI (2 ^ o) = nI (r o &&& 2 ^ o) := by
        apply Int32.toBitVec_inj.mp
        apply BitVec.eq_of_getLsbD_eq
        intro i hi
        rw [bt_nI, Nat.testBit_and]
        show ((nI (r o)).toBitVec &&& (nI (2 ^ o)).toBitVec).getLsbD i = _
        rw [BitVec.getLsbD_and, bt_nI, bt_nI]
        simp [hi]
      rw [e]
      congr 1
      refine eq6 (Nat.and_lt_two_pow (n := 6) _ (pow_lt64 (by omega))) (mk6_lt _) (fun i hi => ?_)
      rw [Nat.testBit_and, Nat.testBit_two_pow, mk6_tb _ hi]
      by_cases ei : o = i
      · subst ei
        simp
      · have e2 : (i == o) = false := by simp; omega
        simp [ei, e2]
    rw [hb, bor, ih N (o + 1) _ (by omega) (by omega), Nat.or_assoc, mk6_or]
    have : (fun i => (i == o && (r o).testBit o) || (decide (o + 1 ≤ i) && (r i).testBit i)) = (fun i => decide (o ≤ i) && (r i).testBit i) := by
      funext i
      by_cases ei : i = o
      · subst ei
        simp
      · have e2 : (i == o) = false := by simpa using ei
        have e3 : decide (o + 1 ≤ i) = decide (o ≤ i) := by
          rw [decide_eq_decide]
          omega
        simp [e2, e3]
    rw [this]
/-- rows being changed by the one at k, those below i done -/
def wsp (k i : Nat) (r : Nat → Nat) : Nat → Nat := fun j => if j < i then wst k r j else r j
theorem ring_44 {F k : Nat} {K : Int32 → AH → Prop} {rc36 : Int32 → AH → Prop} {r : Nat → Nat} (hk : k < 6) (hl : ∀ o, o < 6 → r o < 64) (h0 : AH) (kk : ∀ h', RR b (wst k r) h' → fq b h0 h' → rc36 (nI (k + 1)) h') : ∀ (d N i : Nat) (h : AH), i + d = 6 → d + 1 ≤ N → RR b (wsp k i r) h → fq b h0 h → X5_ringBits_c44 F b rc36 K N (nI k) (nI i) h := by
  intro d
  induction d with
  | zero =>
    intro N i h h1 h2 hr hf
    obtain ⟨N, rfl⟩ : ∃ k, N = k + 1 := ⟨N - 1, by omega⟩
    rw [X5_ringBits_c44_s]
    simp (disch := omega) only [Nat.not_lt_zero, nneg, nneg2, nlt, nle, neq, nI_add, pk_mul, nsub, ncl, nin, and_true, true_and, not_true_eq_false, not_false_eq_true, ↓reduceIte, Nat.reduceAdd, if_pos, if_neg]
    refine kk h (fun o ho => ?_) hf
    rw [hr o ho]
    unfold wsp
    rw [if_pos (by omega)]
  | succ d ih =>
    intro N i h h1 h2 hr hf
    obtain ⟨N, rfl⟩ : ∃ k, N = k + 1 := ⟨N - 1, by omega⟩
    rw [X5_ringBits_c44_s]
    have hri := hr i (by omega)
    have hrk := hr k hk
    have e1 : wsp k i r i = r i := by
      unfold wsp
      rw [if_neg (by omega)]
    have e2 : wsp k i r k = r k := by
      unfold wsp
      split
      · unfold wst
        split
        · exact Nat.or_self _
        · rfl
      · rfl
    rw [e1] at hri
    rw [e2] at hrk
    have hli := hl i (by omega)
    simp (disch := omega) only [Nat.not_lt_zero, nneg, nneg2, nlt, nle, neq, nI_add, pk_mul, nsub, ncl, nin, and_true, true_and, not_true_eq_false, not_false_eq_true, ↓reduceIte, Nat.reduceAdd, if_pos, if_neg, hri, X5_ringBits_c78]
    rw [hasBit_e (by omega) (by omega)]
    cases ht : (r i).testBit k with
    | false =>
      simp (disch := omega) only [Bool.false_eq_true, if_false, Nat.not_lt_zero, nneg, nneg2, nlt, nle, neq, nI_add, pk_mul, nsub, ncl, nin, and_true, true_and, not_true_eq_false, not_false_eq_true, ↓reduceIte, Nat.reduceAdd, if_pos, if_neg]
      refine ih N (i + 1) h (by omega) (by omega) (fun o ho => ?_) hf
      rw [hr o ho]
      unfold wsp
      by_cases e : o = i
      · subst e
        rw [if_neg (by omega), if_pos (by omega)]
        unfold wst
        rw [if_neg (by simp [ht])]
      · by_cases e3 : o < i
        · rw [if_pos e3, if_pos (by omega)]
        · rw [if_neg e3, if_neg (by omega)]
    | true =>
      simp (disch := omega) only [if_true, Nat.not_lt_zero, nneg, nneg2, nlt, nle, neq, nI_add, pk_mul, nsub, ncl, nin, and_true, true_and, not_true_eq_false, not_false_eq_true, ↓reduceIte, Nat.reduceAdd, if_pos, if_neg, hri, hrk, bor]
      refine ih N (i + 1) _ (by omega) (by omega) (fun o ho => ?_) (fun a ha => (up_ne _ _ _ _ ha).trans (hf a ha))
      by_cases e : o = i
      · subst e
        rw [up_s]
        unfold wsp
        rw [if_pos (by omega)]
        unfold wst
        rw [if_pos ht]
      · rw [up_k e, hr o ho]
        unfold wsp
        by_cases e3 : o < i
        · rw [if_pos e3, if_pos (by omega)]
        · rw [if_neg e3, if_neg (by omega)]
theorem wst_lt {k : Nat} {r : Nat → Nat} (hk : k < 6) (hl : ∀ o, o < 6 → r o < 64) : ∀ o, o < 6 → wst k r o < 64 := by
  intro o ho
  unfold wst
  split
  · exact or_lt64 (hl o ho) (hl k hk)
  · exact hl o ho
theorem ring_36 {F N : Nat} {K : Int32 → AH → Prop} {r : Nat → Nat} (hF : 20 ≤ F) (hN : 7 ≤ N) (hl : ∀ o, o < 6 → r o < 64) (h : AH) (hr : RR b r h) (kk : ∀ h', fq b h h' → K (nI (ringS r)) h') : X5_ringBits_c36 F b K N (nI 0) h := by
  obtain ⟨N, rfl⟩ : ∃ k, N = k + 7 := ⟨N - 7, by omega⟩
  have st : ∀ (k M : Nat) (r : Nat → Nat) (h1 : AH), k < 6 → (∀ o, o < 6 → r o < 64) → RR b r h1 → fq b h h1 → (∀ h', RR b (wst k r) h' → fq b h h' → X5_ringBits_c36 F b K M (nI (k + 1)) h') → X5_ringBits_c36 F b K (M + 1) (nI k) h1 := by
    intro k M r h1 hk hl hr hf kk
    rw [X5_ringBits_c36_s]
    simp (disch := omega) only [Nat.not_lt_zero, nneg, nneg2, nlt, nle, neq, nI_add, pk_mul, nsub, ncl, nin, and_true, true_and, not_true_eq_false, not_false_eq_true, ↓reduceIte, Nat.reduceAdd, if_pos, if_neg]
    exact ring_44 hk hl h kk 6 F 0 h1 (by omega) (by omega) (fun o ho => by
      rw [hr o ho]
      unfold wsp
      rw [if_neg (by omega)]) hf
  have l0 := wst_lt (show 0 < 6 by omega) hl
  have l1 := wst_lt (show 1 < 6 by omega) l0
  have l2 := wst_lt (show 2 < 6 by omega) l1
  have l3 := wst_lt (show 3 < 6 by omega) l2
  have l4 := wst_lt (show 4 < 6 by omega) l3
  have l5 := wst_lt (show 5 < 6 by omega) l4
  refine st 0 (N + 6) _ _ (by omega) hl hr (fun _ _ => rfl) (fun h1 r1 f1 => ?_)
  refine st 1 (N + 5) _ _ (by omega) l0 r1 f1 (fun h2 r2 f2 => ?_)
  refine st 2 (N + 4) _ _ (by omega) l1 r2 f2 (fun h3 r3 f3 => ?_)
  refine st 3 (N + 3) _ _ (by omega) l2 r3 f3 (fun h4 r4 f4 => ?_)
  refine st 4 (N + 2) _ _ (by omega) l3 r4 f4 (fun h5 r5 f5 => ?_)
  refine st 5 (N + 1) _ _ (by omega) l4 r5 f5 (fun h6 r6 f6 => ?_)
  rw [X5_ringBits_c36_s]
  simp (disch := omega) only [Nat.not_lt_zero, nneg, nneg2, nlt, nle, neq, nI_add, pk_mul, nsub, ncl, nin, and_true, true_and, not_true_eq_false, not_false_eq_true, ↓reduceIte, Nat.reduceAdd, if_pos, if_neg]
  rw [ring_94 r6 l5 6 F 0 0 (by omega) (by omega), Nat.zero_or]
  have : mk6 (fun i => decide (0 ≤ i) && (wst 5 (wst 4 (wst 3 (wst 2 (wst 1 (wst 0 r))))) i).testBit i) = ringS r := by
    unfold ringS wsh
    exact mk6_cong (fun i _ => by simp)
  rw [this]
  exact kk h6 f6
theorem wfb_nil {C : CT} {o : Nat} : wfb W C [] o = 0 := rfl
theorem ringS_0 : ringS (fun _ => 0) = 0 := by decide +kernel
theorem ring_e {c F g : Nat} {C : CT} {ln : LN} {h : AH} {K : Int32 → AH → Prop} (hR : RC b n W B C ln pl g h) (hF : WF c n W B C ln pl) (hFu : 20 ≤ F)
    (kk : ∀ h', RC b n W B C ln pl g h' → fr b h h' → K (nI (ringS (wfb W C ln))) h') : P_X5_ringBits F b h K := by
  unfold P_X5_ringBits
  have hlen := WF_6 hF
  have frq : ∀ h', fq b h h' → fr b h h' := fun h' hf a ha => hf a (by omega)
  rw [hR.2.2.2.2.2.1]
  simp (disch := omega) only [Nat.not_lt_zero, nneg, nneg2, nlt, nle, neq, nI_add, pk_mul, nsub, ncl, nin, and_true, true_and, not_true_eq_false, not_false_eq_true, ↓reduceIte, Nat.reduceAdd]
  by_cases e : ln.length = 0
  · rw [if_neg (by simpa using e)]
    have : ln = [] := List.length_eq_zero_iff.mp e
    subst this
    have e2 : wfb W C ([] : LN) = fun _ => 0 := by funext o; rfl
    rw [e2, ringS_0] at kk
    exact kk h hR (fr_rf b h)
  · rw [if_pos (by simpa using e)]
    have lo : ∀ (d N o : Nat) (h1 : AH), o + d = 6 → d + 1 ≤ N → fq b h h1 → (∀ i, i < o → h1 (b + 11) i = nI (wfb W C ln i)) → X5_ringBits_c11 F b K N (nI o) h1 := by
      intro d
      induction d with
      | zero =>
        intro N o h1 h2 h3 hf hr
        obtain ⟨N, rfl⟩ : ∃ k, N = k + 1 := ⟨N - 1, by omega⟩
        have : o = 6 := by omega
        subst this
        rw [X5_ringBits_c11_s]
        simp (disch := omega) only [Nat.not_lt_zero, nneg, nneg2, nlt, nle, neq, nI_add, pk_mul, nsub, ncl, nin, and_true, true_and, not_true_eq_false, not_false_eq_true, ↓reduceIte, Nat.reduceAdd, if_pos, if_neg]
        refine ring_36 hFu (by omega) (fun o _ => wfb_lt) h1 hr (fun h' hf' => ?_)
        have hf2 : fq b h h' := fun a ha => (hf' a ha).trans (hf a ha)
        exact kk h' (RC_fq hR hf2) (frq _ hf2)
      | succ d ih =>
        intro N o h1 h2 h3 hf hr
        obtain ⟨N, rfl⟩ : ∃ k, N = k + 1 := ⟨N - 1, by omega⟩
        rw [X5_ringBits_c11_s]
        simp (disch := omega) only [Nat.not_lt_zero, nneg, nneg2, nlt, nle, neq, nI_add, pk_mul, nsub, ncl, nin, and_true, true_and, not_true_eq_false, not_false_eq_true, ↓reduceIte, Nat.reduceAdd, if_pos, if_neg]
        rw [wfb_e (RC_fq hR hf) hF hFu (by omega)]
        refine ih N (o + 1) _ (by omega) (by omega) (fun a ha => (up_ne _ _ _ _ ha).trans (hf a ha)) (fun i hi => ?_)
        by_cases ei : i = o
        · subst ei
          exact up_s _ _ _ _
        · rw [up_k ei]
          exact hr i (by omega)
    exact lo 6 F 0 h (by omega) (by omega) (fun _ _ => rfl) (fun i hi => by omega)
end CF
