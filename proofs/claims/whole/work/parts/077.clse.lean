theorem WF_up {c n : Nat} {W B : Nat → Nat} {C : CT} {ln pl : LN} {q : Nat × Nat × Nat} (h : WF c n W B C ln pl) (hv : vq n q) : WF (c + 1) n W B (sft W C q.1 q.2.1 q.2.2 (· + 1)) ln pl := by
  obtain ⟨f1, f2, f3, f4, f5, f6, f7, f8, f9, f10⟩ := h
  obtain ⟨ho, ht, hm⟩ := hv
  have hwc := f2 q.2.1 ht
  refine ⟨f1, f2, f3, fun t o m htn => ?_, fun t o m => ?_, ?_, f7, f8, f9, f10⟩
  · rw [sft_val f2 ht hm]
    have h1 : ¬ (o = q.1 ∧ ((m = ab q.2.2 ∧ t ∈ chn W q.2.1) ∨ (m = q.2.2 ∧ t = q.2.1))) := by
      rintro ⟨-, ⟨-, h⟩ | ⟨-, h⟩⟩
      · have := ch_lt W f2 12 (W q.2.1) (by omega) t h
        omega
      · omega
    rw [if_neg h1]
    exact f4 t o m htn
  · rw [sft_val f2 ht hm]
    have := f5 t o m
    split
    · show C t o m + 1 ≤ _; omega
    · omega
  · exact sft_SUM (a := 1) (b := 0) f2 f1 ht hm f6 rfl (fun _ _ => rfl)
theorem WF_dn {c n : Nat} {W B : Nat → Nat} {C : CT} {ln pl : LN} {q : Nat × Nat × Nat} (h : WF c n W B C ln pl) (hv : vq n q) (hp : 0 < C q.2.1 q.1 q.2.2) : WF c n W B (sft W C q.1 q.2.1 q.2.2 (· - 1)) ln pl := by
  obtain ⟨f1, f2, f3, f4, f5, f6, f7, f8, f9, f10⟩ := h
  obtain ⟨ho, ht, hm⟩ := hv
  refine ⟨f1, f2, f3, fun t o m htn => ?_, fun t o m => ?_, ?_, f7, f8, f9, f10⟩
  · rw [sft_val f2 ht hm]
    have := f4 t o m htn
    split
    · show C t o m - 1 = 0; omega
    · exact this
  · rw [sft_val f2 ht hm]
    have := f5 t o m
    split
    · show C t o m - 1 ≤ _; omega
    · omega
  · have hc := chn_pos ho f2 f6 ht hm hp
    exact sft_SUM (a := 0) (b := 1) f2 f1 ht hm f6 (by show C _ _ _ - 1 + 1 = _; omega) (fun w hw => by have := hc w hw; show C _ _ _ - 1 + 1 = _; omega)
def clrO (C : CT) (o : Nat) : CT := fun t o' k => if o' = o then 0 else C t o' k
theorem sumTo_0 {f : Nat → Nat} : ∀ n, (∀ p, p < n → f p = 0) → sumTo f n = 0
  | 0, _ => rfl
  | n + 1, h => by rw [sumTo, sumTo_0 n (fun p hp => h p (by omega)), h n (by omega)]
theorem WF_clr {c n : Nat} {W B : Nat → Nat} {C : CT} {ln pl : LN} {o : Nat} (h : WF c n W B C ln pl) : WF c n W B (clrO C o) ln pl := by
  obtain ⟨f1, f2, f3, f4, f5, f6, f7, f8, f9, f10⟩ := h
  refine ⟨f1, f2, f3, fun t o' m htn => ?_, fun t o' m => ?_, fun t o' ht ho' => ?_, f7, f8, f9, f10⟩
  · unfold clrO
    split
    · rfl
    · exact f4 t o' m htn
  · unfold clrO
    have := f5 t o' m
    split <;> omega
  · by_cases e : o' = o
    · subst e
      simp only [clrO, if_true]
      exact ⟨(sumTo_0 n (fun p _ => by simp)).symm, (sumTo_0 n (fun p _ => by simp)).symm⟩
    · simp only [clrO, e, if_false]
      exact f6 t o' ht ho'
theorem WF_rm {c n : Nat} {W B : Nat → Nat} {C : CT} {ln pl : LN} {o : Nat} (h : WF c n W B C ln pl) : WF c n W B C (rm ln o) pl := by
  obtain ⟨f1, f2, f3, f4, f5, f6, f7, f8, f9, f10⟩ := h
  refine ⟨f1, f2, f3, f4, f5, f6, fun q hq => f7 q (rm_mem.mp hq).1, ?_, f9, f10⟩
  exact List.Nodup.sublist (List.Sublist.map _ List.filter_sublist) f8
theorem WF_join {c n : Nat} {W B : Nat → Nat} {C : CT} {ln pl : LN} {q : Nat × Nat × Nat} (h : WF c n W B C ln pl) (hv : vq n q) (hno : ∀ p ∈ ln, p.1 ≠ q.1) : WF c n W B C (ln ++ [q]) pl := by
  obtain ⟨f1, f2, f3, f4, f5, f6, f7, f8, f9, f10⟩ := h
  refine ⟨f1, f2, f3, f4, f5, f6, fun p hp => ?_, ?_, f9, f10⟩
  · rcases List.mem_append.mp hp with h | h
    · exact f7 p h
    · simp at h
      rw [h]
      exact hv
  · rw [List.map_append, List.nodup_append]
    refine ⟨f8, by simp, fun a ha b hb => ?_⟩
    obtain ⟨p, hp, rfl⟩ := List.mem_map.mp ha
    simp at hb
    rw [hb]
    exact hno p hp
theorem WF_le {c c' n : Nat} {W B : Nat → Nat} {C : CT} {ln pl : LN} (h : WF c n W B C ln pl) (hc : c ≤ c') : WF c' n W B C ln pl := by
  obtain ⟨f1, f2, f3, f4, f5, f6, f7, f8, f9, f10⟩ := h
  exact ⟨f1, f2, f3, f4, fun t o m => Nat.le_trans (f5 t o m) hc, f6, f7, f8, f9, f10⟩
theorem WF_6 {c n : Nat} {W B : Nat → Nat} {C : CT} {ln pl : LN} (h : WF c n W B C ln pl) : ln.length ≤ 6 := WF_len h.2.2.2.2.2.2.1 h.2.2.2.2.2.2.2.1
theorem WF_v {c n : Nat} {W B : Nat → Nat} {C : CT} {ln pl : LN} (h : WF c n W B C ln pl) : ∀ q, q ∈ ln → vq n q := h.2.2.2.2.2.2.1
theorem rm_len : ∀ {ln : LN} {q : Nat × Nat × Nat}, q ∈ ln → (rm ln q.1).length < ln.length
  | [], q, h => by simp at h
  | p :: l, q, h => by
    by_cases e : p.1 = q.1
    · have h1 : (rm l q.1).length ≤ l.length := List.length_filter_le _ _
      have h2 : rm (p :: l) q.1 = rm l q.1 := by simp [rm, e]
      rw [h2]
      simp
      omega
    · rcases List.mem_cons.mp h with rfl | h
      · exact absurd rfl e
      · have h1 := rm_len h
        have h2 : rm (p :: l) q.1 = p :: rm l q.1 := by simp [rm, e]
        rw [h2]
        simp
        omega
/-- serving -/
def svS (W : Nat → Nat) : Nat → CT → LN → Nat → CT × LN × Nat
  | 0, C, ln, k => (C, ln, k)
  | f + 1, C, ln, k => match nx W C ln with
    | none => (C, ln, k)
    | some q => svS W f (sft W C q.1 q.2.1 q.2.2 (· + 1)) (rm ln q.1) (k + 1)
def sv (W : Nat → Nat) (C : CT) (ln : LN) : CT × LN × Nat := svS W 6 C ln 0
theorem svS_WF {n : Nat} {W B : Nat → Nat} {pl : LN} : ∀ (f c : Nat) (C : CT) (ln : LN) (k : Nat), WF c n W B C ln pl → WF (c + f) n W B (svS W f C ln k).1 (svS W f C ln k).2.1 pl ∧ (svS W f C ln k).2.2 ≤ k + f
  | 0, c, C, ln, k, h => ⟨h, Nat.le_refl _⟩
  | f + 1, c, C, ln, k, h => by
    unfold svS
    cases e : nx W C ln with
    | none => exact ⟨WF_le h (by omega), by simp⟩
    | some q =>
      have hq := nx_mem e
      have := svS_WF f (c + 1) _ _ (k + 1) (WF_rm (o := q.1) (WF_up h (WF_v h q hq)))
      simp only
      exact ⟨WF_le this.1 (by omega), by omega⟩
theorem sv_WF {n c : Nat} {W B : Nat → Nat} {C : CT} {ln pl : LN} (h : WF c n W B C ln pl) : WF (c + 6) n W B (sv W C ln).1 (sv W C ln).2.1 pl := (svS_WF 6 c C ln 0 h).1
section CE
variable {b n : Nat} {W B : Nat → Nat} {pl : LN}
theorem serve_l {F : Nat} {K : Int32 → AH → Prop} (hFu : 20 ≤ F) : ∀ (f c N k g : Nat) (C : CT) (ln : LN) (h : AH), f ≤ 6 → k + f = 6 → f + 1 ≤ N → c + f < 2000000000 → RC b n W B C ln pl g h → WF c n W B C ln pl →
    (∀ h', RC b n W B (svS W f C ln k).1 (svS W f C ln k).2.1 pl (g + (svS W f C ln k).2.2 - k) h' → fr b h h' → K (nI (svS W f C ln k).2.2) h') → X5_serve_c4 F b K N (nI k) (nI k) h := by
  intro f
  induction f with
  | zero =>
    intro c N k g C ln h h1 h2 h3 h4 hR hF kk
    obtain ⟨N, rfl⟩ : ∃ k, N = k + 1 := ⟨N - 1, by omega⟩
    rw [X5_serve_c4_s]
    simp (disch := omega) only [Nat.not_lt_zero, nneg, nneg2, nlt, nle, neq, nI_add, pk_mul, nsub, ncl, nin, and_true, true_and, not_true_eq_false, not_false_eq_true, ↓reduceIte, Nat.reduceAdd, if_pos, if_neg]
    exact kk h (by simpa [svS] using hR) (fr_rf b h)
  | succ f ih =>
    intro c N k g C ln h h1 h2 h3 h4 hR hF kk
    obtain ⟨N, rfl⟩ : ∃ k, N = k + 1 := ⟨N - 1, by omega⟩
    rw [X5_serve_c4_s]
    simp (disch := omega) only [Nat.not_lt_zero, nneg, nneg2, nlt, nle, neq, nI_add, pk_mul, nsub, ncl, nin, and_true, true_and, not_true_eq_false, not_false_eq_true, ↓reduceIte, Nat.reduceAdd, if_pos, if_neg]
    rw [next_e hR hF hFu]
    unfold svS at kk
    cases e : nx W C ln with
    | none =>
      simp only [e] at kk ⊢
      rw [if_neg (by decide)]
      exact kk h (by simpa using hR) (fr_rf b h)
    | some q =>
      simp only [e] at kk ⊢
      have hq := nx_mem e
      have hv := WF_v hF q hq
      have ra := hR.2.2.2.2.2.2.2.1 q hq
      have hq1 := hv.1
      simp (disch := omega) only [Nat.not_lt_zero, nneg, nneg2, nlt, nle, neq, nI_add, pk_mul, nsub, ncl, nin, and_true, true_and, not_true_eq_false, not_false_eq_true, ↓reduceIte, Nat.reduceAdd, if_pos, ra.1, ra.2]
      refine grant_e (o := q.1) (t := q.2.1) (m := q.2.2) hR hF.2.1 hF.1 hFu hv (okA_up hF.2.1 hF.2.2.2.2.1 (by omega) hv.2.1 hv.2.2) (fun h1 hR1 hf1 => ?_)
      refine quit_e hR1 (fun p hp => (WF_v hF p hp).1) (WF_6 hF) hq1 hFu (fun h2 hR2 hf2 => ?_)
      refine ih (c + 1) N (k + 1) (g + 1) _ _ h2 (by omega) (by omega) (by omega) (by omega) hR2 (WF_rm (WF_up hF hv)) (fun h3 hR3 hf3 => kk h3 ?_ (fr_tr hf1 (fr_tr hf2 hf3)))
      rw [show g + (svS W f (sft W C q.1 q.2.1 q.2.2 (· + 1)) (rm ln q.1) (k + 1)).2.2 - k = g + 1 + (svS W f (sft W C q.1 q.2.1 q.2.2 (· + 1)) (rm ln q.1) (k + 1)).2.2 - (k + 1) by omega]
      exact hR3
theorem serve_e {c F g : Nat} {C : CT} {ln : LN} {h : AH} {K : Int32 → AH → Prop} (hR : RC b n W B C ln pl g h) (hF : WF c n W B C ln pl) (hFu : 20 ≤ F) (hc : c < 1900000000)
    (kk : ∀ h', RC b n W B (sv W C ln).1 (sv W C ln).2.1 pl (g + (sv W C ln).2.2) h' → fr b h h' → K (nI (sv W C ln).2.2) h') : P_X5_serve F b h K := by
  exact serve_l hFu 6 c F 0 g C ln h (by omega) (by omega) (by omega) (by omega) hR hF kk
/-- what an ask does -/
def inL (ln : LN) (o : Nat) : Bool := ln.any (fun p => p.1 == o)
theorem inL_f {ln : LN} {o : Nat} (h : inL ln o = false) : ∀ q ∈ ln, q.1 ≠ o := by
  intro q hq e
  have := List.any_eq_false.mp h q hq
  simp [e] at this
theorem inL_t {ln : LN} {o : Nat} (h : inL ln o = true) : ∃ q, q ∈ ln ∧ q.1 = o := by
  obtain ⟨q, h1, h2⟩ := List.any_eq_true.mp h
  exact ⟨q, h1, by simpa using h2⟩
def rqS (W : Nat → Nat) (C : CT) (ln : LN) (q : Nat × Nat × Nat) : Int32 × CT × LN × Nat :=
  if inL ln q.1 = true then (-5, C, ln, 0) else if hnd W C q.1 q.2.1 q.2.2 ln = 0 then (nI 1, sft W C q.1 q.2.1 q.2.2 (· + 1), ln, 1)
  else if rai C q.1 q.2.1 = true ∧ anyR C ln q.2.1 = true then (-2, C, ln, 0) else (nI 0, C, ln ++ [q], 0)
theorem rqS_WF {c : Nat} {C : CT} {ln : LN} {q : Nat × Nat × Nat} (h : WF c n W B C ln pl) (hv : vq n q) : WF (c + 1) n W B (rqS W C ln q).2.1 (rqS W C ln q).2.2.1 pl := by
  unfold rqS
  cases e : inL ln q.1 with
  | true => simpa using WF_le h (by omega)
  | false =>
    simp only [Bool.false_eq_true, if_false]
    split
    · exact WF_up h hv
    · split
      · exact WF_le h (by omega)
      · exact WF_le (WF_join h hv (inL_f e)) (by omega)
theorem request_v {c F g : Nat} {C : CT} {ln : LN} {h : AH} {K : Int32 → AH → Prop} {q : Nat × Nat × Nat} (hR : RC b n W B C ln pl g h) (hF : WF c n W B C ln pl) (hFu : 20 ≤ F) (hc : c < 1900000000) (hv : vq n q)
    (kk : ∀ h', RC b n W B (rqS W C ln q).2.1 (rqS W C ln q).2.2.1 pl (g + (rqS W C ln q).2.2.2) h' → fr b h h' → K (rqS W C ln q).1 h') : P_X5_request F b (nI q.1) (nI q.2.1) (nI q.2.2) h K := by
  unfold P_X5_request
  rw [isAsk_y hR.1 hF.1 (isA_vq hv)]
  simp (disch := omega) only [Nat.not_lt_zero, nneg, nneg2, nlt, nle, neq, nI_add, pk_mul, nsub, ncl, nin, and_true, true_and, not_true_eq_false, not_false_eq_true, ↓reduceIte, Nat.reduceAdd, if_pos, if_neg]
  unfold rqS at kk
  cases e : inL ln q.1 with
  | true =>
    obtain ⟨p, hp1, hp2⟩ := inL_t e
    rw [← hp2, waiting_y hR (WF_v hF p hp1) hp1]
    simp (disch := omega) only [Nat.not_lt_zero, nneg, nneg2, nlt, nle, neq, nI_add, pk_mul, nsub, ncl, nin, and_true, true_and, not_true_eq_false, not_false_eq_true, ↓reduceIte, Nat.reduceAdd, if_pos, if_neg]
    simp only [e, if_true] at kk
    exact kk h hR (fr_rf b h)
  | false =>
    have hno := inL_f e
    rw [waiting_n hR hv.1 hno]
    simp only [e, Bool.false_eq_true, if_false] at kk
    simp (disch := omega) only [Nat.not_lt_zero, nneg, nneg2, nlt, nle, neq, nI_add, pk_mul, nsub, ncl, nin, and_true, true_and, not_true_eq_false, not_false_eq_true, ↓reduceIte, Nat.reduceAdd, if_pos, if_neg]
    rw [hind_e (o := q.1) (t := q.2.1) (m := q.2.2) hR hF hFu hv, tw_all hno]
    have hlt := hnd_lt W C q.1 q.2.1 q.2.2 ln
    have hq2 := hv.2.1
    have hn12 := hF.1
    by_cases e1 : hnd W C q.1 q.2.1 q.2.2 ln = 0
    · simp (disch := omega) only [e1, Nat.not_lt_zero, nneg, nneg2, nlt, nle, neq, nI_add, pk_mul, nsub, ncl, nin, and_true, true_and, not_true_eq_false, not_false_eq_true, ↓reduceIte, Nat.reduceAdd, if_true, if_pos, if_neg] at kk ⊢
      exact grant_e (o := q.1) (t := q.2.1) (m := q.2.2) hR hF.2.1 hF.1 hFu hv (okA_up hF.2.1 hF.2.2.2.2.1 (by omega) hv.2.1 hv.2.2) kk
    · simp (disch := omega) only [e1, Nat.not_lt_zero, nneg, nneg2, nlt, nle, neq, nI_add, pk_mul, nsub, ncl, nin, and_true, true_and, not_true_eq_false, not_false_eq_true, ↓reduceIte, Nat.reduceAdd, if_false, if_pos, if_neg] at kk ⊢
      rw [isRaise_e hR hv.1 (by omega)]
      have hl6 : ln.length < 6 := by
        have := WF_6 (WF_join hF hv hno)
        simp at this
        omega
      have join : (∀ h', RC b n W B C (ln ++ [q]) pl g h' → fr b h h' → K (nI 0) h') → X5_request_c62 F b K (nI q.1) (nI q.2.1) (nI q.2.2) h := fun kk => join_e (o := q.1) (t := q.2.1) (m := q.2.2) hR hv hF.1 hl6 hno kk
      cases hr : rai C q.1 q.2.1 with
      | false =>
        simp (disch := omega) only [hr, Bool.false_eq_true, false_and, if_false, Nat.not_lt_zero, nneg, nneg2, nlt, nle, neq, nI_add, pk_mul, nsub, ncl, nin, and_true, true_and, not_true_eq_false, not_false_eq_true, ↓reduceIte, Nat.reduceAdd, if_pos, if_neg] at kk ⊢
        exact join kk
      | true =>
        simp (disch := omega) only [hr, true_and, if_true, Nat.not_lt_zero, nneg, nneg2, nlt, nle, neq, nI_add, pk_mul, nsub, ncl, nin, and_true, true_and, not_true_eq_false, not_false_eq_true, ↓reduceIte, Nat.reduceAdd, if_pos, if_neg] at kk ⊢
        rw [raiseW_e hR hF hFu hq2]
        cases hw : anyR C ln q.2.1 with
        | false =>
          simp (disch := omega) only [hw, Bool.false_eq_true, if_false, Nat.not_lt_zero, nneg, nneg2, nlt, nle, neq, nI_add, pk_mul, nsub, ncl, nin, and_true, true_and, not_true_eq_false, not_false_eq_true, ↓reduceIte, Nat.reduceAdd, if_pos, if_neg] at kk ⊢
          exact join kk
        | true =>
          simp (disch := omega) only [hw, if_true, Nat.not_lt_zero, nneg, nneg2, nlt, nle, neq, nI_add, pk_mul, nsub, ncl, nin, and_true, true_and, not_true_eq_false, not_false_eq_true, ↓reduceIte, Nat.reduceAdd, if_pos, if_neg] at kk ⊢
          exact kk h hR (fr_rf b h)
theorem request_n {F g c : Nat} {C : CT} {ln : LN} {h : AH} {K : Int32 → AH → Prop} {x y z : Int32} (hR : RC b n W B C ln pl g h) (hF : WF c n W B C ln pl) (hx : ¬ isA n x y z) : P_X5_request F b x y z h K = K (-1) h := by
  unfold P_X5_request
  rw [isAsk_n hR.1 hF.1 hx]
  simp (disch := omega) only [Nat.not_lt_zero, nneg, nneg2, nlt, nle, neq, nI_add, pk_mul, nsub, ncl, nin, and_true, true_and, not_true_eq_false, not_false_eq_true, ↓reduceIte, Nat.reduceAdd, if_pos, if_neg]
def gvS (W : Nat → Nat) (C : CT) (ln : LN) (q : Nat × Nat × Nat) : Int32 × CT × LN × Nat :=
  if C q.2.1 q.1 q.2.2 = 0 then (-5, C, ln, 0) else (nI (sv W (sft W C q.1 q.2.1 q.2.2 (· - 1)) ln).2.2, (sv W (sft W C q.1 q.2.1 q.2.2 (· - 1)) ln).1, (sv W (sft W C q.1 q.2.1 q.2.2 (· - 1)) ln).2.1, (sv W (sft W C q.1 q.2.1 q.2.2 (· - 1)) ln).2.2)
theorem gvS_WF {c : Nat} {C : CT} {ln : LN} {q : Nat × Nat × Nat} (h : WF c n W B C ln pl) (hv : vq n q) : WF (c + 6) n W B (gvS W C ln q).2.1 (gvS W C ln q).2.2.1 pl := by
  unfold gvS
  split
  · exact WF_le h (by omega)
  · exact sv_WF (WF_dn h hv (by omega))
theorem giveUp_v {c F g : Nat} {C : CT} {ln : LN} {h : AH} {K : Int32 → AH → Prop} {q : Nat × Nat × Nat} (hR : RC b n W B C ln pl g h) (hF : WF c n W B C ln pl) (hFu : 20 ≤ F) (hc : c < 1900000000) (hv : vq n q)
    (kk : ∀ h', RC b n W B (gvS W C ln q).2.1 (gvS W C ln q).2.2.1 pl (g + (gvS W C ln q).2.2.2) h' → fr b h h' → K (gvS W C ln q).1 h') : P_X5_giveUp F b (nI q.1) (nI q.2.1) (nI q.2.2) h K := by
  unfold P_X5_giveUp
  rw [isAsk_y hR.1 hF.1 (isA_vq hv)]
  have hq1 := hv.1
  have hq2 := hv.2.1
  have hq3 := hv.2.2
  have hn12 := hF.1
  have rC := hR.2.2.2.1
  have hb := hF.2.2.2.2.1 q.2.1 q.1 q.2.2
  simp (disch := omega) only [Nat.not_lt_zero, nneg, nneg2, nlt, nle, neq, nI_add, pk_mul, nsub, ncl, nin, and_true, true_and, not_true_eq_false, not_false_eq_true, ↓reduceIte, Nat.reduceAdd, if_pos, if_neg, P_X5_cell, rC]
  unfold gvS at kk
  by_cases e : C q.2.1 q.1 q.2.2 = 0
  · simp only [e, if_true, not_true_eq_false, if_false] at kk ⊢
    exact kk h hR (fr_rf b h)
  · simp only [e, if_false, not_false_eq_true, if_true] at kk ⊢
    refine shiftC_e (o := q.1) (t := q.2.1) (m := q.2.2) hR hF.2.1 hF.1 hFu hv (okA_dn hF.2.1 hF.2.2.2.2.1 (by omega) hq1 hq2 hq3 hF.2.2.2.2.2.1 (by omega)) (fun h1 hR1 hf1 => ?_)
    exact serve_e hR1 (WF_dn hF hv (by omega)) hFu hc (fun h2 hR2 hf2 => kk h2 hR2 (fr_tr hf1 hf2))
theorem giveUp_n {F g c : Nat} {C : CT} {ln : LN} {h : AH} {K : Int32 → AH → Prop} {x y z : Int32} (hR : RC b n W B C ln pl g h) (hF : WF c n W B C ln pl) (hx : ¬ isA n x y z) : P_X5_giveUp F b x y z h K = K (-1) h := by
  unfold P_X5_giveUp
  rw [isAsk_n hR.1 hF.1 hx]
  simp (disch := omega) only [Nat.not_lt_zero, nneg, nneg2, nlt, nle, neq, nI_add, pk_mul, nsub, ncl, nin, and_true, true_and, not_true_eq_false, not_false_eq_true, ↓reduceIte, Nat.reduceAdd, if_pos, if_neg]
end CE
