/-! the reference: what changes -/
theorem ucc {h : AH} {i k : Nat} {x : Int32} {j : Nat} (e : j ≠ k) : up h i k x i j = h i j := up_k e
/-- what a step of the reference's leaves -/
def fm (h h' : AH) : Prop := (∀ a, a ≠ 57 → a ≠ 56 → h' a = h a) ∧ ∀ k, k ≠ 4 → h' 56 k = h 56 k
theorem fm_rf (h : AH) : fm h h := ⟨fun _ _ _ => rfl, fun _ _ => rfl⟩
theorem fm_tr {h h1 h2 : AH} (a : fm h h1) (c : fm h1 h2) : fm h h2 := ⟨fun i h3 h4 => (c.1 i h3 h4).trans (a.1 i h3 h4), fun k hk => (c.2 k hk).trans (a.2 k hk)⟩
theorem fm_57 {h : AH} {k : Nat} {x : Int32} : fm h (up h 57 k x) := ⟨fun a h1 _ => up_ne h 57 k x h1, fun j _ => up_c (by omega)⟩
theorem fm_56 {h : AH} {x : Int32} : fm h (up h 56 4 x) := ⟨fun a _ h1 => up_ne h 56 4 x h1, fun j hj => up_k hj⟩
def RM (n : Nat) (W B : Nat → Nat) (C : CT) (ln pl : LN) (g : Nat) (h : AH) : Prop := RG 57 n W B C ln pl h ∧ h 56 4 = nI g
section RCx
variable {n : Nat} {W B : Nat → Nat} {ln pl : LN} {g : Nat}
theorem RG_sh1 {C : CT} {h : AH} {o t k : Nat} {f : Nat → Nat} (hR : RG 57 n W B C ln pl h) (hn : n ≤ 12) (hl : ln.length ≤ 6) (hp : pl.length ≤ 12) (ht : t < n) (ho : o < 6) (hk1 : 1 ≤ k) (hk : k ≤ 5) :
    RG 57 n W B (sh1 C o t k f) ln pl (up h 57 (81 + (o * 12 + t) * 5 + k - 1) (nI (f (C t o k)))) := by
  obtain ⟨r0, rW, rB, rC, rL, rk, rP, rp⟩ := hR
  refine ⟨?_, ?_, ?_, ?_, ?_, ?_, ?_, ?_⟩
  · rw [ucc (by omega)]; exact r0
  · intro t' h'; rw [ucc (by omega)]; exact rW t' h'
  · intro t' h'; rw [ucc (by omega)]; exact rB t' h'
  · intro t' o' m' h1 h2 h3 h4
    by_cases e : t' = t ∧ o' = o ∧ m' = k
    · obtain ⟨rfl, rfl, rfl⟩ := e
      rw [up_s]
      simp [sh1]
    · rw [ucc (by omega), rC t' o' m' h1 h2 h3 h4]
      simp [sh1, e]
  · rw [ucc (by omega)]; exact rL
  · intro k' q hq
    have := (List.getElem?_eq_some_iff.mp hq).1
    rw [ucc (by omega), ucc (by omega), ucc (by omega)]; exact rk k' q hq
  · rw [ucc (by omega)]; exact rP
  · intro k' q hq
    have := (List.getElem?_eq_some_iff.mp hq).1
    rw [ucc (by omega), ucc (by omega), ucc (by omega)]; exact rp k' q hq
theorem chg_l {F o m : Nat} {by' : Int32} {f : Nat → Nat} {K : AH → Prop} (hW : ∀ t, t < n → W t ≤ t) (hn : n ≤ 12) (hl : ln.length ≤ 6) (hp : pl.length ≤ 12) (ho : o < 6) (hm : m = 2 ∨ m = 4 ∨ m = 5) : ∀ (fu N c : Nat) (C : CT) (h : AH), RG 57 n W B C ln pl h → okS by' f o (ab m) (ch W fu c) C → c ≤ fu → c ≤ n → fu + 1 ≤ N →
    (∀ h', RG 57 n W B (shL o (ab m) f (ch W fu c) C) ln pl h' → (∀ a, a ≠ 57 → h' a = h a) → K h') → X8_changes_c26 F K N (nI o) (nI m) by' (wI c) h := by
  intro fu
  induction fu with
  | zero =>
    intro N c C h hR hok hc _ hN kk
    obtain ⟨N, rfl⟩ : ∃ k, N = k + 1 := ⟨N - 1, by omega⟩
    have : c = 0 := by omega
    subst this
    rw [X8_changes_c26_s, wI_0, if_pos rfl]
    exact kk h hR (fun _ _ => rfl)
  | succ fu ih =>
    intro N c C h hR hok hc hcn hN kk
    obtain ⟨N, rfl⟩ : ∃ k, N = k + 1 := ⟨N - 1, by omega⟩
    rw [X8_changes_c26_s]
    cases c with
    | zero =>
      rw [wI_0, if_pos rfl]
      exact kk h hR (fun _ _ => rfl)
    | succ c =>
      have hab := ab_b m
      have hwc := hW c (by omega)
      have rW := hR.2.1 c (by omega)
      have rC := hR.2.2.2.1 c o (ab m) (by omega) ho hab.1 hab.2
      rw [wI_s]
      simp (disch := omega) only [Nat.not_lt_zero, nneg, nneg2, nlt, nle, neq, nI_add, pk_mul, nsub, ncl, nin, and_true, true_and, not_true_eq_false, not_false_eq_true, ↓reduceIte, Nat.reduceAdd]
      rw [above_e hm]
      simp (disch := omega) only [Nat.not_lt_zero, nneg, nneg2, nlt, nle, neq, nI_add, pk_mul, nsub, ncl, nin, and_true, true_and, not_true_eq_false, not_false_eq_true, ↓reduceIte, Nat.reduceAdd, P_X8_at, rC, hok.1.1]
      have eW : (up h 57 (81 + (o * 12 + c) * 5 + ab m - 1) (nI (f (C c o (ab m))))) 57 (1 + c) = wI (W c) := by rw [ucc (by omega)]; exact rW
      rw [eW]
      exact ih N (W c) _ _ (RG_sh1 hR hn hl hp (by omega) ho hab.1 hab.2) hok.2 (by omega) (by omega) (by omega) (fun h' hR' hf => kk h' hR' (fun a ha => (hf a ha).trans (up_ne _ _ _ _ ha)))
theorem chg_e {C : CT} {h : AH} {F o t m : Nat} {by' : Int32} {f : Nat → Nat} {K : AH → Prop} (hR : RG 57 n W B C ln pl h) (hW : ∀ t, t < n → W t ≤ t) (hn : n ≤ 12) (hl : ln.length ≤ 6) (hp : pl.length ≤ 12) (hFu : 20 ≤ F) (hv : vq n (o, t, m)) (hok : okA W C o t m by' f)
    (kk : ∀ h', RG 57 n W B (sft W C o t m f) ln pl h' → (∀ a, a ≠ 57 → h' a = h a) → K h') : P_X8_changes F (nI o) (nI t) (nI m) by' h K := by
  obtain ⟨ho, ht, hm⟩ := hv
  simp only at ho ht hm
  have hwc := hW t ht
  have rW := hR.2.1 t ht
  have rC := hR.2.2.2.1 t o m ht ho (by omega) (by omega)
  unfold P_X8_changes
  simp (disch := omega) only [Nat.not_lt_zero, nneg, nneg2, nlt, nle, neq, nI_add, pk_mul, nsub, ncl, nin, and_true, true_and, not_true_eq_false, not_false_eq_true, ↓reduceIte, Nat.reduceAdd, P_X8_at, rC, hok.1.1]
  have eW : (up h 57 (81 + (o * 12 + t) * 5 + m - 1) (nI (f (C t o m)))) 57 (1 + t) = wI (W t) := by rw [ucc (by omega)]; exact rW
  rw [eW]
  exact chg_l hW hn hl hp ho hm 12 F (W t) _ _ (RG_sh1 hR hn hl hp ht ho (by omega) (by omega)) hok.2 (by omega) (by omega) (by omega) (fun h' hR' hf => kk h' hR' (fun a ha => (hf a ha).trans (up_ne _ _ _ _ ha)))
theorem RG_57 {C : CT} {h h' : AH} (hR : RG 57 n W B C ln pl h) (e : h' 57 = h 57) : RG 57 n W B C ln pl h' := by
  unfold RG at hR ⊢
  rw [e]
  exact hR
theorem rgrant_e {C : CT} {h : AH} {F o t m : Nat} {K : AH → Prop} (hR : RM n W B C ln pl g h) (hW : ∀ t, t < n → W t ≤ t) (hn : n ≤ 12) (hl : ln.length ≤ 6) (hp : pl.length ≤ 12) (hFu : 20 ≤ F) (hv : vq n (o, t, m)) (hok : okA W C o t m (nI 1) (· + 1))
    (kk : ∀ h', RM n W B (sft W C o t m (· + 1)) ln pl (g + 1) h' → fm h h' → K h') : P_X8_grants F (nI o) (nI t) (nI m) h K := by
  unfold P_X8_grants
  refine chg_e hR.1 hW hn hl hp hFu hv hok (fun h1 hR1 hf => ?_)
  have e : h1 56 4 = nI g := by rw [hf 56 (by omega)]; exact hR.2
  simp only [e, nI_add]
  exact kk _ ⟨RG_57 hR1 (up_ne _ _ _ _ (by omega)), up_s _ _ _ _⟩ (fm_tr ⟨fun a h1 _ => hf a h1, fun k _ => by rw [hf 56 (by omega)]⟩ fm_56)
/-- the line's row moved up by one ask -/
theorem lvL_l {F : Nat} {K : AH → Prop} {h0 : AH} {L : Nat} (rL : h0 57 25 = nI L) (hL : L ≤ 6) (p : Nat) (hpL : p < L)
    (kk : ∀ h' : AH, (∀ a, a ≠ 57 → h' a = h0 a) → (∀ j, h' 57 j = if 26 + 3 * p ≤ j ∧ j < 26 + 3 * (L - 1) then h0 57 (j + 3) else if j = 25 then nI (L - 1) else h0 57 j) → K h') : ∀ (r N k : Nat) (h : AH), k + r = 3 * (L - 1) → 3 * p ≤ k → r + 1 ≤ N → (∀ a, a ≠ 57 → h a = h0 a) → (∀ j, h 57 j = if 26 + 3 * p ≤ j ∧ j < 26 + k then h0 57 (j + 3) else h0 57 j) → X8_leavesLine_c4 F K N (nI k) h := by
  intro r
  induction r with
  | zero =>
    intro N k h h1 h2 h3 hf hj
    obtain ⟨N, rfl⟩ : ∃ k, N = k + 1 := ⟨N - 1, by omega⟩
    have e25 : h 57 25 = nI L := by rw [hj 25, if_neg (by omega)]; exact rL
    rw [X8_leavesLine_c4_s]
    simp (disch := omega) only [Nat.not_lt_zero, nneg, nneg2, nlt, nle, neq, nI_add, pk_mul, nsub, ncl, nin, and_true, true_and, not_true_eq_false, not_false_eq_true, ↓reduceIte, Nat.reduceAdd, e25, if_pos, if_neg]
    refine kk _ (fun a ha => (up_ne _ _ _ _ ha).trans (hf a ha)) (fun j => ?_)
    by_cases ej : j = 25
    · subst ej
      rw [up_s, if_neg (by omega), if_pos rfl]
    · rw [up_k ej, hj j]
      by_cases e : 26 + 3 * p ≤ j ∧ j < 26 + 3 * (L - 1)
      · rw [if_pos e, if_pos (by omega)]
      · rw [if_neg e, if_neg (by omega), if_neg ej]
  | succ r ih =>
    intro N k h h1 h2 h3 hf hj
    obtain ⟨N, rfl⟩ : ∃ k, N = k + 1 := ⟨N - 1, by omega⟩
    have e25 : h 57 25 = nI L := by rw [hj 25, if_neg (by omega)]; exact rL
    have ek : h 57 (26 + k + 3) = h0 57 (26 + k + 3) := by rw [hj, if_neg (by omega)]
    rw [X8_leavesLine_c4_s]
    simp (disch := omega) only [Nat.not_lt_zero, nneg, nneg2, nlt, nle, neq, nI_add, pk_mul, nsub, ncl, nin, and_true, true_and, not_true_eq_false, not_false_eq_true, ↓reduceIte, Nat.reduceAdd, e25, if_pos, if_neg, ek]
    refine ih N (k + 1) _ (by omega) (by omega) (by omega) (fun a ha => (up_ne _ _ _ _ ha).trans (hf a ha)) (fun j => ?_)
    by_cases ej : j = 26 + k
    · subst ej
      rw [up_s, if_pos (by omega)]
    · rw [up_k ej, hj j]
      by_cases e : 26 + 3 * p ≤ j ∧ j < 26 + k
      · rw [if_pos e, if_pos (by omega)]
      · rw [if_neg e, if_neg (by omega)]
theorem lvL_e {C : CT} {h : AH} {F : Nat} {K : AH → Prop} {pre rest : LN} {q : Nat × Nat × Nat} (hR : RM n W B C ln pl g h) (hn : n ≤ 12) (hl : ln = pre ++ q :: rest) (hlen : ln.length ≤ 6) (hp : pl.length ≤ 12) (hFu : 40 ≤ F)
    (kk : ∀ h', RM n W B C (pre ++ rest) pl g h' → fm h h' → K h') : P_X8_leavesLine F (nI pre.length) h K := by
  obtain ⟨⟨r0, rW, rB, rC, rL, rk, rP, rp⟩, rg⟩ := hR
  have hlen2 : ln.length = pre.length + rest.length + 1 := by rw [hl]; simp; omega
  unfold P_X8_leavesLine
  simp (disch := omega) only [Nat.not_lt_zero, nneg, nneg2, nlt, nle, neq, nI_add, pk_mul, nsub, ncl, nin, and_true, true_and, not_true_eq_false, not_false_eq_true, ↓reduceIte, Nat.reduceAdd]
  refine lvL_l (h0 := h) (L := ln.length) rL hlen pre.length (by omega) (fun h' hf hj => ?_) (3 * (ln.length - 1) - 3 * pre.length) F (3 * pre.length) h (by omega) (by omega) (by omega) (fun _ _ => rfl) (fun j => by rw [if_neg (by omega)])
  have hg : ∀ k, h' 56 k = h 56 k := fun k => by rw [hf 56 (by omega)]
  have lo : ∀ j, j < 26 + 3 * pre.length → j ≠ 25 → h' 57 j = h 57 j := fun j h1 h2 => by rw [hj j, if_neg (by omega), if_neg h2]
  have hi : ∀ j, 44 ≤ j → h' 57 j = h 57 j := fun j h1 => by rw [hj j, if_neg (by omega), if_neg (by omega)]
  have mi : ∀ j, 26 + 3 * pre.length ≤ j → j < 26 + 3 * (ln.length - 1) → h' 57 j = h 57 (j + 3) := fun j h1 h2 => by rw [hj j, if_pos ⟨h1, h2⟩]
  refine kk h' ⟨⟨?_, ?_, ?_, ?_, ?_, ?_, ?_, ?_⟩, by rw [hg]; exact rg⟩ ⟨fun a h1 _ => hf a h1, fun k _ => hg k⟩
  · rw [lo 0 (by omega) (by omega)]; exact r0
  · intro t' ht; rw [lo _ (by omega) (by omega)]; exact rW t' ht
  · intro t' ht; rw [lo _ (by omega) (by omega)]; exact rB t' ht
  · intro t' o' m' h1 h2 h3 h4; rw [hi _ (by omega)]; exact rC t' o' m' h1 h2 h3 h4
  · rw [hj 25, if_neg (by omega), if_pos rfl]
    congr 1
    rw [hlen2]
    simp
  · intro k p hk
    have hkl := (List.getElem?_eq_some_iff.mp hk).1
    simp at hkl
    by_cases e : k < pre.length
    · rw [List.getElem?_append_left e] at hk
      have h5 : ln[k]? = some p := by rw [hl, List.getElem?_append_left e]; exact hk
      rw [lo _ (by omega) (by omega), lo _ (by omega) (by omega), lo _ (by omega) (by omega)]
      exact rk k p h5
    · rw [List.getElem?_append_right (by omega)] at hk
      have h5 : ln[k + 1]? = some p := by
        rw [hl, List.getElem?_append_right (by omega), show k + 1 - pre.length = (k - pre.length) + 1 by omega, List.getElem?_cons_succ]
        exact hk
      have h6 := rk (k + 1) p h5
      rw [mi _ (by omega) (by omega), mi _ (by omega) (by omega), mi _ (by omega) (by omega)]
      rw [show 26 + 3 * k + 3 = 26 + 3 * (k + 1) by omega, show 26 + 3 * k + 1 + 3 = 26 + 3 * (k + 1) + 1 by omega, show 26 + 3 * k + 2 + 3 = 26 + 3 * (k + 1) + 2 by omega]
      exact h6
  · rw [hi 44 (by omega)]; exact rP
  · intro k p hk
    rw [hi _ (by omega), hi _ (by omega), hi _ (by omega)]
    exact rp k p hk
theorem rm_split {pre rest : LN} {q : Nat × Nat × Nat} (hn : ((pre ++ q :: rest).map (fun q => q.1)).Nodup) : rm (pre ++ q :: rest) q.1 = pre ++ rest := by
  rw [List.map_append, List.nodup_append] at hn
  obtain ⟨h1, h2, h3⟩ := hn
  have h4 := List.nodup_cons.mp h2
  have a1 : rm pre q.1 = pre := List.filter_eq_self.mpr (fun p hp => by
    have := h3 p.1 (List.mem_map.mpr ⟨p, hp, rfl⟩) q.1 (by simp)
    simpa using this)
  have a2 : rm rest q.1 = rest := List.filter_eq_self.mpr (fun p hp => by
    have : p.1 ≠ q.1 := fun e => h4.1 (List.mem_map.mpr ⟨p, hp, e⟩)
    simpa using this)
  unfold rm at *
  rw [List.filter_append, List.filter_cons_of_neg (by simp), a1, a2]
theorem nextR_l {c F : Nat} {C : CT} {h : AH} {K : Int32 → AH → Prop} (hR : RG 57 n W B C ln pl h) (hF : WF c n W B C ln pl) (hc : c < 2000000000) (hFu : 20 ≤ F) : ∀ (rest pre : LN) (N : Nat) (fst : Option (Nat × Nat × Nat)) (x1 : Int32), ln = pre ++ rest → rest.length + 1 ≤ N → (match fst with | none => x1 = -1 | some p => ∃ j : Nat, j < ln.length ∧ ln[j]? = some p ∧ x1 = nI j) →
    (∀ r : Int32, (match nxS W C pre rest fst with | none => r = -1 | some p => ∃ j : Nat, j < ln.length ∧ ln[j]? = some p ∧ r = nI j) → K r h) → X8_nextServed_c4 F K N x1 (nI pre.length) h := by
  have hb : ∀ t o m, C t o m < 2147483648 := fun t o m => Nat.lt_of_le_of_lt (hF.2.2.2.2.1 t o m) (by omega)
  have hlen := WF_6 hF
  have rL := hR.2.2.2.2.1
  intro rest
  induction rest with
  | nil =>
    intro pre N fst x1 hl hN hfs kk
    obtain ⟨N, rfl⟩ : ∃ k, N = k + 1 := ⟨N - 1, by simp at hN; omega⟩
    have : ln.length = pre.length := by rw [hl]; simp
    rw [X8_nextServed_c4_s]
    simp (disch := omega) only [Nat.not_lt_zero, nneg, nneg2, nlt, nle, neq, nI_add, pk_mul, nsub, ncl, nin, and_true, true_and, not_true_eq_false, not_false_eq_true, ↓reduceIte, Nat.reduceAdd, if_pos, if_neg, rL]
    exact kk x1 hfs
  | cons q rest ih =>
    intro pre N fst x1 hl hN hfs kk
    obtain ⟨N, rfl⟩ : ∃ k, N = k + 1 := ⟨N - 1, by simp at hN; omega⟩
    have hlen2 : ln.length = pre.length + rest.length + 1 := by rw [hl]; simp; omega
    have hk0 : ln[pre.length]? = some q := by rw [hl]; simp
    have rq := hR.2.2.2.2.2.1 pre.length q hk0
    have hv := WF_v hF q (by rw [hl]; simp)
    have hq1 := hv.1
    have hq2 := hv.2.1
    have hN2 : rest.length + 1 ≤ N := by simp at hN; omega
    have ih2 := fun fst x1 => ih (pre ++ [q]) N fst x1 (by rw [hl]; simp) hN2
    simp only [List.length_append, List.length_cons, List.length_nil, Nat.zero_add] at ih2
    have hlt := hnd_lt W C q.1 q.2.1 q.2.2 pre
    unfold nxS at kk
    rw [X8_nextServed_c4_s]
    simp (disch := omega) only [Nat.not_lt_zero, nneg, nneg2, nlt, nle, neq, nI_add, pk_mul, nsub, ncl, nin, and_true, true_and, not_true_eq_false, not_false_eq_true, ↓reduceIte, Nat.reduceAdd, if_pos, if_neg, rL]
    refine barK_e hR hF hc hFu hl ?_
    by_cases e : hnd W C q.1 q.2.1 q.2.2 pre = 0
    · rw [if_pos e] at kk
      simp (disch := omega) only [Nat.not_lt_zero, nneg, nneg2, nlt, nle, neq, nI_add, pk_mul, nsub, ncl, nin, and_true, true_and, not_true_eq_false, not_false_eq_true, ↓reduceIte, Nat.reduceAdd, if_pos, if_neg, e, rq.1, rq.2.1]
      rw [isR_e hR hF.1 hb hq1 hq2]
      cases hr : rai C q.1 q.2.1 with
      | true =>
        rw [hr, if_pos rfl] at kk
        simp (disch := omega) only [bn, if_true, Nat.not_lt_zero, nneg, nneg2, nlt, nle, neq, nI_add, pk_mul, nsub, ncl, nin, and_true, true_and, not_true_eq_false, not_false_eq_true, ↓reduceIte, Nat.reduceAdd, if_pos, if_neg]
        exact kk _ ⟨pre.length, by omega, hk0, rfl⟩
      | false =>
        rw [hr, if_neg (by simp)] at kk
        simp (disch := omega) only [bn, Bool.false_eq_true, if_false, Nat.not_lt_zero, nneg, nneg2, nlt, nle, neq, nI_add, pk_mul, nsub, ncl, nin, and_true, true_and, not_true_eq_false, not_false_eq_true, ↓reduceIte, Nat.reduceAdd, if_pos, if_neg, X8_nextServed_c69, X8_nextServed_c70]
        cases fst with
        | none =>
          simp only at hfs kk
          subst hfs
          rw [if_neg (by simp)]
          exact ih2 (some q) (nI pre.length) ⟨pre.length, by omega, hk0, rfl⟩ kk
        | some p =>
          simp only at kk
          have hfs2 := hfs
          obtain ⟨j, hj, hjp, rfl⟩ := hfs2
          simp (disch := omega) only [Nat.not_lt_zero, nneg, nneg2, nlt, nle, neq, nI_add, pk_mul, nsub, ncl, nin, and_true, true_and, not_true_eq_false, not_false_eq_true, ↓reduceIte, Nat.reduceAdd]
          exact ih2 (some p) _ ⟨j, hj, hjp, rfl⟩ kk
    · rw [if_neg e] at kk
      simp (disch := omega) only [Nat.not_lt_zero, nneg, nneg2, nlt, nle, neq, nI_add, pk_mul, nsub, ncl, nin, and_true, true_and, not_true_eq_false, not_false_eq_true, ↓reduceIte, Nat.reduceAdd, if_pos, if_neg, X8_nextServed_c70]
      exact ih2 fst x1 hfs kk
theorem nextR_e {c F : Nat} {C : CT} {h : AH} {K : Int32 → AH → Prop} (hR : RG 57 n W B C ln pl h) (hF : WF c n W B C ln pl) (hc : c < 2000000000) (hFu : 20 ≤ F)
    (kk : ∀ r : Int32, (match nx W C ln with | none => r = -1 | some p => ∃ j : Nat, j < ln.length ∧ ln[j]? = some p ∧ r = nI j) → K r h) : P_X8_nextServed F h K := by
  have hlen := WF_6 hF
  exact nextR_l hR hF hc hFu ln [] F none (-1) rfl (by omega) rfl kk
end RCx
