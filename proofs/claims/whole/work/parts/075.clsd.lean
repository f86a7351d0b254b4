/-! the class's line: joining, quitting; who is served next -/
def rm (ln : LN) (o : Nat) : LN := ln.filter (fun q => q.1 != o)
def nxS (W : Nat → Nat) (C : CT) : LN → LN → Option (Nat × Nat × Nat) → Option (Nat × Nat × Nat)
  | _, [], fst => fst
  | pre, q :: r, fst => if hnd W C q.1 q.2.1 q.2.2 pre = 0 then (if rai C q.1 q.2.1 = true then some q else nxS W C (pre ++ [q]) r (match fst with | none => some q | s => s)) else nxS W C (pre ++ [q]) r fst
def nx (W : Nat → Nat) (C : CT) (ln : LN) : Option (Nat × Nat × Nat) := nxS W C [] ln none
theorem tw_pre {pre rest : LN} {q : Nat × Nat × Nat} (hn : ((pre ++ q :: rest).map (fun q => q.1)).Nodup) : (pre ++ q :: rest).takeWhile (fun p => p.1 != q.1) = pre := by
  have h1 : ∀ p ∈ pre, (p.1 != q.1) = true := by
    intro p hp
    rw [List.map_append, List.nodup_append] at hn
    have := hn.2.2 p.1 (List.mem_map.mpr ⟨p, hp, rfl⟩) q.1 (by simp)
    simpa using this
  rw [List.takeWhile_append_of_pos h1]
  simp
theorem tw_all {ln : LN} {o : Nat} (h : ∀ q ∈ ln, q.1 ≠ o) : ln.takeWhile (fun p => p.1 != o) = ln := by
  have := List.takeWhile_append_of_pos (p := fun p : Nat × Nat × Nat => p.1 != o) (l₁ := ln) (l₂ := []) (fun p hp => by simpa using h p hp)
  simpa using this
section CD
variable {b n : Nat} {W B : Nat → Nat} {C : CT} {ln pl : LN} {g : Nat} {h : AH}
theorem next_l {c F : Nat} {K : Int32 → AH → Prop} (hR : RC b n W B C ln pl g h) (hF : WF c n W B C ln pl) (hFu : 20 ≤ F) : ∀ (rest pre : LN) (N : Nat) (fst : Option (Nat × Nat × Nat)), ln = pre ++ rest → rest.length + 1 ≤ N → (∀ q, fst = some q → q.1 < 6) →
    X5_nextToServe_c4 F b K N (match fst with | none => -1 | some q => nI q.1) (nI pre.length) h = K (match nxS W C pre rest fst with | none => -1 | some q => nI q.1) h := by
  have hR0 := hR
  have hF0 := hF
  obtain ⟨-, -, -, -, -, rL, rk, ra, -, -⟩ := hR
  obtain ⟨f1, f2, -, -, -, -, f7, f8, -, -⟩ := hF
  have hlen := WF_len f7 f8
  intro rest
  induction rest with
  | nil =>
    intro pre N fst hl hN hfs
    obtain ⟨N, rfl⟩ : ∃ k, N = k + 1 := ⟨N - 1, by simp at hN; omega⟩
    rw [X5_nextToServe_c4_s, rL]
    have : ln.length = pre.length := by rw [hl]; simp
    simp (disch := omega) only [Nat.not_lt_zero, nneg, nneg2, nlt, nle, neq, nI_add, pk_mul, nsub, ncl, nin, and_true, true_and, not_true_eq_false, not_false_eq_true, ↓reduceIte, Nat.reduceAdd, if_neg, if_pos, nxS]
  | cons q rest ih =>
    intro pre N fst hl hN hfs
    obtain ⟨N, rfl⟩ : ∃ k, N = k + 1 := ⟨N - 1, by simp at hN; omega⟩
    have hlen2 : ln.length = pre.length + rest.length + 1 := by rw [hl]; simp; omega
    have hk : ln[pre.length]? = some q := by rw [hl]; simp
    have hq : q ∈ ln := by rw [hl]; simp
    have hv := f7 q hq
    have hq1 := hv.1
    have hq2 := hv.2.1
    have hq3 := hv.2.2
    have hN2 : rest.length + 1 ≤ N := by simp at hN; omega
    have ih2 := fun fst hf => ih (pre ++ [q]) N fst (by rw [hl]; simp) hN2 hf
    simp only [List.length_append, List.length_cons, List.length_nil, Nat.zero_add] at ih2
    have htw : ln.takeWhile (fun p => p.1 != q.1) = pre := by rw [hl]; exact tw_pre (by rw [← hl]; exact f8)
    rw [X5_nextToServe_c4_s, rL]
    have hlt := hnd_lt W C q.1 q.2.1 q.2.2 pre
    simp (disch := omega) only [Nat.not_lt_zero, nneg, nneg2, nlt, nle, neq, nI_add, pk_mul, nsub, ncl, nin, and_true, true_and, not_true_eq_false, not_false_eq_true, ↓reduceIte, Nat.reduceAdd, if_neg, if_pos, rk _ q hk, (ra q hq).1, (ra q hq).2, X5_nextToServe_c64]
    rw [hind_e (o := q.1) (t := q.2.1) (m := q.2.2) hR0 hF0 hFu hv, htw]
    simp (disch := omega) only [Nat.not_lt_zero, nneg, nneg2, nlt, nle, neq, nI_add, pk_mul, nsub, ncl, nin, and_true, true_and, not_true_eq_false, not_false_eq_true, ↓reduceIte, Nat.reduceAdd, (ra q hq).1]
    unfold nxS
    by_cases e : hnd W C q.1 q.2.1 q.2.2 pre = 0
    · rw [if_pos e, if_pos e, isRaise_e hR0 hq1 (by omega)]
      cases hr : rai C q.1 q.2.1 with
      | true => simp (disch := omega) only [if_true, Nat.not_lt_zero, nneg, nneg2, nlt, nle, neq, nI_add, pk_mul, nsub, ncl, nin, and_true, true_and, not_true_eq_false, not_false_eq_true, ↓reduceIte, Nat.reduceAdd, if_neg, if_pos]
      | false =>
        simp (disch := omega) only [Bool.false_eq_true, if_false, Nat.not_lt_zero, nneg, nneg2, nlt, nle, neq, nI_add, pk_mul, nsub, ncl, nin, and_true, true_and, not_true_eq_false, not_false_eq_true, ↓reduceIte, Nat.reduceAdd, if_neg, if_pos]
        cases fst with
        | none =>
          simp only
          rw [if_neg (by decide)]
          have := ih2 (some q) (fun p hp => by cases hp; exact hq1)
          simp only at this
          exact this
        | some p =>
          have hp := hfs p rfl
          simp only
          simp (disch := omega) only [Nat.not_lt_zero, nneg, nneg2, nlt, nle, neq, nI_add, pk_mul, nsub, ncl, nin, and_true, true_and, not_true_eq_false, not_false_eq_true, ↓reduceIte, Nat.reduceAdd, if_pos]
          have := ih2 (some p) hfs
          simp only at this
          exact this
    · rw [if_neg e, if_neg e]
      exact ih2 fst hfs
theorem next_e {c F : Nat} {K : Int32 → AH → Prop} (hR : RC b n W B C ln pl g h) (hF : WF c n W B C ln pl) (hFu : 20 ≤ F) :
    P_X5_nextToServe F b h K = K (match nx W C ln with | none => -1 | some q => nI q.1) h := by
  have hlen := WF_len hF.2.2.2.2.2.2.1 hF.2.2.2.2.2.2.2.1
  exact next_l hR hF hFu ln [] F none rfl (by omega) (fun q hq => by cases hq)
theorem nxS_mem (W : Nat → Nat) (C : CT) : ∀ (rest pre : LN) (fst : Option (Nat × Nat × Nat)) (q : Nat × Nat × Nat), nxS W C pre rest fst = some q → q ∈ rest ∨ fst = some q
  | [], pre, fst, q, h => Or.inr h
  | p :: r, pre, fst, q, h => by
    unfold nxS at h
    split at h
    · split at h
      · cases h
        exact Or.inl List.mem_cons_self
      · rcases nxS_mem W C r _ _ q h with h | h
        · exact Or.inl (List.mem_cons_of_mem _ h)
        · cases fst with
          | none =>
            cases h
            exact Or.inl List.mem_cons_self
          | some s => exact Or.inr h
    · rcases nxS_mem W C r _ _ q h with h | h
      · exact Or.inl (List.mem_cons_of_mem _ h)
      · exact Or.inr h
theorem nx_mem {q : Nat × Nat × Nat} (h : nx W C ln = some q) : q ∈ ln := by
  rcases nxS_mem W C ln [] none q h with h | h
  · exact h
  · cases h
theorem join_e {F o t m : Nat} {K : AH → Prop} (hR : RC b n W B C ln pl g h) (hv : vq n (o, t, m)) (hn : n ≤ 12) (hlen : ln.length < 6) (hno : ∀ q ∈ ln, q.1 ≠ o)
    (kk : ∀ h', RC b n W B C (ln ++ [(o, t, m)]) pl g h' → fr b h h' → K h') : P_X5_joinLine F b (nI o) (nI t) (nI m) h K := by
  obtain ⟨r0, rW, rB, rC, rH, rL, rk, ra, rz, rP, rp, rg⟩ := hR
  obtain ⟨ho, ht, hm⟩ := hv
  simp only at ho ht hm
  unfold P_X5_joinLine
  have e1 : ∀ x y z, (up (up (up h (b + 5) ln.length x) (b + 6) o y) (b + 7) o z) b 5 = nI ln.length := fun x y z => by rw [up_c (by omega), up_c (by omega), up_c (by omega)]; exact rL
  simp (disch := omega) only [rL, Nat.not_lt_zero, nneg, nneg2, nlt, nle, neq, nI_add, pk_mul, nsub, ncl, nin, and_true, true_and, not_true_eq_false, not_false_eq_true, ↓reduceIte, Nat.reduceAdd, if_pos, if_neg, e1]
  refine kk _ ⟨?_, ?_, ?_, ?_, ?_, ?_, ?_, ?_, ?_, ?_, ?_, ?_⟩ (fr_tr (fr_tr (fr_tr (fr_up (by omega) (by omega)) (fr_up (by omega) (by omega))) (fr_up (by omega) (by omega))) (fr_up (by omega) (by omega)))
  · rw [up_k (by omega), up_c (by omega), up_c (by omega), up_c (by omega)]; exact r0
  · intro t' h'; rw [up_c (by omega), up_c (by omega), up_c (by omega), up_c (by omega)]; exact rW t' h'
  · intro t' h'; rw [up_c (by omega), up_c (by omega), up_c (by omega), up_c (by omega)]; exact rB t' h'
  · intro t' o' m' h1 h2 h3 h4; rw [up_c (by omega), up_c (by omega), up_c (by omega), up_c (by omega)]; exact rC t' o' m' h1 h2 h3 h4
  · intro t' m' h1 h3 h4; rw [up_c (by omega), up_c (by omega), up_c (by omega), up_c (by omega)]; exact rH t' m' h1 h3 h4
  · rw [up_s]; simp
  · intro k q hq
    rw [up_c (by omega), up_c (by omega), up_c (by omega)]
    by_cases e : k < ln.length
    · rw [List.getElem?_append_left e] at hq
      rw [up_k (by omega)]
      exact rk k q hq
    · have hk2 : k < ln.length + 1 := by simpa using (List.getElem?_eq_some_iff.mp hq).1
      have : k = ln.length := by omega
      subst this
      rw [up_s]
      simp at hq
      rw [← hq]
  · intro q hq
    rw [up_c (by omega), up_c (by omega), up_c (a := b + 7) (by omega)]
    rcases List.mem_append.mp hq with h1 | h1
    · have hne := hno q h1
      rw [up_k hne, up_c (by omega), up_k hne, up_c (by omega), up_c (by omega)]
      exact ra q h1
    · simp at h1
      rw [h1]
      exact ⟨up_s _ _ _ _, up_s _ _ _ _⟩
  · intro o' h1 h2
    rw [up_c (by omega)]
    have h3 : o' ≠ o := fun e => h2 (o, t, m) (by simp) e.symm
    rw [up_k h3, up_c (by omega), up_c (by omega)]
    exact rz o' h1 (fun q hq => h2 q (by simp [hq]))
  · rw [up_k (by omega), up_c (by omega), up_c (by omega), up_c (by omega)]; exact rP
  · intro k' q hq
    simp only [up_c (show b + 8 ≠ b by omega), up_c (show b + 9 ≠ b by omega), up_c (show b + 10 ≠ b by omega), up_c (show b + 8 ≠ b + 7 by omega), up_c (show b + 9 ≠ b + 7 by omega), up_c (show b + 10 ≠ b + 7 by omega), up_c (show b + 8 ≠ b + 6 by omega), up_c (show b + 9 ≠ b + 6 by omega), up_c (show b + 10 ≠ b + 6 by omega), up_c (show b + 8 ≠ b + 5 by omega), up_c (show b + 9 ≠ b + 5 by omega), up_c (show b + 10 ≠ b + 5 by omega)]
    exact rp k' q hq
  · rw [up_k (by omega), up_c (by omega), up_c (by omega), up_c (by omega)]; exact rg
theorem quit_l {F o : Nat} {K : AH → Prop} {h0 : AH} (rL : h0 b 5 = nI ln.length) (hL : ∀ q, q ∈ ln → q.1 < 6) (hlen : ln.length ≤ 6) (ho : o < 6)
    (kk : ∀ h1 : AH, (∀ a, a ≠ b + 5 → h1 a = h0 a) → (∀ (j : Nat) (q : Nat × Nat × Nat), (rm ln o)[j]? = some q → h1 (b + 5) j = nI q.1) → K (up (up h1 b 5 (nI (rm ln o).length)) (b + 7) o (nI 0))) : ∀ (rest pre : LN) (N : Nat) (h : AH), ln = pre ++ rest → rest.length + 1 ≤ N → (∀ a, a ≠ b + 5 → h a = h0 a) →
    (∀ (j : Nat) (q : Nat × Nat × Nat), (rm pre o)[j]? = some q → h (b + 5) j = nI q.1) → (∀ (j : Nat) (q : Nat × Nat × Nat), pre.length ≤ j → ln[j]? = some q → h (b + 5) j = nI q.1) →
    X5_quitLine_c4 F b K N (nI o) (nI (rm pre o).length) (nI pre.length) h := by
  intro rest
  induction rest with
  | nil =>
    intro pre N h hl hN i1 i2 i3
    obtain ⟨N, rfl⟩ : ∃ k, N = k + 1 := ⟨N - 1, by simp at hN; omega⟩
    have e5 : h b 5 = nI ln.length := by rw [i1 b (by omega)]; exact rL
    rw [X5_quitLine_c4_s, e5]
    have e : ln = pre := by rw [hl]; simp
    subst e
    simp (disch := omega) only [Nat.not_lt_zero, nneg, nneg2, nlt, nle, neq, nI_add, pk_mul, nsub, ncl, nin, and_true, true_and, not_true_eq_false, not_false_eq_true, ↓reduceIte, Nat.reduceAdd, if_neg, if_pos]
    exact kk h i1 i2
  | cons q rest ih =>
    intro pre N h hl hN i1 i2 i3
    obtain ⟨N, rfl⟩ : ∃ k, N = k + 1 := ⟨N - 1, by simp at hN; omega⟩
    have e5 : h b 5 = nI ln.length := by rw [i1 b (by omega)]; exact rL
    have hlen2 : ln.length = pre.length + rest.length + 1 := by rw [hl]; simp; omega
    have hk : ln[pre.length]? = some q := by rw [hl]; simp
    have hq1 := hL q (by rw [hl]; simp)
    have hN2 : rest.length + 1 ≤ N := by simp at hN; omega
    have hle : (rm pre o).length ≤ pre.length := List.length_filter_le _ _
    rw [X5_quitLine_c4_s, e5]
    simp (disch := omega) only [Nat.not_lt_zero, nneg, nneg2, nlt, nle, neq, nI_add, pk_mul, nsub, ncl, nin, and_true, true_and, not_true_eq_false, not_false_eq_true, ↓reduceIte, Nat.reduceAdd, if_neg, if_pos, i3 pre.length q (Nat.le_refl _) hk, X5_quitLine_c37]
    have hl2 : ln = (pre ++ [q]) ++ rest := by rw [hl]; simp
    by_cases e : q.1 = o
    · rw [if_pos e]
      have er : rm (pre ++ [q]) o = rm pre o := by simp [rm, e]
      have := ih (pre ++ [q]) N h hl2 hN2 i1 (by rw [er]; exact i2) (fun j p hj hp => i3 j p (by simp at hj; omega) hp)
      rw [er] at this
      simpa using this
    · rw [if_neg e]
      have er : rm (pre ++ [q]) o = rm pre o ++ [q] := by simp [rm, e]
      have := ih (pre ++ [q]) N (up h (b + 5) (rm pre o).length (nI q.1)) hl2 hN2 (fun a ha => (up_ne _ _ _ _ ha).trans (i1 a ha)) (by
        rw [er]
        intro j p hp
        by_cases hj : j < (rm pre o).length
        · rw [List.getElem?_append_left hj] at hp
          rw [up_k (by omega)]
          exact i2 j p hp
        · have hj2 : j < (rm pre o).length + 1 := by simpa using (List.getElem?_eq_some_iff.mp hp).1
          have : j = (rm pre o).length := by omega
          subst this
          rw [up_s]
          simp at hp
          rw [hp]) (fun j p hj hp => by
        simp at hj
        rw [up_k (by omega)]
        exact i3 j p (by omega) hp)
      rw [er] at this
      simp only [List.length_append, List.length_cons, List.length_nil, Nat.zero_add] at this
      exact this
theorem rm_mem {q : Nat × Nat × Nat} {o : Nat} : q ∈ rm ln o ↔ q ∈ ln ∧ q.1 ≠ o := by
  unfold rm
  rw [List.mem_filter]
  simp
theorem quit_e {F o : Nat} {K : AH → Prop} (hR : RC b n W B C ln pl g h) (hL : ∀ q, q ∈ ln → q.1 < 6) (hlen : ln.length ≤ 6) (ho : o < 6) (hFu : 20 ≤ F)
    (kk : ∀ h', RC b n W B C (rm ln o) pl g h' → fr b h h' → K h') : P_X5_quitLine F b (nI o) h K := by
  obtain ⟨r0, rW, rB, rC, rH, rL, rk, ra, rz, rP, rp, rg⟩ := hR
  unfold P_X5_quitLine
  refine quit_l (ln := ln) (h0 := h) rL hL hlen ho (fun h1 i1 i2 => ?_) ln [] F h rfl (by omega) (fun _ _ => rfl) (fun j q hq => by simp [rm] at hq) (fun j q _ hq => rk j q hq)
  have i1' := fun a (ha : a ≠ b + 5) (k : Nat) => congrFun (i1 a ha) k
  refine kk _ ⟨?_, ?_, ?_, ?_, ?_, ?_, ?_, ?_, ?_, ?_, ?_, ?_⟩ (fun a ha => by rw [up_ne _ _ _ _ (by omega), up_ne _ _ _ _ (by omega), i1 a (by omega)])
  · rw [up_c (by omega), up_k (by omega), i1' b (by omega)]; exact r0
  · intro t' h'; rw [up_c (by omega), up_c (by omega), i1' _ (by omega)]; exact rW t' h'
  · intro t' h'; rw [up_c (by omega), up_c (by omega), i1' _ (by omega)]; exact rB t' h'
  · intro t' o' m' h1 h2 h3 h4; rw [up_c (by omega), up_c (by omega), i1' _ (by omega)]; exact rC t' o' m' h1 h2 h3 h4
  · intro t' m' h1 h3 h4; rw [up_c (by omega), up_c (by omega), i1' _ (by omega)]; exact rH t' m' h1 h3 h4
  · rw [up_c (by omega), up_s]
  · intro k q hq; rw [up_c (by omega), up_c (by omega)]; exact i2 k q hq
  · intro q hq
    obtain ⟨h2, h3⟩ := rm_mem.mp hq
    rw [up_c (by omega), up_c (by omega), up_k h3, up_c (by omega), i1' _ (by omega), i1' _ (by omega)]
    exact ra q h2
  · intro o' h2 h3
    by_cases e : o' = o
    · subst e
      exact up_s _ _ _ _
    · rw [up_k e, up_c (by omega), i1' _ (by omega)]
      exact rz o' h2 (fun q hq hqe => h3 q (rm_mem.mpr ⟨hq, fun z => e (hqe.symm.trans z)⟩) hqe)
  · rw [up_c (by omega), up_k (by omega), i1' b (by omega)]; exact rP
  · intro k' q hq
    rw [up_c (by omega), up_c (by omega), up_c (by omega), up_c (by omega), up_c (by omega), up_c (by omega), i1' _ (by omega), i1' _ (by omega), i1' _ (by omega)]
    exact rp k' q hq
  · rw [up_c (by omega), up_k (by omega), i1' b (by omega)]; exact rg
end CD
