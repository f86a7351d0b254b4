/-! the reference: rings; the two ways to a closure come to the same -/
theorem wst_tb (k : Nat) (r : Nat → Nat) (i j : Nat) : (wst k r i).testBit j = ((r i).testBit j || ((r i).testBit k && (r k).testBit j)) := by
  unfold wst
  cases e : (r i).testBit k with
  | true => simp [Nat.testBit_or]
  | false => simp
def TR (r : Nat → Nat) (k : Nat) : Prop := ∀ i m j, m < k → (r i).testBit m = true → (r m).testBit j = true → (r i).testBit j = true
theorem TR_s {r : Nat → Nat} {k : Nat} (h : TR r k) : TR (wst k r) (k + 1) := by
  intro i m j hm h1 h2
  rw [wst_tb] at h1 h2 ⊢
  simp only [Bool.or_eq_true, Bool.and_eq_true] at h1 h2 ⊢
  rcases Nat.lt_or_ge m k with hm2 | hm2
  · rcases h1 with h1 | ⟨h1, h1'⟩
    · rcases h2 with h2 | ⟨h2, h2'⟩
      · exact Or.inl (h i m j hm2 h1 h2)
      · exact Or.inr ⟨h i m k hm2 h1 h2, h2'⟩
    · rcases h2 with h2 | ⟨h2, h2'⟩
      · exact Or.inr ⟨h1, h k m j hm2 h1' h2⟩
      · exact Or.inr ⟨h1, h2'⟩
  · have : m = k := by omega
    subst this
    have h1' : (r i).testBit m = true := by rcases h1 with h1 | h1; exact h1; exact h1.1
    have h2' : (r m).testBit j = true := by rcases h2 with h2 | h2; exact h2; exact h2.2
    exact Or.inr ⟨h1', h2'⟩
theorem TR_w (r : Nat → Nat) : TR (wsh r) 6 := TR_s (TR_s (TR_s (TR_s (TR_s (TR_s (fun i m j hm => by omega))))))
theorem wst_ge (k : Nat) (r : Nat → Nat) (i j : Nat) (h : (r i).testBit j = true) : (wst k r i).testBit j = true := by rw [wst_tb, h]; simp
theorem wsh_ge (r : Nat → Nat) (i j : Nat) (h : (r i).testBit j = true) : (wsh r i).testBit j = true := wst_ge _ _ _ _ (wst_ge _ _ _ _ (wst_ge _ _ _ _ (wst_ge _ _ _ _ (wst_ge _ _ _ _ (wst_ge _ _ _ _ h)))))
def sub (a s : Nat) : Prop := ∀ j, a.testBit j = true → s.testBit j = true
def CLo (r : Nat → Nat) (o s : Nat) : Prop := (∀ p, s.testBit p = true → sub (r p) s) ∧ sub (r o) s
theorem CLo_s {r : Nat → Nat} {o s k : Nat} (h : CLo r o s) : CLo (wst k r) o s := by
  have key : ∀ p, sub (r p) s → sub (wst k r p) s := by
    intro p hp j hj
    rw [wst_tb] at hj
    simp only [Bool.or_eq_true, Bool.and_eq_true] at hj
    rcases hj with hj | ⟨h1, h2⟩
    · exact hp j hj
    · exact h.1 k (hp k h1) j h2
  exact ⟨fun p hp => key p (h.1 p hp), key o h.2⟩
theorem CLo_w {r : Nat → Nat} {o s : Nat} (h : CLo r o s) : sub (wsh r o) s := (CLo_s (CLo_s (CLo_s (CLo_s (CLo_s (CLo_s h)))))).2
theorem wsh_lt {r : Nat → Nat} (hl : ∀ o, o < 6 → r o < 64) {o : Nat} (ho : o < 6) : wsh r o < 64 :=
  wst_lt (by omega) (wst_lt (by omega) (wst_lt (by omega) (wst_lt (by omega) (wst_lt (by omega) (wst_lt (by omega) hl))))) o ho
def orUp (r : Nat → Nat) (s : Nat) : Nat → Nat
  | 0 => s
  | i + 1 => orUp r s i ||| (if s.testBit i = true then r i else 0)
theorem orUp_lt {r : Nat → Nat} (hl : ∀ o, o < 6 → r o < 64) {s : Nat} (hs : s < 64) : ∀ i, i ≤ 6 → orUp r s i < 64
  | 0, _ => hs
  | i + 1, h => by
    unfold orUp
    refine or_lt64 (orUp_lt hl hs i (by omega)) ?_
    split
    · exact hl i (by omega)
    · omega
theorem orUp_ge {r : Nat → Nat} {s : Nat} : ∀ i, sub s (orUp r s i)
  | 0, j, h => h
  | i + 1, j, h => by
    unfold orUp
    rw [Nat.testBit_or, orUp_ge i j h]
    rfl
theorem orUp_in {r : Nat → Nat} {s : Nat} : ∀ i p, p < i → s.testBit p = true → sub (r p) (orUp r s i)
  | 0, p, h, _, _, _ => by omega
  | i + 1, p, h, hp, j, hj => by
    unfold orUp
    rw [Nat.testBit_or]
    by_cases e : p = i
    · subst e
      rw [if_pos hp, hj]
      simp
    · rw [orUp_in i p (by omega) hp j hj]
      rfl
theorem orUp_out {r : Nat → Nat} {s x : Nat} (hs : sub s x) (h : ∀ p, p < 6 → s.testBit p = true → sub (r p) x) : ∀ i, i ≤ 6 → sub (orUp r s i) x
  | 0, _, j, hj => hs j hj
  | i + 1, hi, j, hj => by
    unfold orUp at hj
    rw [Nat.testBit_or] at hj
    simp only [Bool.or_eq_true] at hj
    rcases hj with hj | hj
    · exact orUp_out hs h i (by omega) j hj
    · by_cases e : s.testBit i = true
      · rw [if_pos e] at hj
        exact h i (by omega) e j hj
      · rw [if_neg e, Nat.zero_testBit] at hj
        cases hj
theorem sub_le {a s : Nat} (ha : a < 64) (hs : s < 64) (h : sub a s) : a ≤ s := by
  have e : a ||| s = s := eq6 (or_lt64 ha hs) hs (fun o ho => by
    rw [Nat.testBit_or]
    cases ea : a.testBit o with
    | true => rw [h o ea]; rfl
    | false => simp)
  rw [← e]
  exact Nat.left_le_or
theorem sub_eq {a s : Nat} (ha : a < 64) (hs : s < 64) (h1 : sub a s) (h2 : sub s a) : a = s := Nat.le_antisymm (sub_le ha hs h1) (sub_le hs ha h2)
section RE
variable {n : Nat} {W B : Nat → Nat} {pl : LN} {c F g : Nat} {C : CT} {ln : LN} {h : AH} {K : Int32 → AH → Prop}
theorem come_in {rc8 : Int32 → Int32 → AH → Prop} (hR : RM n W B C ln pl g h) (hF : WF c n W B C ln pl) (hFu : 40 ≤ F) (hc : c < 1800000000) {s : Nat} (hs : s < 64) (kk : rc8 (nI (orUp (wfb W C ln) s 6)) (nI s) h) : ∀ (d N i : Nat), i + d = 6 → d + 1 ≤ N → X8_comesTo_c18 F rc8 K N (nI (orUp (wfb W C ln) s i)) (nI s) (nI i) h := by
  intro d
  induction d with
  | zero =>
    intro N i h1 h2
    obtain ⟨N, rfl⟩ : ∃ k, N = k + 1 := ⟨N - 1, by omega⟩
    have : i = 6 := by omega
    subst this
    rw [X8_comesTo_c18_s]
    simp (disch := omega) only [Nat.not_lt_zero, nneg, nneg2, nlt, nle, neq, nI_add, pk_mul, nsub, ncl, nin, and_true, true_and, not_true_eq_false, not_false_eq_true, ↓reduceIte, Nat.reduceAdd, if_pos, if_neg]
    exact kk
  | succ d ih =>
    intro N i h1 h2
    obtain ⟨N, rfl⟩ : ∃ k, N = k + 1 := ⟨N - 1, by omega⟩
    have ih2 := ih N (i + 1) (by omega) (by omega)
    rw [X8_comesTo_c18_s]
    simp (disch := omega) only [Nat.not_lt_zero, nneg, nneg2, nlt, nle, neq, nI_add, pk_mul, nsub, ncl, nin, and_true, true_and, not_true_eq_false, not_false_eq_true, ↓reduceIte, Nat.reduceAdd, if_pos, if_neg]
    rw [has_e (by omega) (by omega)]
    unfold orUp at ih2
    cases ht : s.testBit i with
    | false =>
      simp only [ht, Bool.false_eq_true, if_false] at ih2
      simp (disch := omega) only [Bool.false_eq_true, if_false, Nat.not_lt_zero, nneg, nneg2, nlt, nle, neq, nI_add, pk_mul, nsub, ncl, nin, and_true, true_and, not_true_eq_false, not_false_eq_true, ↓reduceIte, Nat.reduceAdd, if_pos, if_neg, X8_comesTo_c45, bor]
      exact ih2
    | true =>
      simp only [ht, if_true] at ih2
      simp (disch := omega) only [if_true, Nat.not_lt_zero, nneg, nneg2, nlt, nle, neq, nI_add, pk_mul, nsub, ncl, nin, and_true, true_and, not_true_eq_false, not_false_eq_true, ↓reduceIte, Nat.reduceAdd, if_pos, if_neg]
      refine waitsNow_e hR hF hFu hc (by omega) ?_
      simp only [X8_comesTo_c45, bor, nI_add]
      exact ih2
theorem come_fix {o s : Nat} (ho : o < 6) (hs : s < 64) (hsub : sub s (wsh (wfb W C ln) o)) (hsub2 : sub (wfb W C ln o) s) (hf : orUp (wfb W C ln) s 6 = s) : s = wsh (wfb W C ln) o := by
  have hl : ∀ o, o < 6 → wfb W C ln o < 64 := fun o _ => wfb_lt
  have hcl : CLo (wfb W C ln) o s := by
    refine ⟨fun p hp => ?_, hsub2⟩
    by_cases hp6 : p < 6
    · have := orUp_in (r := wfb W C ln) (s := s) 6 p hp6 hp
      rw [hf] at this
      exact this
    · rw [tb_hi hs hp6] at hp
      cases hp
  exact sub_eq hs (wsh_lt hl ho) hsub (CLo_w hcl)
theorem come_l {o : Nat} (hR : RM n W B C ln pl g h) (hF : WF c n W B C ln pl) (hFu : 40 ≤ F) (hc : c < 1800000000) (ho : o < 6) (kk : K (nI (wsh (wfb W C ln) o)) h) : ∀ (d N s : Nat), 64 - s ≤ d → d + 2 ≤ N → s < 64 → sub s (wsh (wfb W C ln) o) → sub (wfb W C ln o) s → ∀ b0 : Nat, b0 < 64 → (b0 = s → orUp (wfb W C ln) s 6 = s) → X8_comesTo_c8 F K N (nI s) (nI b0) h := by
  have hl : ∀ o, o < 6 → wfb W C ln o < 64 := fun o _ => wfb_lt
  have hwl := wsh_lt hl ho
  intro d
  induction d with
  | zero => intro N s h1 h2 h3; omega
  | succ d ih =>
    intro N s h1 h2 hs hsub hsub2 b0 hb hfix
    obtain ⟨N, rfl⟩ : ∃ k, N = k + 1 := ⟨N - 1, by omega⟩
    rw [X8_comesTo_c8_s]
    simp (disch := omega) only [Nat.not_lt_zero, nneg, nneg2, nlt, nle, neq, nI_add, pk_mul, nsub, ncl, nin, and_true, true_and, not_true_eq_false, not_false_eq_true, ↓reduceIte, Nat.reduceAdd]
    by_cases e : s = b0
    · rw [if_pos e, come_fix ho hs hsub hsub2 (hfix e.symm)]
      exact kk
    · rw [if_neg e]
      have hlt := orUp_lt hl hs 6 (by omega)
      have hge : sub s (orUp (wfb W C ln) s 6) := orUp_ge 6
      have hup : sub (orUp (wfb W C ln) s 6) (wsh (wfb W C ln) o) := orUp_out hsub (fun p hp6 hp j hj => TR_w _ o p j hp6 (hsub p hp) (wsh_ge _ p j hj)) 6 (by omega)
      refine come_in hR hF hFu hc hs ?_ 6 F 0 (by omega) (by omega)
      have hle := sub_le hs hlt hge
      by_cases e2 : orUp (wfb W C ln) s 6 = s
      · /- nothing new: the next look ends it -/
        rw [e2]
        obtain ⟨N, rfl⟩ : ∃ k, N = k + 1 := ⟨N - 1, by omega⟩
        rw [X8_comesTo_c8_s, if_pos rfl, come_fix ho hs hsub hsub2 e2]
        exact kk
      · exact ih N _ (by omega) (by omega) hlt hup (fun j hj => hge j (hsub2 j hj)) s hs (fun e3 => absurd e3.symm e2)
theorem orUp_z (r : Nat → Nat) : ∀ i, orUp r 0 i = 0
  | 0 => rfl
  | i + 1 => by
    unfold orUp
    rw [orUp_z r i]
    simp
theorem comesTo_e {o : Nat} (hR : RM n W B C ln pl g h) (hF : WF c n W B C ln pl) (hFu : 80 ≤ F) (hc : c < 1800000000) (ho : o < 6) (kk : K (nI (wsh (wfb W C ln) o)) h) : P_X8_comesTo F (nI o) h K := by
  unfold P_X8_comesTo
  refine waitsNow_e hR hF (by omega) hc ho ?_
  refine come_l hR hF (by omega) hc ho kk 64 F (wfb W C ln o) (by omega) (by omega) wfb_lt (wsh_ge _ _) (fun _ h => h) 0 (by omega) (fun e => ?_)
  rw [← e]
  exact orUp_z _ _
theorem mk6_st (p : Nat → Bool) {i : Nat} (hi : i < 6) : mk6 (fun j => decide (j < i) && p j) ||| (if p i = true then 2 ^ i else 0) = mk6 (fun j => decide (j < i + 1) && p j) := by
  have e5 : (if p i = true then 2 ^ i else 0) = mk6 (fun j => j == i && p i) := by
    cases p i with
    | false => simp [mk6_0]
    | true => simp only [if_true, Bool.and_true]; exact mk6_1 hi
  rw [e5, mk6_or]
  refine mk6_cong (fun j hj => ?_)
  by_cases e : j = i
  · subst e
    simp
  · have : (j < i + 1) = (j < i) := propext ⟨fun h => by omega, fun h => by omega⟩
    simp [e, this]
theorem mk6_s0 (p : Nat → Bool) : mk6 (fun j => decide (j < 0) && p j) = 0 := (mk6_cong (fun j _ => by simp)).trans mk6_0
theorem mk6_s6 (p : Nat → Bool) : mk6 (fun j => decide (j < 6) && p j) = mk6 p := mk6_cong (fun j hj => by simp [hj])
theorem ringNow_l (hR : RM n W B C ln pl g h) (hF : WF c n W B C ln pl) (hFu : 80 ≤ F) (hc : c < 1800000000) (kk : K (nI (ringS (wfb W C ln))) h) : ∀ (d N i : Nat), i + d = 6 → d + 1 ≤ N → X8_ringNow_c4 F K N (nI (mk6 (fun j => decide (j < i) && (wsh (wfb W C ln) j).testBit j))) (nI i) h := by
  intro d
  induction d with
  | zero =>
    intro N i h1 h2
    obtain ⟨N, rfl⟩ : ∃ k, N = k + 1 := ⟨N - 1, by omega⟩
    have : i = 6 := by omega
    subst this
    rw [X8_ringNow_c4_s]
    simp (disch := omega) only [Nat.not_lt_zero, nneg, nneg2, nlt, nle, neq, nI_add, pk_mul, nsub, ncl, nin, and_true, true_and, not_true_eq_false, not_false_eq_true, ↓reduceIte, Nat.reduceAdd, if_pos, if_neg]
    rw [mk6_s6]
    exact kk
  | succ d ih =>
    intro N i h1 h2
    obtain ⟨N, rfl⟩ : ∃ k, N = k + 1 := ⟨N - 1, by omega⟩
    have ih2 := ih N (i + 1) (by omega) (by omega)
    rw [X8_ringNow_c4_s]
    simp (disch := omega) only [Nat.not_lt_zero, nneg, nneg2, nlt, nle, neq, nI_add, pk_mul, nsub, ncl, nin, and_true, true_and, not_true_eq_false, not_false_eq_true, ↓reduceIte, Nat.reduceAdd, if_pos, if_neg]
    refine comesTo_e hR hF hFu hc (by omega) ?_
    have hl := wsh_lt (r := wfb W C ln) (fun o _ => wfb_lt) (o := i) (by omega)
    rw [has_e (by omega) (by omega)]
    have st := mk6_st (fun j => (wsh (wfb W C ln) j).testBit j) (i := i) (by omega)
    cases ht : (wsh (wfb W C ln) i).testBit i with
    | false =>
      simp only [ht, Bool.false_eq_true, if_false] at st
      simp (disch := omega) only [Bool.false_eq_true, if_false, Nat.not_lt_zero, nneg, nneg2, nlt, nle, neq, nI_add, pk_mul, nsub, ncl, nin, and_true, true_and, not_true_eq_false, not_false_eq_true, ↓reduceIte, Nat.reduceAdd, if_pos, if_neg, X8_ringNow_c30, bor]
      rw [st]
      exact ih2
    | true =>
      simp only [ht, if_true] at st
      simp (disch := omega) only [if_true, Nat.not_lt_zero, nneg, nneg2, nlt, nle, neq, nI_add, pk_mul, nsub, ncl, nin, and_true, true_and, not_true_eq_false, not_false_eq_true, ↓reduceIte, Nat.reduceAdd, if_pos, if_neg, X8_ringNow_c30]
      rw [bsh1 i (by omega), bor, st]
      exact ih2
theorem ringNow_e (hR : RM n W B C ln pl g h) (hF : WF c n W B C ln pl) (hFu : 80 ≤ F) (hc : c < 1800000000) (kk : K (nI (ringS (wfb W C ln))) h) : P_X8_ringNow F h K := by
  have := ringNow_l hR hF hFu hc kk 6 F 0 (by omega) (by omega)
  rw [mk6_s0] at this
  exact this
theorem countsOf_l {o : Nat} (hR : RM n W B C ln pl g h) (hn : n ≤ 12) (ho : o < 6) : ∀ (r N t : Nat), t + r = n → r + 1 ≤ N → X8_countsOf_c4 F K N (nI o) (nI (asum C t o)) (nI t) h = K (nI (asum C n o)) h := by
  obtain ⟨⟨r0, rW, rB, rC, -⟩, -⟩ := hR
  intro r
  induction r with
  | zero =>
    intro N t h1 h2
    obtain ⟨N, rfl⟩ : ∃ k, N = k + 1 := ⟨N - 1, by omega⟩
    have : t = n := by omega
    subst this
    rw [X8_countsOf_c4_s]
    simp (disch := omega) only [Nat.not_lt_zero, nneg, nneg2, nlt, nle, neq, nI_add, pk_mul, nsub, ncl, nin, and_true, true_and, not_true_eq_false, not_false_eq_true, ↓reduceIte, Nat.reduceAdd, if_pos, if_neg, r0]
  | succ r ih =>
    intro N t h1 h2
    obtain ⟨N, rfl⟩ : ∃ k, N = k + 1 := ⟨N - 1, by omega⟩
    rw [X8_countsOf_c4_s]
    simp (disch := omega) only [Nat.not_lt_zero, nneg, nneg2, nlt, nle, neq, nI_add, pk_mul, nsub, ncl, nin, and_true, true_and, not_true_eq_false, not_false_eq_true, ↓reduceIte, Nat.reduceAdd, if_pos, if_neg, r0, P_X8_at, rC]
    have : asum C t o + (C t o 2 + C t o 4 + C t o 5) = asum C (t + 1) o := by
      unfold asum
      rw [sumTo]
    rw [this]
    exact ih N (t + 1) (by omega) (by omega)
theorem countsOf_e {o : Nat} (hR : RM n W B C ln pl g h) (hn : n ≤ 12) (ho : o < 6) (hFu : 20 ≤ F) : P_X8_countsOf F (nI o) h K = K (nI (asum C n o)) h :=
  countsOf_l hR hn ho n F 0 (by omega) (by omega)
theorem leastOf_l {s : Nat} (hR : RM n W B C ln pl g h) (hF : WF c n W B C ln pl) (hFu : 20 ≤ F) (hc : c < 10000000) (hs : s < 64) : ∀ (d N o : Nat) (acc : Option Nat), o + d = 6 → d + 1 ≤ N → (∀ p, acc = some p → p < 6) →
    X8_leastOf_c5 F K N (nI s) (match acc with | none => -2 | some p => nI p) (nI o) h = K (match lsS (asum C n) s d o acc with | none => -2 | some p => nI p) h := by
  have hlt := fun p => asum_lt (o := p) hF.1 hF.2.2.2.2.1 hc
  intro d
  induction d with
  | zero =>
    intro N o acc h1 h2 ha
    obtain ⟨N, rfl⟩ : ∃ k, N = k + 1 := ⟨N - 1, by omega⟩
    rw [X8_leastOf_c5_s]
    simp (disch := omega) only [Nat.not_lt_zero, nneg, nneg2, nlt, nle, neq, nI_add, pk_mul, nsub, ncl, nin, and_true, true_and, not_true_eq_false, not_false_eq_true, ↓reduceIte, Nat.reduceAdd, if_pos, if_neg, lsS]
  | succ d ih =>
    intro N o acc h1 h2 ha
    obtain ⟨N, rfl⟩ : ∃ k, N = k + 1 := ⟨N - 1, by omega⟩
    rw [X8_leastOf_c5_s]
    simp (disch := omega) only [Nat.not_lt_zero, nneg, nneg2, nlt, nle, neq, nI_add, pk_mul, nsub, ncl, nin, and_true, true_and, not_true_eq_false, not_false_eq_true, ↓reduceIte, Nat.reduceAdd, if_pos, if_neg]
    rw [has_e (by omega) (by omega)]
    unfold lsS
    cases ht : s.testBit o with
    | false =>
      simp (disch := omega) only [Bool.false_eq_true, if_false, false_and, Nat.not_lt_zero, nneg, nneg2, nlt, nle, neq, nI_add, pk_mul, nsub, ncl, nin, and_true, true_and, not_true_eq_false, not_false_eq_true, ↓reduceIte, Nat.reduceAdd, if_pos, if_neg, X8_leastOf_c40]
      exact ih N (o + 1) acc (by omega) (by omega) ha
    | true =>
      simp (disch := omega) only [if_true, true_and, Nat.not_lt_zero, nneg, nneg2, nlt, nle, neq, nI_add, pk_mul, nsub, ncl, nin, and_true, true_and, not_true_eq_false, not_false_eq_true, ↓reduceIte, Nat.reduceAdd, if_pos, if_neg, X8_leastOf_c40, X8_leastOf_c38]
      have h2o := hlt o
      have yes := ih N (o + 1) (some o) (by omega) (by omega) (fun p hp => by cases hp; omega)
      cases acc with
      | none =>
        have e : ∀ p : Nat, (none : Option Nat) = some p → asum C n o ≤ asum C n p := fun p hp => by cases hp
        rw [if_pos e, if_pos rfl]
        exact yes
      | some p =>
        have hp := ha p rfl
        have h2p := hlt p
        rw [countsOf_e hR hF.1 (by omega) hFu, countsOf_e hR hF.1 (by omega) hFu]
        by_cases e : asum C n o ≤ asum C n p
        · have e2 : ∀ q : Nat, some p = some q → asum C n o ≤ asum C n q := fun q hq => by cases hq; exact e
          rw [if_pos e2]
          simp (disch := omega) only [Nat.not_lt_zero, nneg, nneg2, nlt, nle, neq, nI_add, pk_mul, nsub, ncl, nin, and_true, true_and, not_true_eq_false, not_false_eq_true, ↓reduceIte, Nat.reduceAdd, if_pos, if_neg]
          exact yes
        · have e2 : ¬ ∀ q : Nat, some p = some q → asum C n o ≤ asum C n q := fun z => e (z p rfl)
          rw [if_neg e2]
          simp (disch := omega) only [Nat.not_lt_zero, nneg, nneg2, nlt, nle, neq, nI_add, pk_mul, nsub, ncl, nin, and_true, true_and, not_true_eq_false, not_false_eq_true, ↓reduceIte, Nat.reduceAdd, if_pos, if_neg]
          exact ih N (o + 1) (some p) (by omega) (by omega) ha
theorem leastOf_e {s : Nat} (hR : RM n W B C ln pl g h) (hF : WF c n W B C ln pl) (hFu : 20 ≤ F) (hc : c < 10000000) (hs : s < 64) :
    P_X8_leastOf F (nI s) h K = K (match lst (asum C n) s with | none => -2 | some p => nI p) h :=
  leastOf_l hR hF hFu hc hs 6 F 0 none (by omega) (by omega) (fun p hp => by cases hp)
end RE
