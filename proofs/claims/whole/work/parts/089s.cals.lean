/-! plays: rows -/
def rwF (pl : LN) (o : Nat) : Nat → Nat → Option Nat
  | 0, _ => none
  | d + 1, i => match pl[i]? with
    | none => none
    | some q => if q.1 = o then some i else rwF pl o d (i + 1)
def rowF (pl : LN) (o i : Nat) : Option Nat := rwF pl o (pl.length - i) i
theorem rwF_s {pl : LN} {o : Nat} : ∀ (d i j : Nat), rwF pl o d i = some j → i ≤ j ∧ ∃ q, pl[j]? = some q ∧ q.1 = o
  | 0, i, j, h => by cases h
  | d + 1, i, j, h => by
    unfold rwF at h
    cases e : pl[i]? with
    | none => rw [e] at h; cases h
    | some q =>
      rw [e] at h
      simp only [] at h
      by_cases e2 : q.1 = o
      · rw [if_pos e2] at h
        cases h
        exact ⟨Nat.le_refl _, q, e, e2⟩
      · rw [if_neg e2] at h
        have := rwF_s d (i + 1) j h
        exact ⟨by omega, this.2⟩
section CS
variable {n c F b : Nat} {W B : Nat → Nat} {C : CT} {ln pl : LN} {g : Nat} {h : AH}
theorem take_l {o : Nat} {K : Int32 → AH → Prop} (hR : RC b n W B C ln pl g h) (hF : WF c n W B C ln pl) (ho : o < 6) : ∀ (d N i : Nat), i + d = pl.length → d + 1 ≤ N → (match rwF pl o d i with | none => K (-1) h | some j => K (nI j) (up h 38 o (nI (j + 1)))) → X4_takeRow_c7 F b K N (nI o) (nI i) h := by
  have hpl := hF.2.2.2.2.2.2.2.2.1
  have hpv := hF.2.2.2.2.2.2.2.2.2
  obtain ⟨r0, rW, rB, rC, rH, rL, rk, ra, rz, rP, rp, rg⟩ := hR
  intro d
  induction d with
  | zero =>
    intro N i h1 h2 kk
    obtain ⟨N, rfl⟩ : ∃ k, N = k + 1 := ⟨N - 1, by omega⟩
    rw [X4_takeRow_c7_s, rP]
    simp (disch := omega) only [Nat.not_lt_zero, nneg, nneg2, nlt, nle, neq, nI_add, pk_mul, nsub, ncl, nin, and_true, true_and, not_true_eq_false, not_false_eq_true, ↓reduceIte, Nat.reduceAdd, if_pos, if_neg]
    exact kk
  | succ d ih =>
    intro N i h1 h2 kk
    obtain ⟨N, rfl⟩ : ∃ k, N = k + 1 := ⟨N - 1, by omega⟩
    have e : pl[i]? = some pl[i] := List.getElem?_eq_getElem (by omega)
    have a1 := (rp i _ e).1
    have hq := (hpv pl[i] (List.getElem_mem _)).1
    unfold rwF at kk
    rw [e] at kk
    simp only [] at kk
    rw [X4_takeRow_c7_s, rP]
    simp (disch := omega) only [Nat.not_lt_zero, nneg, nneg2, nlt, nle, neq, nI_add, pk_mul, nsub, ncl, nin, and_true, true_and, not_true_eq_false, not_false_eq_true, ↓reduceIte, Nat.reduceAdd, if_pos, if_neg, a1]
    by_cases e2 : pl[i].1 = o
    · simp only [e2, if_true, not_true_eq_false, if_false] at kk ⊢
      exact kk
    · simp only [e2, if_false, not_false_eq_true, if_true] at kk ⊢
      exact ih N (i + 1) (by omega) (by omega) kk
theorem rowR_l {o : Nat} {K : Int32 → AH → Prop} (hR : RG 57 n W B C ln pl h) (hF : WF c n W B C ln pl) (ho : o < 6) : ∀ (d N i : Nat), i + d = pl.length → d + 1 ≤ N → (match rwF pl o d i with | none => K (-1) h | some j => K (nI j) h) → X8_rowFrom_c2 F K N (nI o) (nI i) h := by
  have hpl := hF.2.2.2.2.2.2.2.2.1
  have hpv := hF.2.2.2.2.2.2.2.2.2
  obtain ⟨s0, sW, sB, sC, sL, sk, sP, sp⟩ := hR
  intro d
  induction d with
  | zero =>
    intro N i h1 h2 kk
    obtain ⟨N, rfl⟩ : ∃ k, N = k + 1 := ⟨N - 1, by omega⟩
    rw [X8_rowFrom_c2_s]
    simp (disch := omega) only [Nat.not_lt_zero, nneg, nneg2, nlt, nle, neq, nI_add, pk_mul, nsub, ncl, nin, and_true, true_and, not_true_eq_false, not_false_eq_true, ↓reduceIte, Nat.reduceAdd, if_pos, if_neg, sP]
    exact kk
  | succ d ih =>
    intro N i h1 h2 kk
    obtain ⟨N, rfl⟩ : ∃ k, N = k + 1 := ⟨N - 1, by omega⟩
    have e : pl[i]? = some pl[i] := List.getElem?_eq_getElem (by omega)
    have a1 := (sp i _ e).1
    have hq := (hpv pl[i] (List.getElem_mem _)).1
    unfold rwF at kk
    rw [e] at kk
    simp only [] at kk
    rw [X8_rowFrom_c2_s]
    simp (disch := omega) only [Nat.not_lt_zero, nneg, nneg2, nlt, nle, neq, nI_add, pk_mul, nsub, ncl, nin, and_true, true_and, not_true_eq_false, not_false_eq_true, ↓reduceIte, Nat.reduceAdd, if_pos, if_neg, sP, a1]
    by_cases e2 : pl[i].1 = o
    · simp only [e2, if_true, not_true_eq_false, if_false] at kk ⊢
      exact kk
    · simp only [e2, if_false, not_false_eq_true, if_true] at kk ⊢
      exact ih N (i + 1) (by omega) (by omega) kk
end CS
