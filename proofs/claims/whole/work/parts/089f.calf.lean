/-! calls: strongest, plan, image, back -/
theorem tw_no {ln : LN} {o : Nat} (h : inL ln o = false) : ln.takeWhile (fun q => q.1 != o) = ln := by
  have := List.takeWhile_append_of_pos (p := fun q : Nat × Nat × Nat => q.1 != o) (l₁ := ln) (l₂ := []) (fun q hq => by simpa using inL_f h q hq)
  simpa using this
section CF
variable {m F : Nat} {h : AH} {G Z : AH → Prop} {x y z : Int32}
theorem pairI {P7 P8 : AH → (Int32 → AH → Prop) → Prop} (hv : ∃ v, (∀ K : Int32 → AH → Prop, K v h → P7 h K) ∧ (∀ K : Int32 → AH → Prop, K v h → P8 h K)) (hg : G h) : P7 h (fun r h1 => P8 h1 (fun r' h3 => if r = r' then G h3 else Z h3)) := by
  obtain ⟨v, h1, h2⟩ := hv
  refine h1 _ (h2 _ ?_)
  rw [if_pos rfl]
  exact hg
def stg (W : Nat → Nat) (C : CT) (ln : LN) (o t : Nat) : Int32 := if hnd W C o t 5 ln = 0 then nI 5 else if hnd W C o t 4 ln = 0 then nI 4 else if hnd W C o t 2 ln = 0 then nI 2 else -2
theorem stg_c {n c g o t : Nat} {W B : Nat → Nat} {C : CT} {ln pl : LN} {K : Int32 → AH → Prop} (hR : RC 1 n W B C ln pl g h) (hF : WF c n W B C ln pl) (hFu : 20 ≤ F) (ho : o < 6) (ht : t < n) (hi : inL ln o = false) (kk : K (stg W C ln o t) h) : X7_strongest_c41 F K F (nI o) (nI t) (nI 2) h := by
  obtain ⟨N, hN⟩ : ∃ k, F = k + 4 := ⟨F - 4, by omega⟩
  have go : ∀ N, X7_strongest_c41 F K (N + 4) (nI o) (nI t) (nI 2) h := by
    intro N
    have e5 : tAM 2 = nI 5 := rfl
    have e4 : tAM 1 = nI 4 := rfl
    have e2 : tAM 0 = nI 2 := rfl
    have hl : ∀ m, hnd W C o t m ln < 64 := fun m => hnd_lt _ _ _ _ _ _
    have l5 := hl 5
    have l4 := hl 4
    have l2 := hl 2
    have s1 : nI 2 + -1 = nI 1 := nm1 (by omega)
    have s2 : nI 1 + -1 = nI 0 := nm1 (by omega)
    have s3 : nI 0 + -1 < nI 0 := by decide
    rw [X7_strongest_c41_s]
    simp (disch := omega) only [Nat.not_lt_zero, nneg, nneg2, nlt, nle, neq, nI_add, pk_mul, nsub, ncl, nin, and_true, true_and, not_true_eq_false, not_false_eq_true, ↓reduceIte, Nat.reduceAdd, if_pos, if_neg, e5]
    rw [hind_e hR hF hFu ⟨ho, ht, by simp⟩, tw_no hi]
    unfold stg at kk
    by_cases h5 : hnd W C o t 5 ln = 0
    · simp only [h5, if_true, not_true_eq_false, if_false] at kk ⊢
      exact kk
    simp (disch := omega) only [Nat.not_lt_zero, nneg, nneg2, nlt, nle, neq, nI_add, pk_mul, nsub, ncl, nin, and_true, true_and, not_true_eq_false, not_false_eq_true, ↓reduceIte, Nat.reduceAdd, h5, if_false, if_pos, if_neg, s1] at kk ⊢
    rw [X7_strongest_c41_s]
    simp (disch := omega) only [Nat.not_lt_zero, nneg, nneg2, nlt, nle, neq, nI_add, pk_mul, nsub, ncl, nin, and_true, true_and, not_true_eq_false, not_false_eq_true, ↓reduceIte, Nat.reduceAdd, if_pos, if_neg, e4]
    rw [hind_e hR hF hFu ⟨ho, ht, by simp⟩, tw_no hi]
    by_cases h4 : hnd W C o t 4 ln = 0
    · simp only [h4, if_true, not_true_eq_false, if_false] at kk ⊢
      exact kk
    simp (disch := omega) only [Nat.not_lt_zero, nneg, nneg2, nlt, nle, neq, nI_add, pk_mul, nsub, ncl, nin, and_true, true_and, not_true_eq_false, not_false_eq_true, ↓reduceIte, Nat.reduceAdd, h4, if_false, if_pos, if_neg, s2] at kk ⊢
    rw [X7_strongest_c41_s]
    simp (disch := omega) only [Nat.not_lt_zero, nneg, nneg2, nlt, nle, neq, nI_add, pk_mul, nsub, ncl, nin, and_true, true_and, not_true_eq_false, not_false_eq_true, ↓reduceIte, Nat.reduceAdd, if_pos, if_neg, e2]
    rw [hind_e hR hF hFu ⟨ho, ht, by simp⟩, tw_no hi]
    by_cases h2 : hnd W C o t 2 ln = 0
    · simp only [h2, if_true, not_true_eq_false, if_false] at kk ⊢
      exact kk
    simp (disch := omega) only [Nat.not_lt_zero, nneg, nneg2, nlt, nle, neq, nI_add, pk_mul, nsub, ncl, nin, and_true, true_and, not_true_eq_false, not_false_eq_true, ↓reduceIte, Nat.reduceAdd, h2, if_false, if_pos, if_neg] at kk ⊢
    rw [X7_strongest_c41_s, if_pos s3]
    exact kk
  have := go N
  rw [← hN] at this
  exact this
theorem stg_r {n c g o t : Nat} {W B : Nat → Nat} {C : CT} {ln pl : LN} {K : Int32 → AH → Prop} (hR : RM n W B C ln pl g h) (hF : WF c n W B C ln pl) (hc : c < 1900000000) (hFu : 20 ≤ F) (ho : o < 6) (ht : t < n) (hi : inL ln o = false) (kk : K (stg W C ln o t) h) : X8_strongest_c30 F K F (nI o) (nI t) (nI 5) h := by
  obtain ⟨N, hN⟩ : ∃ k, F = k + 5 := ⟨F - 5, by omega⟩
  have go : ∀ N, X8_strongest_c30 F K (N + 5) (nI o) (nI t) (nI 5) h := by
    intro N
    have s1 : nI 5 + -1 = nI 4 := nm1 (by omega)
    have s2 : nI 4 + -1 = nI 3 := nm1 (by omega)
    have s3 : nI 3 + -1 = nI 2 := nm1 (by omega)
    have s4 : nI 2 + -1 = nI 1 := nm1 (by omega)
    unfold stg at kk
    rw [X8_strongest_c30_s]
    simp (disch := omega) only [Nat.not_lt_zero, nneg, nneg2, nlt, nle, neq, nI_add, pk_mul, nsub, ncl, nin, and_true, true_and, not_true_eq_false, not_false_eq_true, ↓reduceIte, Nat.reduceAdd, if_pos, if_neg, isAsked_y (m := nI 5) (by simp)]
    refine canBe_e hR.1 hF (by omega) hFu ⟨ho, ht, by simp⟩ ?_
    by_cases h5 : hnd W C o t 5 ln = 0
    · simp (disch := omega) only [Nat.not_lt_zero, nneg, nneg2, nlt, nle, neq, nI_add, pk_mul, nsub, ncl, nin, and_true, true_and, not_true_eq_false, not_false_eq_true, ↓reduceIte, Nat.reduceAdd, bn, h5, decide_true, if_true, if_pos, if_neg] at kk ⊢
      exact kk
    simp (disch := omega) only [Nat.not_lt_zero, nneg, nneg2, nlt, nle, neq, nI_add, pk_mul, nsub, ncl, nin, and_true, true_and, not_true_eq_false, not_false_eq_true, ↓reduceIte, Nat.reduceAdd, bn, h5, decide_false, Bool.false_eq_true, if_false, if_pos, if_neg, X8_strongest_c54, s1] at kk ⊢
    rw [X8_strongest_c30_s]
    simp (disch := omega) only [Nat.not_lt_zero, nneg, nneg2, nlt, nle, neq, nI_add, pk_mul, nsub, ncl, nin, and_true, true_and, not_true_eq_false, not_false_eq_true, ↓reduceIte, Nat.reduceAdd, if_pos, if_neg, isAsked_y (m := nI 4) (by simp)]
    refine canBe_e hR.1 hF (by omega) hFu ⟨ho, ht, by simp⟩ ?_
    by_cases h4 : hnd W C o t 4 ln = 0
    · simp (disch := omega) only [Nat.not_lt_zero, nneg, nneg2, nlt, nle, neq, nI_add, pk_mul, nsub, ncl, nin, and_true, true_and, not_true_eq_false, not_false_eq_true, ↓reduceIte, Nat.reduceAdd, bn, h4, decide_true, if_true, if_pos, if_neg] at kk ⊢
      exact kk
    simp (disch := omega) only [Nat.not_lt_zero, nneg, nneg2, nlt, nle, neq, nI_add, pk_mul, nsub, ncl, nin, and_true, true_and, not_true_eq_false, not_false_eq_true, ↓reduceIte, Nat.reduceAdd, bn, h4, decide_false, Bool.false_eq_true, if_false, if_pos, if_neg, X8_strongest_c54, s2] at kk ⊢
    rw [X8_strongest_c30_s]
    simp (disch := omega) only [Nat.not_lt_zero, nneg, nneg2, nlt, nle, neq, nI_add, pk_mul, nsub, ncl, nin, and_true, true_and, not_true_eq_false, not_false_eq_true, ↓reduceIte, Nat.reduceAdd, if_pos, if_neg, isAsked_n (m := nI 3) (by simp (disch := omega) only [Nat.not_lt_zero, nneg, nneg2, nlt, nle, neq, nI_add, pk_mul, nsub, ncl, nin, and_true, true_and, not_true_eq_false, not_false_eq_true, ↓reduceIte, Nat.reduceAdd]; decide), X8_strongest_c54, s3]
    rw [X8_strongest_c30_s]
    simp (disch := omega) only [Nat.not_lt_zero, nneg, nneg2, nlt, nle, neq, nI_add, pk_mul, nsub, ncl, nin, and_true, true_and, not_true_eq_false, not_false_eq_true, ↓reduceIte, Nat.reduceAdd, if_pos, if_neg, isAsked_y (m := nI 2) (by simp)]
    refine canBe_e hR.1 hF (by omega) hFu ⟨ho, ht, by simp⟩ ?_
    by_cases h2 : hnd W C o t 2 ln = 0
    · simp (disch := omega) only [Nat.not_lt_zero, nneg, nneg2, nlt, nle, neq, nI_add, pk_mul, nsub, ncl, nin, and_true, true_and, not_true_eq_false, not_false_eq_true, ↓reduceIte, Nat.reduceAdd, bn, h2, decide_true, if_true, if_pos, if_neg] at kk ⊢
      exact kk
    simp (disch := omega) only [Nat.not_lt_zero, nneg, nneg2, nlt, nle, neq, nI_add, pk_mul, nsub, ncl, nin, and_true, true_and, not_true_eq_false, not_false_eq_true, ↓reduceIte, Nat.reduceAdd, bn, h2, decide_false, Bool.false_eq_true, if_false, if_pos, if_neg, X8_strongest_c54, s4] at kk ⊢
    rw [X8_strongest_c30_s]
    simp (disch := omega) only [Nat.not_lt_zero, nneg, nneg2, nlt, nle, neq, nI_add, pk_mul, nsub, ncl, nin, and_true, true_and, not_true_eq_false, not_false_eq_true, ↓reduceIte, Nat.reduceAdd, if_pos, if_neg]
    exact kk
  have := go N
  rw [← hN] at this
  exact this
theorem call_strongest (hFu : 500 ≤ F) (hI : INV m h) (hm : m < 513) (kk : ∀ h', INV (m + 1) h' → G h') : P_X7_strongest F x y h (fun r h1 => P_X8_strongest F x y h1 (fun r' h3 => if r = r' then G h3 else Z h3)) := by
  obtain ⟨c, l, n, W, B, C, ln, pl, g, hs⟩ := hI
  have hc := ST_c hs
  have hF := hs.2.2.1
  have hn := hF.1
  have hL : ∀ q, q ∈ ln → q.1 < 6 := fun q hq => (WF_v hF q hq).1
  have hlen := WF_6 hF
  refine pairI (P7 := fun h K => P_X7_strongest F x y h K) (P8 := fun h K => P_X8_strongest F x y h K) ?_ (kk _ (INV_s hs hm))
  unfold P_X7_strongest P_X8_strongest
  by_cases hx : inr x 6
  · by_cases hy : inr y n
    · have ex := hx
      have ey := hy
      obtain ⟨o, ho, rfl⟩ := hx
      obtain ⟨t, ht, rfl⟩ := hy
      cases e : inL ln o with
      | true =>
        refine ⟨-5, fun K kk => ?_, fun K kk => ?_⟩
        · rw [isOwner_y ex]
          simp (disch := omega) only [Nat.not_lt_zero, nneg, nneg2, nlt, nle, neq, nI_add, pk_mul, nsub, ncl, nin, and_true, true_and, not_true_eq_false, not_false_eq_true, ↓reduceIte, Nat.reduceAdd, if_pos, if_neg]
          rw [isThing_y hs.1.1 hn ey]
          simp (disch := omega) only [Nat.not_lt_zero, nneg, nneg2, nlt, nle, neq, nI_add, pk_mul, nsub, ncl, nin, and_true, true_and, not_true_eq_false, not_false_eq_true, ↓reduceIte, Nat.reduceAdd, if_pos, if_neg]
          rw [waiting_e hs.1 (WF_v hF) ho, e]
          simp (disch := omega) only [Nat.not_lt_zero, nneg, nneg2, nlt, nle, neq, nI_add, pk_mul, nsub, ncl, nin, and_true, true_and, not_true_eq_false, not_false_eq_true, ↓reduceIte, Nat.reduceAdd, if_pos, if_neg, if_true]
          exact kk
        · rw [isOwner_ry ex]
          simp (disch := omega) only [Nat.not_lt_zero, nneg, nneg2, nlt, nle, neq, nI_add, pk_mul, nsub, ncl, nin, and_true, true_and, not_true_eq_false, not_false_eq_true, ↓reduceIte, Nat.reduceAdd, if_pos, if_neg]
          rw [isThing_ry hs.2.1.1.1 hn ey]
          simp (disch := omega) only [Nat.not_lt_zero, nneg, nneg2, nlt, nle, neq, nI_add, pk_mul, nsub, ncl, nin, and_true, true_and, not_true_eq_false, not_false_eq_true, ↓reduceIte, Nat.reduceAdd, if_pos, if_neg]
          refine inLine_e hs.2.1.1 hL hlen ho (by omega) ?_
          rw [e]
          simp (disch := omega) only [bn, Nat.not_lt_zero, nneg, nneg2, nlt, nle, neq, nI_add, pk_mul, nsub, ncl, nin, and_true, true_and, not_true_eq_false, not_false_eq_true, ↓reduceIte, Nat.reduceAdd, if_pos, if_neg, if_true]
          exact kk
      | false =>
        refine ⟨stg W C ln o t, fun K kk => ?_, fun K kk => ?_⟩
        · rw [isOwner_y ex]
          simp (disch := omega) only [Nat.not_lt_zero, nneg, nneg2, nlt, nle, neq, nI_add, pk_mul, nsub, ncl, nin, and_true, true_and, not_true_eq_false, not_false_eq_true, ↓reduceIte, Nat.reduceAdd, if_pos, if_neg]
          rw [isThing_y hs.1.1 hn ey]
          simp (disch := omega) only [Nat.not_lt_zero, nneg, nneg2, nlt, nle, neq, nI_add, pk_mul, nsub, ncl, nin, and_true, true_and, not_true_eq_false, not_false_eq_true, ↓reduceIte, Nat.reduceAdd, if_pos, if_neg]
          rw [waiting_e hs.1 (WF_v hF) ho, e]
          simp (disch := omega) only [Nat.not_lt_zero, nneg, nneg2, nlt, nle, neq, nI_add, pk_mul, nsub, ncl, nin, and_true, true_and, not_true_eq_false, not_false_eq_true, ↓reduceIte, Nat.reduceAdd, if_pos, if_neg, Bool.false_eq_true, if_false]
          exact stg_c hs.1 hF (by omega) ho ht e kk
        · rw [isOwner_ry ex]
          simp (disch := omega) only [Nat.not_lt_zero, nneg, nneg2, nlt, nle, neq, nI_add, pk_mul, nsub, ncl, nin, and_true, true_and, not_true_eq_false, not_false_eq_true, ↓reduceIte, Nat.reduceAdd, if_pos, if_neg]
          rw [isThing_ry hs.2.1.1.1 hn ey]
          simp (disch := omega) only [Nat.not_lt_zero, nneg, nneg2, nlt, nle, neq, nI_add, pk_mul, nsub, ncl, nin, and_true, true_and, not_true_eq_false, not_false_eq_true, ↓reduceIte, Nat.reduceAdd, if_pos, if_neg]
          refine inLine_e hs.2.1.1 hL hlen ho (by omega) ?_
          rw [e]
          simp (disch := omega) only [bn, Nat.not_lt_zero, nneg, nneg2, nlt, nle, neq, nI_add, pk_mul, nsub, ncl, nin, and_true, true_and, not_true_eq_false, not_false_eq_true, ↓reduceIte, Nat.reduceAdd, if_pos, if_neg, Bool.false_eq_true, if_false]
          exact stg_r hs.2.1 hF (by omega) (by omega) ho ht e kk
    · refine ⟨-1, fun K kk => ?_, fun K kk => ?_⟩
      · rw [isOwner_y hx]
        simp (disch := omega) only [Nat.not_lt_zero, nneg, nneg2, nlt, nle, neq, nI_add, pk_mul, nsub, ncl, nin, and_true, true_and, not_true_eq_false, not_false_eq_true, ↓reduceIte, Nat.reduceAdd, if_pos, if_neg]
        rw [isThing_n hs.1.1 hn hy]
        simp (disch := omega) only [Nat.not_lt_zero, nneg, nneg2, nlt, nle, neq, nI_add, pk_mul, nsub, ncl, nin, and_true, true_and, not_true_eq_false, not_false_eq_true, ↓reduceIte, Nat.reduceAdd, if_pos, if_neg]
        exact kk
      · rw [isOwner_ry hx]
        simp (disch := omega) only [Nat.not_lt_zero, nneg, nneg2, nlt, nle, neq, nI_add, pk_mul, nsub, ncl, nin, and_true, true_and, not_true_eq_false, not_false_eq_true, ↓reduceIte, Nat.reduceAdd, if_pos, if_neg]
        rw [isThing_rn hs.2.1.1.1 hn hy]
        simp (disch := omega) only [Nat.not_lt_zero, nneg, nneg2, nlt, nle, neq, nI_add, pk_mul, nsub, ncl, nin, and_true, true_and, not_true_eq_false, not_false_eq_true, ↓reduceIte, Nat.reduceAdd, if_pos, if_neg]
        exact kk
  · refine ⟨-1, fun K kk => ?_, fun K kk => ?_⟩
    · rw [isOwner_n hx]
      simp (disch := omega) only [Nat.not_lt_zero, nneg, nneg2, nlt, nle, neq, nI_add, pk_mul, nsub, ncl, nin, and_true, true_and, not_true_eq_false, not_false_eq_true, ↓reduceIte, Nat.reduceAdd, if_pos, if_neg]
      exact kk
    · rw [isOwner_rn hx]
      simp (disch := omega) only [Nat.not_lt_zero, nneg, nneg2, nlt, nle, neq, nI_add, pk_mul, nsub, ncl, nin, and_true, true_and, not_true_eq_false, not_false_eq_true, ↓reduceIte, Nat.reduceAdd, if_pos, if_neg]
      exact kk
end CF
section CG2
variable {n : Nat} {W B : Nat → Nat} {C : CT} {ln pl : LN} {g : Nat} {h : AH} {F : Nat} {K : AH → Prop} {p0 p1 : Nat}
theorem cps_l (hne : p0 ≠ p1) {h0 : AH} (kk : ∀ h', (∀ a, a ≠ p1 → h' a = h0 a) → (∀ k, k < 441 → h' p1 k = h0 p0 k) → K h') : ∀ (d N i : Nat) (h : AH), i + d = 441 → d + 1 ≤ N → (∀ a, a ≠ p1 → h a = h0 a) → (∀ k, k < i → h p1 k = h0 p0 k) → X8_copies_c2 F p0 p1 K N (nI i) h := by
  intro d
  induction d with
  | zero =>
    intro N i h h1 h2 h3 h4
    obtain ⟨N, rfl⟩ : ∃ k, N = k + 1 := ⟨N - 1, by omega⟩
    have : i = 441 := by omega
    subst this
    rw [X8_copies_c2_s]
    simp (disch := omega) only [Nat.not_lt_zero, nneg, nneg2, nlt, nle, neq, nI_add, pk_mul, nsub, ncl, nin, and_true, true_and, not_true_eq_false, not_false_eq_true, ↓reduceIte, Nat.reduceAdd, if_pos, if_neg]
    exact kk h h3 h4
  | succ d ih =>
    intro N i h h1 h2 h3 h4
    obtain ⟨N, rfl⟩ : ∃ k, N = k + 1 := ⟨N - 1, by omega⟩
    rw [X8_copies_c2_s]
    simp (disch := omega) only [Nat.not_lt_zero, nneg, nneg2, nlt, nle, neq, nI_add, pk_mul, nsub, ncl, nin, and_true, true_and, not_true_eq_false, not_false_eq_true, ↓reduceIte, Nat.reduceAdd, if_pos, if_neg]
    refine ih N (i + 1) _ (by omega) (by omega) (fun a ha => ?_) (fun k hk => ?_)
    · rw [up_ne _ _ _ _ ha]; exact h3 a ha
    · rw [upr]
      by_cases e : k = i
      · subst e
        rw [if_pos ⟨rfl, rfl⟩, h3 p0 hne]
      · rw [if_neg (by omega)]
        exact h4 k (by omega)
theorem cps_e (hne : p0 ≠ p1) (hFu : 500 ≤ F) (kk : ∀ h', (∀ a, a ≠ p1 → h' a = h a) → (∀ k, k < 441 → h' p1 k = h p0 k) → K h') : P_X8_copies F p0 p1 h K :=
  cps_l hne kk 441 F 0 h (by omega) (by omega) (fun _ _ => rfl) (fun _ hk => by omega)
theorem RG_cp {h' : AH} (hR : RG p0 n W B C ln pl h) (hn : n ≤ 12) (hl : ln.length ≤ 6) (hp : pl.length ≤ 12) (e : ∀ k, k < 441 → h' p1 k = h p0 k) : RG p1 n W B C ln pl h' := by
  obtain ⟨s0, sW, sB, sC, sL, sk, sP, sp⟩ := hR
  refine ⟨?_, fun t ht => ?_, fun t ht => ?_, fun t o m ht ho h1 h2 => ?_, ?_, fun j q hq => ?_, ?_, fun j q hq => ?_⟩
  · rw [e 0 (by omega)]; exact s0
  · rw [e _ (by omega)]; exact sW t ht
  · rw [e _ (by omega)]; exact sB t ht
  · rw [e _ (by omega)]; exact sC t o m ht ho h1 h2
  · rw [e _ (by omega)]; exact sL
  · have hj : j < ln.length := (List.getElem?_eq_some_iff.mp hq).1
    rw [e _ (by omega), e _ (by omega), e _ (by omega)]; exact sk j q hq
  · rw [e _ (by omega)]; exact sP
  · have hj : j < pl.length := (List.getElem?_eq_some_iff.mp hq).1
    rw [e _ (by omega), e _ (by omega), e _ (by omega)]; exact sp j q hq
end CG2
