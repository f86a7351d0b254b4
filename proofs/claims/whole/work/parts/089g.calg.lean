/-! calls: image, back, plan -/
section CG3
variable {m F : Nat} {h : AH} {G Z : AH → Prop} {x y z : Int32}
theorem call_image (hFu : 500 ≤ F) (hI : INV m h) (hm : m < 513) (kk : ∀ h', INV (m + 1) h' → G h') : P_X7_image F h (fun r h1 => P_X8_image F h1 (fun r' h3 => if r = r' then G h3 else Z h3)) := by
  obtain ⟨c, l, n, W, B, C, ln, pl, g, hs⟩ := hI
  have hF := hs.2.2.1
  have hn := hF.1
  have hlen := WF_6 hF
  have hpl := hF.2.2.2.2.2.2.2.2.1
  obtain ⟨g', hg'⟩ := nI_ex (h 25 13)
  unfold P_X7_image P_X8_image
  refine copy_e hs.1 ⟨hn, hlen, hpl, WF_v hF⟩ (by omega) hg' (fun h1 h2 h3 => ?_)
  refine cps_e (by omega) hFu (fun h4 h5 h6 => ?_)
  have e1 : ∀ a, a ≠ 0 → a ≠ 68 → (up h1 0 3 (nI 1)) a = h1 a := fun a a1 a2 => up_ne _ _ _ _ a1
  have r57 : h4 57 = h 57 := by rw [h5 57 (by omega), e1 57 (by omega) (by omega), h3 57 (by omega)]
  have r1 : ∀ a, 1 ≤ a → a < 13 → h4 a = h a := fun a a1 a2 => by rw [h5 a (by omega), e1 a (by omega) (by omega), h3 a (by omega)]
  have r25 : ∀ a, 25 ≤ a → a < 37 → h4 a = h1 a := fun a a1 a2 => by rw [h5 a (by omega), e1 a (by omega) (by omega)]
  have r56 : h4 56 = h 56 := by rw [h5 56 (by omega), e1 56 (by omega) (by omega), h3 56 (by omega)]
  have z1 : (up h1 0 3 (nI 1)) 1 0 = nI n := by rw [e1 1 (by omega) (by omega), h3 1 (by omega)]; exact hs.1.1
  have z2 : (up h4 56 28 (nI 1)) 57 0 = nI n := by rw [up_ne _ _ _ _ (by omega), r57]; exact hs.2.1.1.1
  simp (disch := omega) only [Nat.not_lt_zero, nneg, nneg2, nlt, nle, neq, nI_add, pk_mul, nsub, ncl, nin, and_true, true_and, not_true_eq_false, not_false_eq_true, ↓reduceIte, Nat.reduceAdd, if_pos, if_neg, z1, z2, if_true]
  have u : ∀ a, a ≠ 56 → up h4 56 28 (nI 1) a = h4 a := fun a ha => up_ne _ _ _ _ ha
  refine kk _ ⟨c, l, n, W, B, C, ln, pl, g, ?_, ⟨RG_c hs.2.1.1 (by rw [u 57 (by omega), r57]), ?_⟩, hF, ⟨⟨?_, Or.inr ⟨?_, n, W, B, C, ln, pl, g', Nat.le_refl _, ?_, ?_, hF⟩⟩, ?_⟩, by have := hs.2.2.2.2.1; omega, by omega⟩
  · refine RC_c hs.1 (fun a a1 a2 _ => by rw [u a (by omega), r1 a (by omega) (by omega)]) ?_
    rw [u 1 (by omega), r1 1 (by omega) (by omega)]
    exact hs.1.2.2.2.2.2.2.2.2.2.2.2
  · rw [upr, if_neg (by omega), r56]
    exact hs.2.1.2
  · rw [u 0 (by omega), h5 0 (by omega), upr, upr, if_pos ⟨rfl, rfl⟩, if_pos ⟨rfl, rfl⟩]
  · rw [u 0 (by omega), h5 0 (by omega), upr, if_pos ⟨rfl, rfl⟩]
  · refine RC_c h2 (fun a a1 a2 _ => by rw [u a (by omega), r25 a (by omega) (by omega)]) ?_
    rw [u 25 (by omega), r25 25 (by omega) (by omega)]
    exact h2.2.2.2.2.2.2.2.2.2.2.2
  · refine RG_cp (p0 := 57) (h := h) hs.2.1.1 hn hlen hpl (fun k hk => ?_)
    rw [u 68 (by omega), h6 k hk, e1 57 (by omega) (by omega), h3 57 (by omega)]
  · exact AY_fb hs.2.2.2.1.2 (fb_tr (fb_tr (fb_tr (fb_fr h3 (by omega)) (fb_up (by unfold fcl2; omega) (by omega) (by omega))) (fb_ne h5 (by omega))) (fb_up (by unfold fcl2; omega) (by omega) (by omega)))
theorem clo_l {n : Nat} {h0 : AH} {K : AH → Prop} (kk : ∀ h', (∀ a, a ≠ 41 → a ≠ 42 → a ≠ 43 → h' a = h0 a) → (∀ t, t < n → h' 41 t = h0 41 t ∧ h' 42 t = h0 42 t ∧ h' 43 t = h0 43 t) → (∀ t, n ≤ t → t < 12 → h' 41 t = nI 0 ∧ h' 42 t = nI 0 ∧ h' 43 t = nI 0) → K h') :
    ∀ (d N i : Nat) (h : AH), i + d = 12 → n ≤ i → d + 1 ≤ N → (∀ a, a ≠ 41 → a ≠ 42 → a ≠ 43 → h a = h0 a) → (∀ t, t < n → h 41 t = h0 41 t ∧ h 42 t = h0 42 t ∧ h 43 t = h0 43 t) → (∀ t, n ≤ t → t < i → h 41 t = nI 0 ∧ h 42 t = nI 0 ∧ h 43 t = nI 0) → X0_closeFrom_c2 F K N (nI i) h := by
  intro d
  induction d with
  | zero =>
    intro N i h h1 hni h2 h3 h4 h5
    obtain ⟨N, rfl⟩ : ∃ k, N = k + 1 := ⟨N - 1, by omega⟩
    have : i = 12 := by omega
    subst this
    rw [X0_closeFrom_c2_s]
    simp (disch := omega) only [Nat.not_lt_zero, nneg, nneg2, nlt, nle, neq, nI_add, pk_mul, nsub, ncl, nin, and_true, true_and, not_true_eq_false, not_false_eq_true, ↓reduceIte, Nat.reduceAdd, if_pos, if_neg]
    exact kk h h3 h4 h5
  | succ d ih =>
    intro N i h h1 hni h2 h3 h4 h5
    obtain ⟨N, rfl⟩ : ∃ k, N = k + 1 := ⟨N - 1, by omega⟩
    rw [X0_closeFrom_c2_s]
    simp (disch := omega) only [Nat.not_lt_zero, nneg, nneg2, nlt, nle, neq, nI_add, pk_mul, nsub, ncl, nin, and_true, true_and, not_true_eq_false, not_false_eq_true, ↓reduceIte, Nat.reduceAdd, if_pos, if_neg]
    have v : ∀ a k, (up (up (up h 41 i (nI 0)) 42 i (nI 0)) 43 i (nI 0)) a k = if (a = 41 ∨ a = 42 ∨ a = 43) ∧ k = i then nI 0 else h a k := fun a k => by
      rw [upr, upr, upr]
      by_cases e : k = i
      · subst e
        by_cases e3 : a = 43
        · simp [e3]
        · by_cases e2 : a = 42
          · simp [e2]
          · by_cases e1 : a = 41
            · simp [e1]
            · simp [e1, e2, e3]
      · simp [e]
    refine ih N (i + 1) _ (by omega) (by omega) (by omega) (fun a a1 a2 a3 => ?_) (fun t ht => ?_) (fun t ht1 ht2 => ?_)
    · funext k
      rw [v, if_neg (by omega), h3 a a1 a2 a3]
    · rw [v, v, v, if_neg (by omega), if_neg (by omega), if_neg (by omega)]
      exact h4 t ht
    · rw [v, v, v]
      by_cases e : t = i
      · rw [if_pos (by omega), if_pos (by omega), if_pos (by omega)]
        exact ⟨rfl, rfl, rfl⟩
      · rw [if_neg (by omega), if_neg (by omega), if_neg (by omega)]
        exact h5 t ht1 (by omega)
theorem call_back (hFu : 500 ≤ F) (hI : INV m h) (hm : m < 513) (kk : ∀ h', INV (m + 1) h' → G h') : P_X7_back F h (fun r h1 => P_X8_back F h1 (fun r' h3 => if r = r' then G h3 else Z h3)) := by
  obtain ⟨c, l, n, W, B, C, ln, pl, g, hs⟩ := hI
  obtain ⟨⟨p1, p2⟩, hA⟩ := hs.2.2.2.1
  unfold P_X7_back P_X8_back
  rcases p2 with p2 | ⟨p2, n', W', B', C', ln', pl', g', hnn, hR1, hR2, hF⟩
  · have p3 : h 56 28 = nI 0 := by rw [← p1, p2]
    simp only [p2, p3, not_true_eq_false, if_false, if_true]
    exact kk _ (INV_s hs hm)
  · have hn := hF.1
    have hlen := WF_6 hF
    have hpl := hF.2.2.2.2.2.2.2.2.1
    have r1g := hs.1.2.2.2.2.2.2.2.2.2.2.2
    simp (disch := omega) only [Nat.not_lt_zero, nneg, nneg2, nlt, nle, neq, nI_add, pk_mul, nsub, ncl, nin, and_true, true_and, not_true_eq_false, not_false_eq_true, ↓reduceIte, Nat.reduceAdd, if_pos, if_neg, p2]
    refine copy_e hR1 ⟨hn, hlen, hpl, WF_v hF⟩ (by omega) r1g (fun h1 h2 h3 => ?_)
    unfold P_X0_closeFrom
    rw [h2.1]
    refine clo_l (n := n') (h0 := h1) (fun h4 h5 h6 h7 => ?_) (12 - n') F n' h1 (by omega) (by omega) (by omega) (fun _ _ _ _ => rfl) (fun _ _ => ⟨rfl, rfl, rfl⟩) (fun _ _ _ => by omega)
    have e1 : h4 1 0 = nI n' := by rw [h5 1 (by omega) (by omega) (by omega)]; exact h2.1
    have e2 : h4 56 28 = nI 1 := by rw [h5 56 (by omega) (by omega) (by omega), h3 56 (by omega), ← p1, p2]
    simp (disch := omega) only [Nat.not_lt_zero, nneg, nneg2, nlt, nle, neq, nI_add, pk_mul, nsub, ncl, nin, and_true, true_and, not_true_eq_false, not_false_eq_true, ↓reduceIte, Nat.reduceAdd, if_pos, if_neg, e1, e2]
    refine cps_e (by omega) hFu (fun h8 h9 h10 => ?_)
    have r4 : ∀ a, a ≠ 41 → a ≠ 42 → a ≠ 43 → a ≠ 57 → (a < 1 ∨ 13 ≤ a) → h8 a = h a := fun a a1 a2 a3 a4 a5 => by rw [h9 a a4, h5 a a1 a2 a3, h3 a (by omega)]
    have e3 : h8 57 0 = nI n' := by
      rw [h10 0 (by omega), h5 68 (by omega) (by omega) (by omega), h3 68 (by omega)]
      exact hR2.1
    simp only [e3, if_true]
    refine kk _ ⟨c, l, n', W', B', C', ln', pl', g, ?_, ⟨?_, ?_⟩, hF, ⟨⟨?_, Or.inr ⟨?_, n', W', B', C', ln', pl', g', Nat.le_refl _, ?_, ?_, hF⟩⟩, ?_⟩, by have := hs.2.2.2.2.1; omega, by omega⟩
    · refine RC_c h2 (fun a a1 a2 _ => by rw [h9 a (by omega), h5 a (by omega) (by omega) (by omega)]) ?_
      rw [h9 1 (by omega), h5 1 (by omega) (by omega) (by omega)]
      exact h2.2.2.2.2.2.2.2.2.2.2.2
    · refine RG_cp (p0 := 68) (h := h) hR2 hn hlen hpl (fun k hk => ?_)
      rw [h10 k hk, h5 68 (by omega) (by omega) (by omega), h3 68 (by omega)]
    · rw [r4 56 (by omega) (by omega) (by omega) (by omega) (by omega)]
      exact hs.2.1.2
    · rw [r4 56 (by omega) (by omega) (by omega) (by omega) (by omega), r4 0 (by omega) (by omega) (by omega) (by omega) (by omega)]
      exact p1
    · rw [r4 0 (by omega) (by omega) (by omega) (by omega) (by omega)]
      exact p2
    · refine RC_c hR1 (fun a a1 a2 _ => r4 a (by omega) (by omega) (by omega) (by omega) (by omega)) ?_
      rw [r4 25 (by omega) (by omega) (by omega) (by omega) (by omega)]
      exact hR1.2.2.2.2.2.2.2.2.2.2.2
    · exact RG_c hR2 (r4 68 (by omega) (by omega) (by omega) (by omega) (by omega))
    · obtain ⟨a1, a2, a3, a4⟩ := hA
      refine ⟨fun t ht => ?_, ?_, ?_, ?_⟩
      · obtain ⟨b1, b2, b3, b4⟩ := a1 t ht
        have q1 : ∀ a, a = 41 ∨ a = 42 ∨ a = 43 → h8 a = h4 a := fun a ha => h9 a (by omega)
        have q2 : ∀ a, a = 41 ∨ a = 42 ∨ a = 43 → h1 a = h a := fun a ha => h3 a (by omega)
        rw [q1 41 (by omega), q1 42 (by omega), q1 43 (by omega), r4 60 (by omega) (by omega) (by omega) (by omega) (by omega), r4 61 (by omega) (by omega) (by omega) (by omega) (by omega), r4 62 (by omega) (by omega) (by omega) (by omega) (by omega)]
        by_cases e : t < n'
        · obtain ⟨c1, c2, c3⟩ := h6 t e
          rw [c1, c2, c3, q2 41 (by omega), q2 42 (by omega), q2 43 (by omega)]
          exact ⟨fun _ => b1 (by omega), fun _ => by omega, b3, b4⟩
        · obtain ⟨c1, c2, c3⟩ := h7 t (by omega) ht
          exact ⟨fun _ => by omega, fun _ => ⟨c1, c2⟩, c3, b4⟩
      · unfold TP
        rw [r4 44 (by omega) (by omega) (by omega) (by omega) (by omega), r4 45 (by omega) (by omega) (by omega) (by omega) (by omega), r4 56 (by omega) (by omega) (by omega) (by omega) (by omega), r4 64 (by omega) (by omega) (by omega) (by omega) (by omega)]
        exact a2
      · unfold PP
        rw [r4 51 (by omega) (by omega) (by omega) (by omega) (by omega), r4 52 (by omega) (by omega) (by omega) (by omega) (by omega), r4 56 (by omega) (by omega) (by omega) (by omega) (by omega), r4 65 (by omega) (by omega) (by omega) (by omega) (by omega)]
        exact a3
      · unfold LSI
        rw [r4 54 (by omega) (by omega) (by omega) (by omega) (by omega), r4 55 (by omega) (by omega) (by omega) (by omega) (by omega), r4 66 (by omega) (by omega) (by omega) (by omega) (by omega), r4 67 (by omega) (by omega) (by omega) (by omega) (by omega)]
        exact a4
end CG3
