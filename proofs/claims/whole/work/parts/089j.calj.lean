/-! gates -/
def uI (f : Nat → Int32) (i : Nat) (x : Int32) : Nat → Int32 := fun j => if j = i then x else f j
def eE (E : Nat → Int32) (t : Nat) : Nat → Int32 := uI E t (E t + nI 1)
def eI (I : Nat → Int32) (t : Nat) : Nat → Int32 := uI I t (I t + nI 1)
def eD (D I : Nat → Int32) (t : Nat) : Nat → Int32 := uI D t (if D t < I t + nI 1 then I t + nI 1 else D t)
def lI (I : Nat → Int32) (t : Nat) : Nat → Int32 := uI I t (I t - nI 1)
def gs (a n : Nat) (E D I : Nat → Int32) (X : Int32) (h0 h : AH) : Prop := (∀ t, t < n → h a t = E t ∧ h (a + 1) t = D t ∧ h (a + 2) t = I t) ∧ (∀ t, n ≤ t → h a t = h0 a t ∧ h (a + 1) t = h0 (a + 1) t ∧ h (a + 2) t = h0 (a + 2) t) ∧ (∀ b, b ≠ a → b ≠ a + 1 → b ≠ a + 2 → b ≠ 56 → h b = h0 b) ∧ (∀ k, k ≠ 14 → h 56 k = h0 56 k) ∧ h 56 14 = X
theorem lI_e (I : Nat → Int32) (t : Nat) : lI (eI I t) t = I := by
  funext j
  unfold lI eI uI
  by_cases e : j = t
  · subst e; simp
  · simp [e]
section GS
variable {n a F : Nat} {E D I : Nat → Int32} {X : Int32} {h0 h : AH} {K : AH → Prop} {t : Nat}
theorem gs_ent (ha : a + 2 < 56 ∨ 56 < a) (hs : gs a n E D I X h0 h) (ht : t < n) : gs a n (eE E t) (eD D I t) (eI I t) X h0 (up (up (up h a t (h a t + nI 1)) (a + 2) t (h (a + 2) t + nI 1)) (a + 1) t (if h (a + 1) t < h (a + 2) t + nI 1 then h (a + 2) t + nI 1 else h (a + 1) t)) := by
  obtain ⟨s1, s2, s3, s4, s5⟩ := hs
  obtain ⟨q1, q2, q3⟩ := s1 t ht
  refine ⟨fun j hj => ?_, fun j hj => ?_, fun b h1 h2 h3 h4 => ?_, fun k hk => ?_, ?_⟩
  · obtain ⟨p1, p2, p3⟩ := s1 j hj
    unfold eE eD eI uI
    rw [q1, q2, q3]
    refine ⟨?_, ?_, ?_⟩
    · rw [up_ne _ _ _ _ (by omega), up_ne _ _ _ _ (by omega), upr]
      by_cases e : j = t
      · rw [if_pos ⟨rfl, e⟩, if_pos e]
      · rw [if_neg (by omega), if_neg e]; exact p1
    · rw [upr]
      by_cases e : j = t
      · rw [if_pos ⟨rfl, e⟩, if_pos e]
      · rw [if_neg (by omega), up_ne _ _ _ _ (by omega), up_ne _ _ _ _ (by omega), if_neg e]; exact p2
    · rw [up_ne _ _ _ _ (by omega), upr]
      by_cases e : j = t
      · rw [if_pos ⟨rfl, e⟩, if_pos e]
      · rw [if_neg (by omega), up_ne _ _ _ _ (by omega), if_neg e]; exact p3
  · rw [upr, if_neg (by omega), upr, if_neg (by omega), upr, if_neg (by omega), upr, if_neg (by omega), upr, if_neg (by omega), upr, if_neg (by omega), upr, if_neg (by omega), upr, if_neg (by omega), upr, if_neg (by omega)]
    exact s2 j hj
  · rw [up_ne _ _ _ _ h2, up_ne _ _ _ _ h3, up_ne _ _ _ _ h1]
    exact s3 b h1 h2 h3 h4
  · rw [up_ne _ _ _ _ (by omega), up_ne _ _ _ _ (by omega), up_ne _ _ _ _ (by omega)]
    exact s4 k hk
  · rw [up_ne _ _ _ _ (by omega), up_ne _ _ _ _ (by omega), up_ne _ _ _ _ (by omega)]
    exact s5
theorem gs_I {x : Int32} {I' : Nat → Int32} (ha : a + 2 < 56 ∨ 56 < a) (hs : gs a n E D I X h0 h) (ht : t < n) (e : uI I t x = I') : gs a n E D I' X h0 (up h (a + 2) t x) := by
  obtain ⟨s1, s2, s3, s4, s5⟩ := hs
  refine ⟨fun j hj => ?_, fun j hj => ?_, fun b h1 h2 h3 h4 => ?_, fun k hk => ?_, ?_⟩
  · obtain ⟨p1, p2, p3⟩ := s1 j hj
    rw [up_ne _ _ _ _ (by omega), up_ne _ _ _ _ (by omega), upr, ← e]
    refine ⟨p1, p2, ?_⟩
    unfold uI
    by_cases e : j = t
    · rw [if_pos ⟨rfl, e⟩, if_pos e]
    · rw [if_neg (by omega), if_neg e]; exact p3
  · rw [up_ne _ _ _ _ (by omega), up_ne _ _ _ _ (by omega), upr, if_neg (by omega)]
    exact s2 j hj
  · rw [up_ne _ _ _ _ h3]
    exact s3 b h1 h2 h3 h4
  · rw [up_ne _ _ _ _ (by omega)]
    exact s4 k hk
  · rw [up_ne _ _ _ _ (by omega)]
    exact s5
theorem enter_e (hs : gs 41 n E D I X h0 h) (hn : n ≤ 12) (ht : t < n) (kk : ∀ h', gs 41 n (eE E t) (eD D I t) (eI I t) X h0 h' → K h') : P_X0_enter F (nI t) h K := by
  have := gs_ent (by omega) hs ht
  unfold P_X0_enter
  have e1 : up h 41 t (h 41 t + nI 1) 43 t = h 43 t := by rw [up_ne _ _ _ _ (by omega)]
  have e2 : ∀ z : Int32, up (up h 41 t (h 41 t + nI 1)) 43 t z 42 t = h 42 t := fun z => by rw [up_ne _ _ _ _ (by omega), up_ne _ _ _ _ (by omega)]
  have e3 : ∀ z : Int32, up (up h 41 t (h 41 t + nI 1)) 43 t z 43 t = z := fun z => by rw [upr, if_pos ⟨rfl, rfl⟩]
  simp (disch := omega) only [Nat.not_lt_zero, nneg, nneg2, nlt, nle, neq, nI_add, pk_mul, nsub, ncl, nin, and_true, true_and, not_true_eq_false, not_false_eq_true, ↓reduceIte, Nat.reduceAdd, if_pos, if_neg, e1, e2, e3]
  exact kk _ this
theorem goes_e (hs : gs 60 n E D I X h0 h) (hn : n ≤ 12) (ht : t < n) (kk : ∀ h', gs 60 n (eE E t) (eD D I t) (eI I t) X h0 h' → K h') : P_X8_goesInto F (nI t) h K := by
  have := gs_ent (by omega) hs ht
  unfold P_X8_goesInto
  have e1 : up h 60 t (h 60 t + nI 1) 62 t = h 62 t := by rw [up_ne _ _ _ _ (by omega)]
  have e2 : ∀ z : Int32, up (up h 60 t (h 60 t + nI 1)) 62 t z 61 t = h 61 t := fun z => by rw [up_ne _ _ _ _ (by omega), up_ne _ _ _ _ (by omega)]
  have e3 : ∀ z : Int32, up (up h 60 t (h 60 t + nI 1)) 62 t z 62 t = z := fun z => by rw [upr, if_pos ⟨rfl, rfl⟩]
  simp (disch := omega) only [Nat.not_lt_zero, nneg, nneg2, nlt, nle, neq, nI_add, pk_mul, nsub, ncl, nin, and_true, true_and, not_true_eq_false, not_false_eq_true, ↓reduceIte, Nat.reduceAdd, if_pos, if_neg, e1, e2, e3]
  exact kk _ this
theorem leave_e (hs : gs 41 n E D I X h0 h) (hn : n ≤ 12) (ht : t < n) (kk : ∀ h', gs 41 n E D (lI I t) X h0 h' → K h') : P_X0_leave F (nI t) h K := by
  unfold P_X0_leave
  simp (disch := omega) only [Nat.not_lt_zero, nneg, nneg2, nlt, nle, neq, nI_add, pk_mul, nsub, ncl, nin, and_true, true_and, not_true_eq_false, not_false_eq_true, ↓reduceIte, Nat.reduceAdd, if_pos, if_neg]
  refine kk _ (gs_I (by omega) hs ht ?_)
  unfold lI
  rw [(hs.1 t ht).2.2]
theorem rleave (hs : gs 60 n E D I X h0 h) (ht : t < n) : gs 60 n E D (lI I t) X h0 (up h 62 t (h 62 t - nI 1)) := by
  refine gs_I (by omega) hs ht ?_
  unfold lI
  rw [(hs.1 t ht).2.2]
theorem gs_0 (a : Nat) (ha : a + 2 < 56 ∨ 56 < a) (h : AH) : gs a n (h a) (h (a + 1)) (h (a + 2)) (h 56 14) h h := ⟨fun _ _ => ⟨rfl, rfl, rfl⟩, fun _ _ => ⟨rfl, rfl, rfl⟩, fun _ _ _ _ _ => rfl, fun _ _ => rfl, rfl⟩
theorem gs_c {E' D' I' : Nat → Int32} (hs : gs a n E D I X h0 h) (e : ∀ t, t < n → E t = E' t ∧ D t = D' t ∧ I t = I' t) : gs a n E' D' I' X h0 h :=
  ⟨fun t ht => ⟨(hs.1 t ht).1.trans (e t ht).1, (hs.1 t ht).2.1.trans (e t ht).2.1, (hs.1 t ht).2.2.trans (e t ht).2.2⟩, hs.2⟩
end GS
/-- from both sides' gates to what holds between two calls -/
theorem INV_g {m c l n : Nat} {W B : Nat → Nat} {C : CT} {ln pl : LN} {g : Nat} {h h1 h2 : AH} {E D I : Nat → Int32} {X Y : Int32} (hs : ST m c l n W B C ln pl g h) (hm : m < 513) (g1 : gs 41 n E D I X h h1) (g2 : gs 60 n E D I Y h1 h2) (hz : ∀ t, t < n → I t = nI 0) : INV (m + 1) h2 := by
  have e : ∀ a, a ≠ 41 → a ≠ 42 → a ≠ 43 → a ≠ 60 → a ≠ 61 → a ≠ 62 → a ≠ 56 → h2 a = h a := fun a a1 a2 a3 a4 a5 a6 a7 => by rw [g2.2.2.1 a a4 a5 a6 a7, g1.2.2.1 a a1 a2 a3 a7]
  have e56 : ∀ k, k ≠ 14 → h2 56 k = h 56 k := fun k hk => by rw [g2.2.2.2.1 k hk, g1.2.2.2.1 k hk]
  obtain ⟨k1, k2, k3, k4, k5⟩ := hs.2.2.2.1
  refine INV_o hs hm (fun a ha => e a (by omega) (by omega) (by omega) (by omega) (by omega) (by omega) (by omega)) (e56 4 (by omega)) (e56 28 (by omega)) ⟨fun t ht => ?_, ?_, ?_, ?_⟩ (Nat.le_succ l)
  · obtain ⟨b1, b2, b3, b4⟩ := k2 t ht
    have c4 : ∀ a, a = 41 ∨ a = 42 ∨ a = 43 → h2 a = h1 a := fun a ha => g2.2.2.1 a (by omega) (by omega) (by omega) (by omega)
    have c6 : ∀ a, a = 60 ∨ a = 61 ∨ a = 62 → h1 a = h a := fun a ha => g1.2.2.1 a (by omega) (by omega) (by omega) (by omega)
    rw [c4 41 (by omega), c4 42 (by omega), c4 43 (by omega)]
    by_cases e2 : t < n
    · obtain ⟨p1, p2, p3⟩ := g1.1 t e2
      obtain ⟨q1, q2, q3⟩ := g2.1 t e2
      rw [p1, p2, p3, q1, q2, q3]
      exact ⟨fun _ => ⟨rfl, rfl⟩, fun _ => by omega, hz t e2, hz t e2⟩
    · obtain ⟨p1, p2, p3⟩ := g1.2.1 t (by omega)
      obtain ⟨q1, q2, q3⟩ := g2.2.1 t (by omega)
      rw [p1, p2, p3, q3, c6 62 (by omega)]
      exact ⟨fun _ => by omega, fun _ => b2 (by omega), b3, b4⟩
  · unfold TP
    rw [e 44 (by omega) (by omega) (by omega) (by omega) (by omega) (by omega) (by omega), e56 16 (by omega), e 45 (by omega) (by omega) (by omega) (by omega) (by omega) (by omega) (by omega), e 64 (by omega) (by omega) (by omega) (by omega) (by omega) (by omega) (by omega)]
    exact k3
  · unfold PP
    rw [e 51 (by omega) (by omega) (by omega) (by omega) (by omega) (by omega) (by omega), e56 24 (by omega), e 52 (by omega) (by omega) (by omega) (by omega) (by omega) (by omega) (by omega), e 65 (by omega) (by omega) (by omega) (by omega) (by omega) (by omega) (by omega)]
    exact k4
  · unfold LSI
    rw [e 54 (by omega) (by omega) (by omega) (by omega) (by omega) (by omega) (by omega), e 55 (by omega) (by omega) (by omega) (by omega) (by omega) (by omega) (by omega), e 66 (by omega) (by omega) (by omega) (by omega) (by omega) (by omega) (by omega), e 67 (by omega) (by omega) (by omega) (by omega) (by omega) (by omega) (by omega)]
    exact k5
/-- both sides begin alike -/
theorem gs_b {m c l n : Nat} {W B : Nat → Nat} {C : CT} {ln pl : LN} {g : Nat} {h h1 : AH} {E D I : Nat → Int32} {X : Int32} (hs : ST m c l n W B C ln pl g h) (g1 : gs 41 n E D I X h h1) : gs 60 n (h 41) (h 42) (fun _ => nI 0) (h1 56 14) h1 h1 := by
  have hn := hs.2.2.1.1
  refine gs_c (gs_0 60 (by omega) h1) (fun t ht => ?_)
  obtain ⟨b1, b2, b3, b4⟩ := hs.2.2.2.1.2.1 t (by omega)
  have c6 : ∀ a, a = 60 ∨ a = 61 ∨ a = 62 → h1 a = h a := fun a ha => g1.2.2.1 a (by omega) (by omega) (by omega) (by omega)
  rw [c6 60 (by omega), c6 61 (by omega), c6 62 (by omega)]
  exact ⟨(b1 ht).1.symm, (b1 ht).2.symm, b4⟩
theorem gs_a {m c l n : Nat} {W B : Nat → Nat} {C : CT} {ln pl : LN} {g : Nat} {h : AH} (hs : ST m c l n W B C ln pl g h) : gs 41 n (h 41) (h 42) (fun _ => nI 0) (h 56 14) h h := by
  have hn := hs.2.2.1.1
  refine gs_c (gs_0 41 (by omega) h) (fun t ht => ?_)
  obtain ⟨b1, b2, b3, b4⟩ := hs.2.2.2.1.2.1 t (by omega)
  exact ⟨rfl, rfl, b3⟩
theorem bare_e {b n F t : Nat} {W B : Nat → Nat} {C : CT} {ln pl : LN} {g : Nat} {h : AH} {K : Int32 → AH → Prop} (hR : RC b n W B C ln pl g h) (hn : n ≤ 12) (hB : ∀ t, t < n → B t ≤ 1) (ht : t < n) : P_X5_isBare F b (nI t) h K = K (nI (if B t = 1 then 1 else 0)) h := by
  have r := hR.2.2.1 t ht
  have b1 := hB t ht
  unfold P_X5_isBare
  by_cases e : B t = 1 <;> simp (disch := omega) only [Nat.not_lt_zero, nneg, nneg2, nlt, nle, neq, nI_add, pk_mul, nsub, ncl, nin, and_true, true_and, not_true_eq_false, not_false_eq_true, ↓reduceIte, Nat.reduceAdd, if_pos, if_neg, r, e, if_true, if_false]
theorem bare_r {n F t : Nat} {W B : Nat → Nat} {C : CT} {ln pl : LN} {h : AH} {K : Int32 → AH → Prop} (hR : RG 57 n W B C ln pl h) (hn : n ≤ 12) (hB : ∀ t, t < n → B t ≤ 1) (ht : t < n) : P_X8_isBare F (nI t) h K = K (nI (if B t = 1 then 1 else 0)) h := by
  have r := hR.2.2.1 t ht
  have b1 := hB t ht
  unfold P_X8_isBare
  by_cases e : B t = 1 <;> simp (disch := omega) only [Nat.not_lt_zero, nneg, nneg2, nlt, nle, neq, nI_add, pk_mul, nsub, ncl, nin, and_true, true_and, not_true_eq_false, not_false_eq_true, ↓reduceIte, Nat.reduceAdd, if_pos, if_neg, r, e, if_true, if_false]
theorem gref_e {n F : Nat} {x : Int32} {W B : Nat → Nat} {C : CT} {ln pl : LN} {g : Nat} {h : AH} {K : Int32 → AH → Prop} (hR : RC 1 n W B C ln pl g h) (hn : n ≤ 12) (hB : ∀ t, t < n → B t ≤ 1) (hx : ¬ inr x n) : P_X7_gateRefusal F x h K = K (-1) h := by
  unfold P_X7_gateRefusal
  rw [isThing_n hR.1 hn hx]
  simp (disch := omega) only [Nat.not_lt_zero, nneg, nneg2, nlt, nle, neq, nI_add, pk_mul, nsub, ncl, nin, and_true, true_and, not_true_eq_false, not_false_eq_true, ↓reduceIte, Nat.reduceAdd, if_pos, if_neg]
theorem gref_t {n F t : Nat} {W B : Nat → Nat} {C : CT} {ln pl : LN} {g : Nat} {h : AH} {K : Int32 → AH → Prop} (hR : RC 1 n W B C ln pl g h) (hn : n ≤ 12) (hB : ∀ t, t < n → B t ≤ 1) (ht : t < n) : P_X7_gateRefusal F (nI t) h K = K (if B t = 1 then -11 else nI 0) h := by
  unfold P_X7_gateRefusal
  rw [isThing_y hR.1 hn ⟨t, ht, rfl⟩]
  simp (disch := omega) only [Nat.not_lt_zero, nneg, nneg2, nlt, nle, neq, nI_add, pk_mul, nsub, ncl, nin, and_true, true_and, not_true_eq_false, not_false_eq_true, ↓reduceIte, Nat.reduceAdd, if_pos, if_neg]
  rw [bare_e hR hn hB ht]
  by_cases e : B t = 1 <;> simp (disch := omega) only [Nat.not_lt_zero, nneg, nneg2, nlt, nle, neq, nI_add, pk_mul, nsub, ncl, nin, and_true, true_and, not_true_eq_false, not_false_eq_true, ↓reduceIte, Nat.reduceAdd, if_pos, if_neg, e, if_true, if_false]
section CJ
variable {m F : Nat} {h : AH} {G Z : AH → Prop} {x y z : Int32}
theorem call_gate (hI : INV m h) (hm : m < 513) (kk : ∀ h', INV (m + 1) h' → G h') : P_X7_gate F x y h (fun r h1 => P_X8_gate F x y h1 (fun r' h3 => if r = r' then G h3 else Z h3)) := by
  obtain ⟨c, l, n, W, B, C, ln, pl, g, hs⟩ := hI
  have hF := hs.2.2.1
  have hn := hF.1
  have hB := hF.2.2.1
  refine pairI (P7 := fun h K => P_X7_gate F x y h K) (P8 := fun h K => P_X8_gate F x y h K) ?_ (kk _ (INV_s hs hm))
  by_cases hy : ins y 0 2
  · have ey := hy
    obtain ⟨k, hk1, hk2, rfl⟩ := hy
    by_cases hx : inr x n
    · have ex := hx
      obtain ⟨t, ht, rfl⟩ := hx
      by_cases e : B t = 1
      · refine ⟨-11, fun K kk => ?_, fun K kk => ?_⟩
        · unfold P_X7_gate
          simp (disch := omega) only [Nat.not_lt_zero, nneg, nneg2, nlt, nle, neq, nI_add, pk_mul, nsub, ncl, nin, and_true, true_and, not_true_eq_false, not_false_eq_true, ↓reduceIte, Nat.reduceAdd, if_pos, if_neg]
          have q : ¬ (-11 : Int32) = nI 0 := by decide
          rw [gref_t hs.1 hn hB ht, if_pos e, if_neg q]
          exact kk
        · unfold P_X8_gate
          rw [isThing_ry hs.2.1.1.1 hn ex]
          simp (disch := omega) only [Nat.not_lt_zero, nneg, nneg2, nlt, nle, neq, nI_add, pk_mul, nsub, ncl, nin, and_true, true_and, not_true_eq_false, not_false_eq_true, ↓reduceIte, Nat.reduceAdd, if_pos, if_neg]
          rw [inA_y (a := 0) (b := 2) (by omega) ey]
          simp (disch := omega) only [Nat.not_lt_zero, nneg, nneg2, nlt, nle, neq, nI_add, pk_mul, nsub, ncl, nin, and_true, true_and, not_true_eq_false, not_false_eq_true, ↓reduceIte, Nat.reduceAdd, if_pos, if_neg]
          rw [bare_r hs.2.1.1 hn hB ht, if_pos e]
          simp (disch := omega) only [Nat.not_lt_zero, nneg, nneg2, nlt, nle, neq, nI_add, pk_mul, nsub, ncl, nin, and_true, true_and, not_true_eq_false, not_false_eq_true, ↓reduceIte, Nat.reduceAdd, if_pos, if_neg]
          exact kk
      · obtain ⟨b1, b2, b3, b4⟩ := hs.2.2.2.1.2.1 t (by omega)
        obtain ⟨b1, b1'⟩ := b1 ht
        refine ⟨if k = 0 then h 41 t else if k = 1 then h 42 t else nI 0, fun K kk => ?_, fun K kk => ?_⟩
        · unfold P_X7_gate
          simp (disch := omega) only [Nat.not_lt_zero, nneg, nneg2, nlt, nle, neq, nI_add, pk_mul, nsub, ncl, nin, and_true, true_and, not_true_eq_false, not_false_eq_true, ↓reduceIte, Nat.reduceAdd, if_pos, if_neg]
          rw [gref_t hs.1 hn hB ht, if_neg e, if_pos rfl]
          by_cases e0 : k = 0
          · simp only [e0, if_true] at kk ⊢
            exact kk
          by_cases e1 : k = 1
          · simp (disch := omega) only [Nat.not_lt_zero, nneg, nneg2, nlt, nle, neq, nI_add, pk_mul, nsub, ncl, nin, and_true, true_and, not_true_eq_false, not_false_eq_true, ↓reduceIte, Nat.reduceAdd, e1, if_pos, if_neg] at kk ⊢
            exact kk
          simp (disch := omega) only [Nat.not_lt_zero, nneg, nneg2, nlt, nle, neq, nI_add, pk_mul, nsub, ncl, nin, and_true, true_and, not_true_eq_false, not_false_eq_true, ↓reduceIte, Nat.reduceAdd, e0, e1, if_false, b3] at kk ⊢
          exact kk
        · unfold P_X8_gate
          rw [isThing_ry hs.2.1.1.1 hn ex]
          simp (disch := omega) only [Nat.not_lt_zero, nneg, nneg2, nlt, nle, neq, nI_add, pk_mul, nsub, ncl, nin, and_true, true_and, not_true_eq_false, not_false_eq_true, ↓reduceIte, Nat.reduceAdd, if_pos, if_neg]
          rw [inA_y (a := 0) (b := 2) (by omega) ey]
          simp (disch := omega) only [Nat.not_lt_zero, nneg, nneg2, nlt, nle, neq, nI_add, pk_mul, nsub, ncl, nin, and_true, true_and, not_true_eq_false, not_false_eq_true, ↓reduceIte, Nat.reduceAdd, if_pos, if_neg]
          rw [bare_r hs.2.1.1 hn hB ht, if_neg e]
          rw [b1, b1'] at kk
          by_cases e0 : k = 0
          · simp only [e0, if_true, not_true_eq_false, if_false] at kk ⊢
            exact kk
          by_cases e1 : k = 1
          · simp (disch := omega) only [Nat.not_lt_zero, nneg, nneg2, nlt, nle, neq, nI_add, pk_mul, nsub, ncl, nin, and_true, true_and, not_true_eq_false, not_false_eq_true, ↓reduceIte, Nat.reduceAdd, e1, if_pos, if_neg] at kk ⊢
            exact kk
          simp (disch := omega) only [Nat.not_lt_zero, nneg, nneg2, nlt, nle, neq, nI_add, pk_mul, nsub, ncl, nin, and_true, true_and, not_true_eq_false, not_false_eq_true, ↓reduceIte, Nat.reduceAdd, e0, e1, if_false, b4, if_true] at kk ⊢
          exact kk
    · refine ⟨-1, fun K kk => ?_, fun K kk => ?_⟩
      · unfold P_X7_gate
        have q : ¬ (-1 : Int32) = nI 0 := by decide
        simp (disch := omega) only [Nat.not_lt_zero, nneg, nneg2, nlt, nle, neq, nI_add, pk_mul, nsub, ncl, nin, and_true, true_and, not_true_eq_false, not_false_eq_true, ↓reduceIte, Nat.reduceAdd, if_pos, if_neg]
        rw [gref_e hs.1 hn hB hx, if_neg q]
        exact kk
      · unfold P_X8_gate
        rw [isThing_rn hs.2.1.1.1 hn hx]
        simp (disch := omega) only [Nat.not_lt_zero, nneg, nneg2, nlt, nle, neq, nI_add, pk_mul, nsub, ncl, nin, and_true, true_and, not_true_eq_false, not_false_eq_true, ↓reduceIte, Nat.reduceAdd, if_pos, if_neg]
        exact kk
  · refine ⟨-1, fun K kk => ?_, fun K kk => ?_⟩
    · unfold P_X7_gate
      rcases ins_not hy with q | ⟨k, q1, q2, rfl⟩
      · simp only [neg_lt (k := 0) q (by omega), if_true]
        exact kk
      · simp (disch := omega) only [Nat.not_lt_zero, nneg, nneg2, nlt, nle, neq, nI_add, pk_mul, nsub, ncl, nin, and_true, true_and, not_true_eq_false, not_false_eq_true, ↓reduceIte, Nat.reduceAdd, if_pos, if_neg]
        exact kk
    · unfold P_X8_gate
      by_cases hx : inr x n
      · rw [isThing_ry hs.2.1.1.1 hn hx]
        simp (disch := omega) only [Nat.not_lt_zero, nneg, nneg2, nlt, nle, neq, nI_add, pk_mul, nsub, ncl, nin, and_true, true_and, not_true_eq_false, not_false_eq_true, ↓reduceIte, Nat.reduceAdd, if_pos, if_neg]
        rw [inA_n (a := 0) (b := 2) (by omega) (by omega) hy]
        simp (disch := omega) only [Nat.not_lt_zero, nneg, nneg2, nlt, nle, neq, nI_add, pk_mul, nsub, ncl, nin, and_true, true_and, not_true_eq_false, not_false_eq_true, ↓reduceIte, Nat.reduceAdd, if_pos, if_neg]
        exact kk
      · rw [isThing_rn hs.2.1.1.1 hn hx]
        simp (disch := omega) only [Nat.not_lt_zero, nneg, nneg2, nlt, nle, neq, nI_add, pk_mul, nsub, ncl, nin, and_true, true_and, not_true_eq_false, not_false_eq_true, ↓reduceIte, Nat.reduceAdd, if_pos, if_neg]
        exact kk
end CJ
