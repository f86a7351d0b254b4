/-! a new thing -/
def uN (f : Nat → Nat) (i x : Nat) : Nat → Nat := fun j => if j = i then x else f j
theorem uN_e (f : Nat → Nat) (i x : Nat) : uN f i x i = x := by unfold uN; simp
theorem uN_n {f : Nat → Nat} {i x j : Nat} (h : j ≠ i) : uN f i x j = f j := by unfold uN; simp [h]
def isW (n : Nat) (x : Int32) : Prop := x = -1 ∨ inr x n
theorem isW_of {n : Nat} {x : Int32} (h : isW n x) : ∃ w, w ≤ n ∧ x = wI w := by
  rcases h with h | ⟨k, h1, h2⟩
  · exact ⟨0, by omega, by rw [wI_0]; exact h⟩
  · exact ⟨k + 1, by omega, by rw [wI_s]; exact h2⟩
def ft (n : Nat) (h h' : AH) : Prop := (∀ a, a ≠ 57 → a ≠ 60 → a ≠ 61 → h' a = h a) ∧ (∀ k, k ≠ n → h' 60 k = h 60 k ∧ h' 61 k = h 61 k) ∧ h' 60 n = nI 0 ∧ h' 61 n = nI 0
theorem WF_th {c n w y : Nat} {W B : Nat → Nat} {C : CT} {ln pl : LN} (hF : WF c n W B C ln pl) (hn : n < 12) (hw : w ≤ n) (hy : y ≤ 1) : WF c (n + 1) (uN W n w) (uN B n y) C ln pl := by
  obtain ⟨f1, f2, f3, f4, f5, f6, f7, f8, f9, f10⟩ := hF
  refine ⟨by omega, fun t ht => ?_, fun t ht => ?_, fun t o m ht => f4 t o m (by omega), f5, fun t o ht ho => ?_, fun q hq => ⟨(f7 q hq).1, by have := (f7 q hq).2.1; omega, (f7 q hq).2.2⟩, f8, f9, fun q hq => ⟨(f10 q hq).1, by have := (f10 q hq).2.1; omega, (f10 q hq).2.2⟩⟩
  · by_cases e : t = n
    · subst e; rw [uN_e]; exact hw
    · rw [uN_n e]; exact f2 t (by omega)
  · by_cases e : t = n
    · subst e; rw [uN_e]; exact hy
    · rw [uN_n e]; exact f3 t (by omega)
  · have z : ∀ m, C n o m = 0 := fun m => f4 n o m (by omega)
    have key : ∀ f : Nat → Nat, f n = 0 → sumTo (fun p => if uN W n w p = t + 1 then f p else 0) (n + 1) = sumTo (fun p => if W p = t + 1 then f p else 0) n := fun f hf => by
      rw [sumTo, hf, ite_self, Nat.add_zero]
      refine sumTo_c n (fun p hp => ?_)
      have : p ≠ n := by omega
      rw [uN_n this]
    rw [key (fun p => C p o 1 + C p o 2) (by simp [z]), key (fun p => C p o 3 + C p o 4 + C p o 5) (by simp [z])]
    by_cases e : t = n
    · subst e
      rw [z, z]
      have zz : ∀ f : Nat → Nat, sumTo (fun p => if W p = t + 1 then f p else 0) t = 0 := fun f => sumTo_0 t (fun p hp => by
        have := f2 p hp
        rw [if_neg (by omega)])
      exact ⟨(zz _).symm, (zz _).symm⟩
    · exact f6 t o (by omega) ho
section CD
variable {b n : Nat} {W B : Nat → Nat} {C : CT} {ln pl : LN} {g : Nat} {h : AH} {F : Nat} {K : Int32 → AH → Prop} {x y : Int32}
theorem add26 {w k : Nat} (hR : RC b n W B C ln pl g h) (hn : n < 12) (kk : ∀ h', RC b (n + 1) (uN W n w) (uN B n k) C ln pl g h' → fr b h h' → K (nI n) h') : X5_addThing_c26 F b K (wI w) (nI k) h := by
  obtain ⟨r0, rW, rB, rC, rH, rL, rk, ra, rz, rP, rp, rg⟩ := hR
  unfold X5_addThing_c26
  have a1 : ∀ {i : Nat} {z : Int32} (h : AH), i ≠ b → up h i n z b = h b := fun h e => up_ne h _ _ _ (fun e2 => e e2.symm)
  have e1 : ∀ z : Int32, up h (b + 1) n z b = h b := fun z => up_ne h _ _ _ (by omega)
  have e2 : ∀ z z2 : Int32, up (up h (b + 1) n z) (b + 2) n z2 b = h b := fun z z2 => by rw [up_ne _ _ _ _ (by omega), e1]
  simp (disch := omega) only [Nat.not_lt_zero, nneg, nneg2, nlt, nle, neq, nI_add, pk_mul, nsub, ncl, nin, and_true, true_and, not_true_eq_false, not_false_eq_true, ↓reduceIte, Nat.reduceAdd, if_pos, if_neg, r0, e1, e2]
  have e3 : ∀ z z2 z3 : Int32, up (up (up h (b + 1) n z) (b + 2) n z2) b 0 z3 b 0 = z3 := fun z z2 z3 => by rw [upr, if_pos ⟨rfl, rfl⟩]
  simp (disch := omega) only [Nat.not_lt_zero, nneg, nneg2, nlt, nle, neq, nI_add, pk_mul, nsub, ncl, nin, and_true, true_and, not_true_eq_false, not_false_eq_true, ↓reduceIte, Nat.reduceAdd, if_pos, if_neg, e3]
  have fin := kk (up (up (up h (b + 1) n (wI w)) (b + 2) n (nI k)) b 0 (nI (n + 1))) ?_ (fr_tr (fr_tr (fr_up (by omega) (by omega)) (fr_up (by omega) (by omega))) (fr_up (by omega) (by omega)))
  · have : n + 1 - 1 = n := by omega
    simpa only [this] using fin
  · refine ⟨e3 _ _ _, fun t ht => ?_, fun t ht => ?_, ?_, ?_, ?_, ?_, ?_, ?_, ?_, ?_, ?_⟩
    · rw [up_ne _ _ _ _ (by omega), up_ne _ _ _ _ (by omega), upr]
      by_cases e : t = n
      · subst e; rw [if_pos ⟨rfl, rfl⟩, uN_e]
      · rw [if_neg (by omega), uN_n e]; exact rW t (by omega)
    · rw [up_ne _ _ _ _ (by omega), upr]
      by_cases e : t = n
      · subst e; rw [if_pos ⟨rfl, rfl⟩, uN_e]
      · rw [if_neg (by omega), up_ne _ _ _ _ (by omega), uN_n e]; exact rB t (by omega)
    · intro t o m h1 h2 h3 h4
      rw [up_ne _ _ _ _ (by omega), up_ne _ _ _ _ (by omega), up_ne _ _ _ _ (by omega)]; exact rC t o m h1 h2 h3 h4
    · intro t m h1 h2 h3
      rw [up_ne _ _ _ _ (by omega), up_ne _ _ _ _ (by omega), up_ne _ _ _ _ (by omega)]; exact rH t m h1 h2 h3
    · rw [upr, if_neg (by omega), up_ne _ _ _ _ (by omega), up_ne _ _ _ _ (by omega)]; exact rL
    · intro j q hq
      rw [up_ne _ _ _ _ (by omega), up_ne _ _ _ _ (by omega), up_ne _ _ _ _ (by omega)]; exact rk j q hq
    · intro q hq
      rw [up_ne _ _ _ _ (by omega), up_ne _ _ _ _ (by omega), up_ne _ _ _ _ (by omega), up_ne _ _ _ _ (by omega), up_ne _ _ _ _ (by omega), up_ne _ _ _ _ (by omega)]; exact ra q hq
    · intro o h1 h2
      rw [up_ne _ _ _ _ (by omega), up_ne _ _ _ _ (by omega), up_ne _ _ _ _ (by omega)]; exact rz o h1 h2
    · rw [upr, if_neg (by omega), up_ne _ _ _ _ (by omega), up_ne _ _ _ _ (by omega)]; exact rP
    · intro j q hq
      have := rp j q hq
      refine ⟨?_, ?_, ?_⟩
      · rw [up_ne _ _ _ _ (by omega), up_ne _ _ _ _ (by omega), up_ne _ _ _ _ (by omega)]; exact this.1
      · rw [up_ne _ _ _ _ (by omega), up_ne _ _ _ _ (by omega), up_ne _ _ _ _ (by omega)]; exact this.2.1
      · rw [up_ne _ _ _ _ (by omega), up_ne _ _ _ _ (by omega), up_ne _ _ _ _ (by omega)]; exact this.2.2
    · rw [upr, if_neg (by omega), up_ne _ _ _ _ (by omega), up_ne _ _ _ _ (by omega)]; exact rg
theorem add15 {P : Prop} (hy : inr y 2) (h1 : P → X5_addThing_c26 F b K x y h) (hP : P) : X5_addThing_c15 F b K x y h := by
  obtain ⟨k, hk, rfl⟩ := hy
  unfold X5_addThing_c15
  have : k = 0 ∨ k = 1 := by omega
  rcases this with e | e <;> subst e <;> simp (disch := omega) only [Nat.not_lt_zero, nneg, nneg2, nlt, nle, neq, nI_add, pk_mul, nsub, ncl, nin, and_true, true_and, not_true_eq_false, not_false_eq_true, ↓reduceIte, Nat.reduceAdd, if_pos, if_neg] <;> exact h1 hP
theorem add_y {w k : Nat} (hR : RC b n W B C ln pl g h) (hn : n < 12) (hw : w ≤ n) (hk : k ≤ 1) (kk : ∀ h', RC b (n + 1) (uN W n w) (uN B n k) C ln pl g h' → fr b h h' → K (nI n) h') : P_X5_addThing F b (wI w) (nI k) h K := by
  unfold P_X5_addThing
  have core : X5_addThing_c15 F b K (wI w) (nI k) h := add15 (P := True) ⟨k, by omega, rfl⟩ (fun _ => add26 hR hn kk) trivial
  cases w with
  | zero => simp only [wI_0, if_true] at core ⊢; exact core
  | succ w =>
    simp only [wI_s] at core ⊢
    rw [isThing_y hR.1 (by omega) ⟨w, by omega, rfl⟩]
    simp (disch := omega) only [Nat.not_lt_zero, nneg, nneg2, nlt, nle, neq, nI_add, pk_mul, nsub, ncl, nin, and_true, true_and, not_true_eq_false, not_false_eq_true, ↓reduceIte, Nat.reduceAdd, if_pos, if_neg]
    exact core
theorem add_f (hR : RC b n W B C ln pl g h) (hn : n = 12) (hx : isW n x) (hy : inr y 2) : P_X5_addThing F b x y h K ↔ K (-3) h := by
  have e26 : ∀ x y, X5_addThing_c26 F b K x y h = K (-3) h := fun x y => by
    unfold X5_addThing_c26
    rw [hR.1, hn]
    simp (disch := omega) only [Nat.not_lt_zero, nneg, nneg2, nlt, nle, neq, nI_add, pk_mul, nsub, ncl, nin, and_true, true_and, not_true_eq_false, not_false_eq_true, ↓reduceIte, Nat.reduceAdd, if_pos, if_neg]
  have core : X5_addThing_c15 F b K x y h = K (-3) h := by
    obtain ⟨k, hk, rfl⟩ := hy
    unfold X5_addThing_c15
    have : k = 0 ∨ k = 1 := by omega
    rcases this with e | e <;> subst e <;> simp (disch := omega) only [Nat.not_lt_zero, nneg, nneg2, nlt, nle, neq, nI_add, pk_mul, nsub, ncl, nin, and_true, true_and, not_true_eq_false, not_false_eq_true, ↓reduceIte, Nat.reduceAdd, if_pos, if_neg, e26]
  unfold P_X5_addThing
  rcases hx with hx | hx
  · rw [if_pos hx, core]
  · rw [isThing_y hR.1 (by omega) hx]
    simp (disch := omega) only [Nat.not_lt_zero, nneg, nneg2, nlt, nle, neq, nI_add, pk_mul, nsub, ncl, nin, and_true, true_and, not_true_eq_false, not_false_eq_true, ↓reduceIte, Nat.reduceAdd, if_pos, if_neg, core, ite_self]
theorem add_n (hR : RC b n W B C ln pl g h) (hn : n ≤ 12) (hx : ¬ (isW n x ∧ inr y 2)) : P_X5_addThing F b x y h K = K (-1) h := by
  unfold P_X5_addThing
  by_cases e : isW n x
  · have hy : ¬ inr y 2 := fun z => hx ⟨e, z⟩
    have core : X5_addThing_c15 F b K x y h = K (-1) h := by
      unfold X5_addThing_c15
      have h0 : ¬ y = nI 0 := fun z => hy ⟨0, by omega, z⟩
      have h1 : ¬ y = nI 1 := fun z => hy ⟨1, by omega, z⟩
      simp only [h0, h1, if_false]
    rcases e with e | e
    · rw [if_pos e, core]
    · rw [isThing_y hR.1 hn e]
      simp (disch := omega) only [Nat.not_lt_zero, nneg, nneg2, nlt, nle, neq, nI_add, pk_mul, nsub, ncl, nin, and_true, true_and, not_true_eq_false, not_false_eq_true, ↓reduceIte, Nat.reduceAdd, if_pos, if_neg, core, ite_self]
  · have e1 : ¬ x = -1 := fun z => e (Or.inl z)
    have e2 : ¬ inr x n := fun z => e (Or.inr z)
    rw [if_neg e1, isThing_n hR.1 hn e2]
    simp (disch := omega) only [Nat.not_lt_zero, nneg, nneg2, nlt, nle, neq, nI_add, pk_mul, nsub, ncl, nin, and_true, true_and, not_true_eq_false, not_false_eq_true, ↓reduceIte, Nat.reduceAdd, if_pos, if_neg]
/-- the reference -/
theorem th_in {rc81 : Int32 → Int32 → AH → Prop} {o : Nat} {h0 : AH} (hn : n < 12) (ho : o < 6) (kk : ∀ h', (∀ a, a ≠ 57 → h' a = h0 a) → (∀ j, (∀ k, 1 ≤ k → k ≤ 5 → j ≠ 81 + (o * 12 + n) * 5 + k - 1) → h' 57 j = h0 57 j) → (∀ k, 1 ≤ k → k ≤ 5 → h' 57 (81 + (o * 12 + n) * 5 + k - 1) = nI 0) → rc81 (nI n) (nI (o + 1)) h') :
    ∀ (d N k : Nat) (h : AH), k + d = 6 → 1 ≤ k → d + 1 ≤ N → (∀ a, a ≠ 57 → h a = h0 a) → (∀ j, (∀ k, 1 ≤ k → k ≤ 5 → j ≠ 81 + (o * 12 + n) * 5 + k - 1) → h 57 j = h0 57 j) → (∀ i, 1 ≤ i → i < k → h 57 (81 + (o * 12 + n) * 5 + i - 1) = nI 0) → X8_thing_c91 F rc81 K N (nI n) (nI o) (nI k) h := by
  intro d
  induction d with
  | zero =>
    intro N k h h1 h2 h3 h4 h5 h6
    obtain ⟨N, rfl⟩ : ∃ k, N = k + 1 := ⟨N - 1, by omega⟩
    have : k = 6 := by omega
    subst this
    rw [X8_thing_c91_s]
    simp (disch := omega) only [Nat.not_lt_zero, nneg, nneg2, nlt, nle, neq, nI_add, pk_mul, nsub, ncl, nin, and_true, true_and, not_true_eq_false, not_false_eq_true, ↓reduceIte, Nat.reduceAdd, if_pos, if_neg]
    exact kk h h4 h5 (fun i h7 h8 => h6 i h7 (by omega))
  | succ d ih =>
    intro N k h h1 h2 h3 h4 h5 h6
    obtain ⟨N, rfl⟩ : ∃ k, N = k + 1 := ⟨N - 1, by omega⟩
    rw [X8_thing_c91_s]
    simp (disch := omega) only [Nat.not_lt_zero, nneg, nneg2, nlt, nle, neq, nI_add, pk_mul, nsub, ncl, nin, and_true, true_and, not_true_eq_false, not_false_eq_true, ↓reduceIte, Nat.reduceAdd, if_pos, if_neg, P_X8_at]
    refine ih N (k + 1) _ (by omega) (by omega) (by omega) (fun a ha => ?_) (fun j hj => ?_) (fun i h7 h8 => ?_)
    · rw [up_ne _ _ _ _ ha]; exact h4 a ha
    · have := hj k h2 (by omega)
      rw [upr, if_neg (by omega)]
      exact h5 j hj
    · rw [upr]
      by_cases e : i = k
      · subst e
        rw [if_pos ⟨rfl, rfl⟩]
      · rw [if_neg (by omega)]
        exact h6 i h7 (by omega)
theorem th_l {h0 : AH} (hn : n < 12) (r0 : h0 57 0 = nI n) (hFu : 20 ≤ F) (kk : ∀ h', (∀ a, a ≠ 57 → h' a = h0 a) → h' 57 0 = nI (n + 1) → (∀ j, j ≠ 0 → (∀ o k, o < 6 → 1 ≤ k → k ≤ 5 → j ≠ 81 + (o * 12 + n) * 5 + k - 1) → h' 57 j = h0 57 j) → (∀ o k, o < 6 → 1 ≤ k → k ≤ 5 → h' 57 (81 + (o * 12 + n) * 5 + k - 1) = nI 0) → K (nI n) h') :
    ∀ (d N o : Nat) (h : AH), o + d = 6 → d + 1 ≤ N → (∀ a, a ≠ 57 → h a = h0 a) → (∀ j, (∀ o k, o < 6 → 1 ≤ k → k ≤ 5 → j ≠ 81 + (o * 12 + n) * 5 + k - 1) → h 57 j = h0 57 j) → (∀ i k, i < o → 1 ≤ k → k ≤ 5 → h 57 (81 + (i * 12 + n) * 5 + k - 1) = nI 0) → X8_thing_c81 F K N (nI n) (nI o) h := by
  intro d
  induction d with
  | zero =>
    intro N o h h1 h3 h4 h5 h6
    obtain ⟨N, rfl⟩ : ∃ k, N = k + 1 := ⟨N - 1, by omega⟩
    have : o = 6 := by omega
    subst this
    have e := h5 0 (fun o k _ _ _ => by omega)
    rw [r0] at e
    rw [X8_thing_c81_s]
    simp (disch := omega) only [Nat.not_lt_zero, nneg, nneg2, nlt, nle, neq, nI_add, pk_mul, nsub, ncl, nin, and_true, true_and, not_true_eq_false, not_false_eq_true, ↓reduceIte, Nat.reduceAdd, if_pos, if_neg, e]
    refine kk _ (fun a ha => ?_) ?_ (fun j hj0 hj => ?_) (fun o k h7 h8 h9 => ?_)
    · rw [up_ne _ _ _ _ ha]; exact h4 a ha
    · rw [upr, if_pos ⟨rfl, rfl⟩]
    · rw [upr, if_neg (by omega)]; exact h5 j hj
    · rw [upr, if_neg (by omega)]; exact h6 o k h7 h8 h9
  | succ d ih =>
    intro N o h h1 h3 h4 h5 h6
    obtain ⟨N, rfl⟩ : ∃ k, N = k + 1 := ⟨N - 1, by omega⟩
    rw [X8_thing_c81_s]
    simp (disch := omega) only [Nat.not_lt_zero, nneg, nneg2, nlt, nle, neq, nI_add, pk_mul, nsub, ncl, nin, and_true, true_and, not_true_eq_false, not_false_eq_true, ↓reduceIte, Nat.reduceAdd, if_pos, if_neg]
    refine th_in (h0 := h) hn (by omega) (fun h' a1 a2 a3 => ?_) 5 F 1 h (by omega) (by omega) (by omega) (fun _ _ => rfl) (fun _ _ => rfl) (fun i _ _ => by omega)
    refine ih N (o + 1) h' (by omega) (by omega) (fun a ha => (a1 a ha).trans (h4 a ha)) (fun j hj => (a2 j (fun k h7 h8 => hj o k (by omega) h7 h8)).trans (h5 j hj)) (fun i k h7 h8 h9 => ?_)
    by_cases e : i = o
    · subst e; exact a3 k h8 h9
    · rw [a2 _ (fun k' h10 h11 => by omega)]
      exact h6 i k (by omega) h8 h9
theorem rth13 {w k c : Nat} (hR : RM n W B C ln pl g h) (hF : WF c n W B C ln pl) (hn : n < 12) (hk : k ≤ 1) (hFu : 20 ≤ F) (kk : ∀ h', RM (n + 1) (uN W n w) (uN B n k) C ln pl g h' → ft n h h' → K (nI n) h') : X8_thing_c13 F K (wI w) (nI k) h := by
  obtain ⟨⟨r0, rW, rB, rC, rL, rk, rP, rp⟩, rg⟩ := hR
  have hlen := WF_6 hF
  have hpl := hF.2.2.2.2.2.2.2.2.1
  have f4 := hF.2.2.2.1
  unfold X8_thing_c13
  rw [inA_y (a := 0) (b := 1) (by omega) ⟨k, by omega, hk, rfl⟩]
  simp (disch := omega) only [Nat.not_lt_zero, nneg, nneg2, nlt, nle, neq, nI_add, pk_mul, nsub, ncl, nin, and_true, true_and, not_true_eq_false, not_false_eq_true, ↓reduceIte, Nat.reduceAdd, if_pos, if_neg, r0]
  refine th_l (h0 := up (up (up (up h 57 (1 + n) (wI w)) 57 (13 + n) (nI k)) 60 n (nI 0)) 61 n (nI 0)) hn ?_ hFu (fun h' a1 a2 a3 a4 => ?_) 6 F 0 _ (by omega) (by omega) (fun _ _ => rfl) (fun _ _ => rfl) (fun i _ h => by omega)
  · rw [up_ne _ _ _ _ (by omega), up_ne _ _ _ _ (by omega), upr, if_neg (by omega), upr, if_neg (by omega)]
    exact r0
  · have b3 : ∀ j, j ≠ 0 → (∀ o k, o < 6 → 1 ≤ k → k ≤ 5 → j ≠ 81 + (o * 12 + n) * 5 + k - 1) → h' 57 j = if j = 13 + n then nI k else if j = 1 + n then wI w else h 57 j := fun j hj0 hj => by
      rw [a3 j hj0 hj, up_ne _ _ _ _ (by omega), up_ne _ _ _ _ (by omega), upr, upr]
      simp
    have b4 : ∀ j, j ≠ 0 → j ≠ 13 + n → j ≠ 1 + n → (∀ o k, o < 6 → 1 ≤ k → k ≤ 5 → j ≠ 81 + (o * 12 + n) * 5 + k - 1) → h' 57 j = h 57 j := fun j h1 h2 h3 h4 => by
      rw [b3 j h1 h4, if_neg h2, if_neg h3]
    refine kk h' ⟨⟨a2, fun t ht => ?_, fun t ht => ?_, fun t o m ht ho hm1 hm2 => ?_, ?_, fun j q hq => ?_, ?_, fun j q hq => ?_⟩, ?_⟩ ⟨fun a h1 h2 h3 => ?_, fun j hj => ⟨?_, ?_⟩, ?_, ?_⟩
    · by_cases e : t = n
      · subst e
        rw [b3 _ (by omega) (fun o k _ _ _ => by omega), if_neg (by omega), if_pos rfl, uN_e]
      · rw [b4 _ (by omega) (by omega) (by omega) (fun o k _ _ _ => by omega), uN_n e]
        exact rW t (by omega)
    · by_cases e : t = n
      · subst e
        rw [b3 _ (by omega) (fun o k _ _ _ => by omega), if_pos rfl, uN_e]
      · rw [b4 _ (by omega) (by omega) (by omega) (fun o k _ _ _ => by omega), uN_n e]
        exact rB t (by omega)
    · by_cases e : t = n
      · subst e
        rw [a4 o m ho hm1 hm2, f4 t o m (by omega)]
      · rw [b4 _ (by omega) (by omega) (by omega) (fun o' k _ _ _ => by omega)]
        exact rC t o m (by omega) ho hm1 hm2
    · rw [b4 _ (by omega) (by omega) (by omega) (fun o' k _ _ _ => by omega)]
      exact rL
    · have hj : j < ln.length := (List.getElem?_eq_some_iff.mp hq).1
      rw [b4 _ (by omega) (by omega) (by omega) (fun o' k _ _ _ => by omega), b4 _ (by omega) (by omega) (by omega) (fun o' k _ _ _ => by omega), b4 _ (by omega) (by omega) (by omega) (fun o' k _ _ _ => by omega)]
      exact rk j q hq
    · rw [b4 _ (by omega) (by omega) (by omega) (fun o' k _ _ _ => by omega)]
      exact rP
    · have hj : j < pl.length := (List.getElem?_eq_some_iff.mp hq).1
      rw [b4 _ (by omega) (by omega) (by omega) (fun o' k _ _ _ => by omega), b4 _ (by omega) (by omega) (by omega) (fun o' k _ _ _ => by omega), b4 _ (by omega) (by omega) (by omega) (fun o' k _ _ _ => by omega)]
      exact rp j q hq
    · rw [a1 56 (by omega), up_ne _ _ _ _ (by omega), up_ne _ _ _ _ (by omega), up_ne _ _ _ _ (by omega), up_ne _ _ _ _ (by omega)]
      exact rg
    · rw [a1 a h1, up_ne _ _ _ _ h3, up_ne _ _ _ _ h2, up_ne _ _ _ _ h1, up_ne _ _ _ _ h1]
    · rw [a1 60 (by omega), up_ne _ _ _ _ (by omega), upr, if_neg (by omega), up_ne _ _ _ _ (by omega), up_ne _ _ _ _ (by omega)]
    · rw [a1 61 (by omega), upr, if_neg (by omega), up_ne _ _ _ _ (by omega), up_ne _ _ _ _ (by omega), up_ne _ _ _ _ (by omega)]
    · rw [a1 60 (by omega), up_ne _ _ _ _ (by omega), upr, if_pos ⟨rfl, rfl⟩]
    · rw [a1 61 (by omega), upr, if_pos ⟨rfl, rfl⟩]
theorem rth_y {w k c : Nat} (hR : RM n W B C ln pl g h) (hF : WF c n W B C ln pl) (hn : n < 12) (hw : w ≤ n) (hk : k ≤ 1) (hFu : 20 ≤ F) (kk : ∀ h', RM (n + 1) (uN W n w) (uN B n k) C ln pl g h' → ft n h h' → K (nI n) h') : P_X8_thing F (wI w) (nI k) h K := by
  unfold P_X8_thing
  have core : X8_thing_c13 F K (wI w) (nI k) h := rth13 hR hF hn hk hFu kk
  cases w with
  | zero => simp only [wI_0, if_true] at core ⊢; exact core
  | succ w =>
    simp only [wI_s] at core ⊢
    rw [isThing_ry hR.1.1 (by omega) ⟨w, by omega, rfl⟩]
    simp (disch := omega) only [Nat.not_lt_zero, nneg, nneg2, nlt, nle, neq, nI_add, pk_mul, nsub, ncl, nin, and_true, true_and, not_true_eq_false, not_false_eq_true, ↓reduceIte, Nat.reduceAdd, if_pos, if_neg]
    exact core
theorem rth_f (hR : RM n W B C ln pl g h) (hn : n = 12) (hx : isW n x) (hy : inr y 2) : P_X8_thing F x y h K = K (-3) h := by
  have core : X8_thing_c13 F K x y h = K (-3) h := by
    obtain ⟨k, hk, rfl⟩ := hy
    unfold X8_thing_c13
    have r0 := hR.1.1
    rw [hn] at r0
    rw [inA_y (a := 0) (b := 1) (by omega) ⟨k, by omega, by omega, rfl⟩]
    simp (disch := omega) only [Nat.not_lt_zero, nneg, nneg2, nlt, nle, neq, nI_add, pk_mul, nsub, ncl, nin, and_true, true_and, not_true_eq_false, not_false_eq_true, ↓reduceIte, Nat.reduceAdd, if_pos, if_neg, r0]
  unfold P_X8_thing
  rcases hx with hx | hx
  · rw [if_pos hx, core]
  · rw [isThing_ry hR.1.1 (by omega) hx]
    simp (disch := omega) only [Nat.not_lt_zero, nneg, nneg2, nlt, nle, neq, nI_add, pk_mul, nsub, ncl, nin, and_true, true_and, not_true_eq_false, not_false_eq_true, ↓reduceIte, Nat.reduceAdd, if_pos, if_neg, core, ite_self]
theorem rth_n (hR : RM n W B C ln pl g h) (hn : n ≤ 12) (hx : ¬ (isW n x ∧ inr y 2)) : P_X8_thing F x y h K = K (-1) h := by
  unfold P_X8_thing
  by_cases e : isW n x
  · have hy : ¬ inr y 2 := fun z => hx ⟨e, z⟩
    have core : X8_thing_c13 F K x y h = K (-1) h := by
      unfold X8_thing_c13
      have h0 : ¬ ins y 0 1 := fun ⟨k, a, b, c⟩ => hy ⟨k, by omega, c⟩
      rw [inA_n (a := 0) (b := 1) (by omega) (by omega) h0]
      simp (disch := omega) only [Nat.not_lt_zero, nneg, nneg2, nlt, nle, neq, nI_add, pk_mul, nsub, ncl, nin, and_true, true_and, not_true_eq_false, not_false_eq_true, ↓reduceIte, Nat.reduceAdd, if_pos, if_neg]
    rcases e with e | e
    · rw [if_pos e, core]
    · rw [isThing_ry hR.1.1 hn e]
      simp (disch := omega) only [Nat.not_lt_zero, nneg, nneg2, nlt, nle, neq, nI_add, pk_mul, nsub, ncl, nin, and_true, true_and, not_true_eq_false, not_false_eq_true, ↓reduceIte, Nat.reduceAdd, if_pos, if_neg, core, ite_self]
  · have e1 : ¬ x = -1 := fun z => e (Or.inl z)
    have e2 : ¬ inr x n := fun z => e (Or.inr z)
    rw [if_neg e1, isThing_rn hR.1.1 hn e2]
    simp (disch := omega) only [Nat.not_lt_zero, nneg, nneg2, nlt, nle, neq, nI_add, pk_mul, nsub, ncl, nin, and_true, true_and, not_true_eq_false, not_false_eq_true, ↓reduceIte, Nat.reduceAdd, if_pos, if_neg]
end CD
