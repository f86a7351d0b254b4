/-! lots -/
def sd (s : Int32) : Int32 := s * nI 1103515245 + nI 12345
def rnd (s : Int32) (k : Nat) : Nat := (s.toBitVec.toNat % 2 ^ 31 / 65536) % k
def mdL (k : Nat) : Nat := if k = 0 then 2 else if k = 1 then 4 else 5
theorem rnd_e {s : Int32} {k : Nat} (hk : 0 < k) (hk2 : k < 2147483648) : ((s &&& nI 2147483647) / nI 65536) - ((s &&& nI 2147483647) / nI 65536) / nI k * nI k = nI (rnd s k) := by
  have e : s &&& nI 2147483647 = nI (s.toBitVec.toNat % 2 ^ 31) := pk_and s 31 (by decide)
  have l : s.toBitVec.toNat % 2 ^ 31 < 2147483648 := Nat.mod_lt _ (by omega)
  have l2 : s.toBitVec.toNat % 2 ^ 31 / 65536 < 2147483648 := by omega
  rw [e, pk_div l (by omega) (by omega), pk_rem l2 hk hk2]
  rfl
theorem rnd_lt (s : Int32) {k : Nat} (hk : 0 < k) : rnd s k < k := Nat.mod_lt _ hk
def fq1 (h h' : AH) : Prop := ∀ a, (a < 13 ∨ 25 ≤ a) → a ≠ 37 → a ≠ 38 → a ≠ 39 → h' a = h a
theorem fq1_tr {h h1 h2 : AH} (a : fq1 h h1) (c : fq1 h1 h2) : fq1 h h2 := fun i p1 p2 p3 p4 => (c i p1 p2 p3 p4).trans (a i p1 p2 p3 p4)
theorem fq1_fr {h h' : AH} (hf : fr 13 h h') : fq1 h h' := fun a p1 _ _ _ => hf a (by omega)
theorem fq1_up {i k : Nat} {v : Int32} {h : AH} (hi : i = 37 ∨ i = 38 ∨ i = 39) : fq1 h (up h i k v) := fun a _ _ _ _ => up_ne h i k v (by omega)
theorem fq1_fa {h h' : AH} (hf : fq1 h h') : fa h h' :=
  ⟨fun a ha => hf a (by unfold fcl at ha; omega) (by unfold fcl at ha; omega) (by unfold fcl at ha; omega) (by unfold fcl at ha; omega), by rw [hf 44 (by omega) (by omega) (by omega) (by omega)], by rw [hf 56 (by omega) (by omega) (by omega) (by omega)], by rw [hf 56 (by omega) (by omega) (by omega) (by omega)], by rw [hf 56 (by omega) (by omega) (by omega) (by omega)]⟩
theorem RC1_fq1 {n : Nat} {W B : Nat → Nat} {C : CT} {ln pl : LN} {g : Nat} {h h' : AH} (hR : RC 1 n W B C ln pl g h) (hf : fq1 h h') : RC 1 n W B C ln pl g h' :=
  RC_c hR (fun a h1 h2 _ => hf a (by omega) (by omega) (by omega) (by omega)) (by rw [hf 1 (by omega) (by omega) (by omega) (by omega)]; exact hR.2.2.2.2.2.2.2.2.2.2.2)
theorem RM_fq1 {n : Nat} {W B : Nat → Nat} {C : CT} {ln pl : LN} {g : Nat} {h h' : AH} (hR : RM n W B C ln pl g h) (hf : fq1 h h') : RM n W B C ln pl g h' :=
  ⟨RG_c hR.1 (hf 57 (by omega) (by omega) (by omega) (by omega)), by rw [hf 56 (by omega) (by omega) (by omega) (by omega)]; exact hR.2⟩
def ltS (n : Nat) (W : Nat → Nat) : Nat → CT → LN → Int32 → Nat → CT × LN × Nat
  | 0, C, ln, _, r => (C, ln, r)
  | j + 1, C, ln, s, r => if inL ln (rnd (sd s) 6) = true then ltS n W j C ln (sd s) r else
      ltS n W j (rqS W C ln (rnd (sd s) 6, rnd (sd (sd s)) n, mdL (rnd (sd (sd (sd s))) 3))).2.1 (rqS W C ln (rnd (sd s) 6, rnd (sd (sd s)) n, mdL (rnd (sd (sd (sd s))) 3))).2.2.1 (sd (sd (sd s))) (if (rqS W C ln (rnd (sd s) 6, rnd (sd (sd s)) n, mdL (rnd (sd (sd (sd s))) 3))).1 = nI 1 then r + 1 else r)
theorem mdL_v (k : Nat) : mdL k = 2 ∨ mdL k = 4 ∨ mdL k = 5 := by
  unfold mdL
  split
  · exact Or.inl rfl
  · split
    · exact Or.inr (Or.inl rfl)
    · exact Or.inr (Or.inr rfl)
theorem mdL_t : ∀ k, k < 3 → tAM k = nI (mdL k) := by decide
section CQ
variable {n F : Nat} {W B : Nat → Nat} {pl : LN} {h : AH}
theorem below_e {k : Nat} {K : Int32 → AH → Prop} (hk : 0 < k) (hk2 : k < 2147483648) : P_X2_below F (nI k) h K = K (nI (rnd (sd (h 39 0)) k)) (up h 39 0 (sd (h 39 0))) := by
  have e0 : ∀ z : Int32, up h 39 0 z 39 0 = z := fun z => by rw [upr, if_pos ⟨rfl, rfl⟩]
  have n1 : ¬ nI 65536 = 0 := by decide
  have n2 : ¬ nI k = 0 := by
    have := neq (a := k) (b := 0) hk2 (by omega)
    intro z
    have z2 : nI k = nI 0 := z
    rw [this] at z2
    omega
  have r := rnd_e (s := sd (h 39 0)) hk hk2
  unfold P_X2_below
  unfold sd at r ⊢
  rw [if_pos (by rw [nlt (by omega) hk2]; exact hk)]
  simp only [e0, n1, n2, not_false_eq_true, true_and, r]
theorem draw_e {k : Nat} {K : Int32 → AH → Prop} (hk : 0 < k) (hk2 : k < 2147483648) : P_X8_draw F (nI k) h K = K (nI (rnd (sd (h 56 13)) k)) (up h 56 13 (sd (h 56 13))) := by
  have e0 : ∀ z : Int32, up h 56 13 z 56 13 = z := fun z => by rw [upr, if_pos ⟨rfl, rfl⟩]
  have n1 : ¬ nI 65536 = 0 := by decide
  have n2 : ¬ nI k = 0 := by
    have := neq (a := k) (b := 0) hk2 (by omega)
    intro z
    have z2 : nI k = nI 0 := z
    rw [this] at z2
    omega
  have r := rnd_e (s := sd (h 56 13)) hk hk2
  unfold P_X8_draw
  unfold sd at r ⊢
  simp only [e0, n1, n2, not_false_eq_true, true_and, r]
theorem lot_c {k : Nat} {K : Int32 → AH → Prop} {x3 : Int32} {h0 : AH} (hn0 : 0 < n) (hFu : 500 ≤ F) (hk : k ≤ 60) (CF : CT) (LF : LN) (RF : Nat)
    (kk : ∀ h' g, RC 13 n W B CF LF pl g h' → fq1 h0 h' → K (if ¬ x3 = nI 0 then nI LF.length else nI RF) h') : ∀ (j N i c r g : Nat) (C : CT) (ln : LN) (s : Int32) (h : AH), i + j = k → j + 1 ≤ N → c + j < 20000 → RC 13 n W B C ln pl g h → WF c n W B C ln pl → h 39 0 = s → fq1 h0 h → ltS n W j C ln s r = (CF, LF, RF) → X7_lots_c60 F K N (nI k) x3 (nI r) (nI i) h := by
  intro j
  induction j with
  | zero =>
    intro N i c r g C ln s h h1 h2 h3 hR hF hs hf he
    obtain ⟨N, rfl⟩ : ∃ k, N = k + 1 := ⟨N - 1, by omega⟩
    unfold ltS at he
    cases he
    rw [X7_lots_c60_s]
    simp (disch := omega) only [Nat.not_lt_zero, nneg, nneg2, nlt, nle, neq, nI_add, pk_mul, nsub, ncl, nin, and_true, true_and, not_true_eq_false, not_false_eq_true, ↓reduceIte, Nat.reduceAdd, if_pos]
    have := kk h g hR hf
    have r5 := hR.2.2.2.2.2.1
    rw [r5]
    by_cases e : x3 = nI 0
    · simp only [e, not_true_eq_false, if_false] at this ⊢
      exact this
    · simp only [e, not_false_eq_true, if_true] at this ⊢
      exact this
  | succ j ih =>
    intro N i c r g C ln s h h1 h2 h3 hR hF hs hf he
    obtain ⟨N, rfl⟩ : ∃ k, N = k + 1 := ⟨N - 1, by omega⟩
    have ho : rnd (sd s) 6 < 6 := rnd_lt _ (by omega)
    rw [X7_lots_c60_s]
    refine ifn (by rw [nle (by omega) (by omega)]; omega) ?_
    unfold P_X7_askByLot
    rw [below_e (by omega) (by omega), hs]
    have hf1 : fq1 h (up h 39 0 (sd s)) := fq1_up (by omega)
    have hR1 : RC 13 n W B C ln pl g (up h 39 0 (sd s)) := RC_c hR (fun a h1 h2 _ => up_ne _ _ _ _ (by omega)) (by rw [up_ne _ _ _ _ (by omega)]; exact hR.2.2.2.2.2.2.2.2.2.2.2)
    have s1 : (up h 39 0 (sd s)) 39 0 = sd s := by rw [upr, if_pos ⟨rfl, rfl⟩]
    rw [waiting_e hR1 (WF_v hF) ho]
    unfold ltS at he
    cases e : inL ln (rnd (sd s) 6) with
    | true =>
      rw [e, if_pos rfl] at he
      refine ifn (by decide) ?_
      have q : ¬ (-5 : Int32) = nI 1 := by decide
      refine ifp q ?_
      unfold X7_lots_c77
      rw [nI_add]
      exact ih N (i + 1) c r g C ln (sd s) _ (by omega) (by omega) (by omega) hR1 hF s1 (fq1_tr hf hf1) he
    | false =>
      rw [e, if_neg (by decide)] at he
      refine ifp rfl ?_
      have r0 : (up h 39 0 (sd s)) 13 0 = nI n := hR1.1
      rw [r0, below_e hn0 (by have := hF.1; omega), s1]
      show P_X2_below F (nI 3) _ _
      rw [below_e (by omega) (by omega)]
      have s2 : up (up h 39 0 (sd s)) 39 0 (sd (sd s)) 39 0 = sd (sd s) := by rw [upr, if_pos ⟨rfl, rfl⟩]
      rw [s2]
      have hm : rnd (sd (sd (sd s))) 3 < 3 := rnd_lt _ (by omega)
      refine ⟨vp_in_nI hm (by omega), ?_⟩
      rw [ncl (by omega), mdL_t _ hm]
      have hv : vq n (rnd (sd s) 6, rnd (sd (sd s)) n, mdL (rnd (sd (sd (sd s))) 3)) := ⟨ho, rnd_lt _ hn0, mdL_v _⟩
      have hR3 : RC 13 n W B C ln pl g (up (up (up h 39 0 (sd s)) 39 0 (sd (sd s))) 39 0 (sd (sd (sd s)))) := by
        refine RC_c hR (fun a h1 h2 _ => ?_) ?_
        · rw [up_ne _ _ _ _ (by omega), up_ne _ _ _ _ (by omega), up_ne _ _ _ _ (by omega)]
        · rw [up_ne _ _ _ _ (by omega), up_ne _ _ _ _ (by omega), up_ne _ _ _ _ (by omega)]; exact hR.2.2.2.2.2.2.2.2.2.2.2
      refine request_v (q := (rnd (sd s) 6, rnd (sd (sd s)) n, mdL (rnd (sd (sd (sd s))) 3))) hR3 hF (by omega) (by omega) hv (fun h4 h5 h6 => ?_)
      have s4 : h4 39 0 = sd (sd (sd s)) := by rw [h6 39 (by omega), upr, if_pos ⟨rfl, rfl⟩]
      have hf4 : fq1 h0 h4 := fq1_tr (fq1_tr (fq1_tr (fq1_tr hf hf1) (fq1_up (by omega))) (fq1_up (by omega))) (fq1_fr h6)
      have k2 := fun r => ih N (i + 1) (c + 1) r _ _ _ (sd (sd (sd s))) h4 (by omega) (by omega) (by omega) h5 (rqS_WF hF hv) s4 hf4
      unfold X7_lots_c77
      rw [nI_add]
      by_cases e1 : (rqS W C ln (rnd (sd s) 6, rnd (sd (sd s)) n, mdL (rnd (sd (sd (sd s))) 3))).1 = nI 1
      · rw [if_pos e1] at he
        refine ifn (fun z => z e1) ?_
        rw [nI_add]
        exact k2 _ he
      · rw [if_neg e1] at he
        refine ifp e1 ?_
        exact k2 _ he
end CQ
