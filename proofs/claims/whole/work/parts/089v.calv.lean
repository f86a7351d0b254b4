/-! plays: the start of the class -/
section CV
variable {n c F : Nat} {W B : Nat → Nat} {C : CT} {ln pl : LN} {g : Nat} {h h0 : AH}
def fz (h h' : AH) : Prop := ∀ a, a ≠ 37 → a ≠ 38 → h' a = h a
theorem fz_tr {h h1 h2 : AH} (a : fz h h1) (c : fz h1 h2) : fz h h2 := fun i p1 p2 => (c i p1 p2).trans (a i p1 p2)
theorem fz_up {i k : Nat} {v : Int32} {h : AH} (hi : i = 37 ∨ i = 38) : fz h (up h i k v) := fun a _ _ => up_ne h i k v (by omega)
theorem fz_q {h h' : AH} (hf : fz h h') : fq1 h h' := fun a _ p1 p2 _ => hf a p1 p2
theorem RC_fz {h' : AH} (hR : RC 13 n W B C ln pl g h) (hf : fz h h') : RC 13 n W B C ln pl g h' :=
  RC_c hR (fun a _ _ _ => hf a (by omega) (by omega)) (by rw [hf 13 (by omega) (by omega)]; exact hR.2.2.2.2.2.2.2.2.2.2.2)
theorem start_2 {K : AH → Prop} (hR : RC 13 n W B C ln pl g h0) (hF : WF c n W B C ln pl) (x2 x3 : Int32)
    (kk : ∀ h', fz h0 h' → h' 37 1 = nI (ow0 pl pl.length) → h' 37 2 = x2 → h' 37 3 = x3 → (∀ o, o < 6 → h' 38 o = nI 0) → K h') : ∀ (d N i : Nat) (h : AH), i + d = pl.length → d + 1 ≤ N → fz h0 h → h 37 1 = nI (ow0 pl i) → h 37 2 = x2 → h 37 3 = x3 → (∀ o, o < 6 → h 38 o = nI 0) → X4_start_c38 F 13 K N (nI i) h := by
  have hpl := hF.2.2.2.2.2.2.2.2.1
  have hpv := hF.2.2.2.2.2.2.2.2.2
  intro d
  induction d with
  | zero =>
    intro N i h h1 h2 hf e1 e2 e3 e4
    obtain ⟨N, rfl⟩ : ∃ k, N = k + 1 := ⟨N - 1, by omega⟩
    have rP := (RC_fz hR hf).2.2.2.2.2.2.2.2.2.1
    have : i = pl.length := by omega
    subst this
    rw [X4_start_c38_s, rP]
    exact ifp (by rw [nle (by omega) (by omega)]; omega) (kk h hf e1 e2 e3 e4)
  | succ d ih =>
    intro N i h h1 h2 hf e1 e2 e3 e4
    obtain ⟨N, rfl⟩ : ∃ k, N = k + 1 := ⟨N - 1, by omega⟩
    have hR1 := RC_fz hR hf
    have rP := hR1.2.2.2.2.2.2.2.2.2.1
    have e : pl[i]? = some pl[i] := List.getElem?_eq_getElem (by omega)
    have a1 := (hR1.2.2.2.2.2.2.2.2.2.2.1 i _ e).1
    have hq := (hpv pl[i] (List.getElem_mem _)).1
    rw [X4_start_c38_s, rP]
    refine ifn (by rw [nle (by omega) (by omega)]; omega) ⟨vp_in_nI (by omega) (by omega), ?_⟩
    rw [ncl (by omega), a1, e1, bsh1 _ (by omega), bor, nI_add]
    refine ih N (i + 1) _ (by omega) (by omega) (fz_tr hf (fz_up (by omega))) ?_ ?_ ?_ (fun o ho => ?_)
    · rw [upr, if_pos ⟨rfl, rfl⟩]
      conv => rhs; unfold ow0
      rw [e]
    · rw [upr, if_neg (by omega)]; exact e2
    · rw [upr, if_neg (by omega)]; exact e3
    · rw [up_ne _ _ _ _ (by omega)]; exact e4 o ho
theorem start_1 {K : AH → Prop} (x1 x2 x3 : Int32) 
    (kk : ∀ h', fz h0 h' → h' 37 1 = x1 → h' 37 2 = x2 → h' 37 3 = x3 → (∀ o, o < 6 → h' 38 o = nI 0) → X4_start_c38 F 13 K F (nI 0) h') : ∀ (d N o : Nat) (h : AH), o + d = 6 → d + 1 ≤ N → fz h0 h → h 37 1 = x1 → h 37 2 = x2 → h 37 3 = x3 → (∀ j, j < o → h 38 j = nI 0) → X4_start_c17 F 13 K N (nI o) h := by
  intro d
  induction d with
  | zero =>
    intro N o h h1 h2 hf e1 e2 e3 e4
    obtain ⟨N, rfl⟩ : ∃ k, N = k + 1 := ⟨N - 1, by omega⟩
    rw [X4_start_c17_s]
    exact ifp (by rw [nle (by omega) (by omega)]; omega) (kk h hf e1 e2 e3 (fun j hj => e4 j (by omega)))
  | succ d ih =>
    intro N o h h1 h2 hf e1 e2 e3 e4
    obtain ⟨N, rfl⟩ : ∃ k, N = k + 1 := ⟨N - 1, by omega⟩
    rw [X4_start_c17_s]
    refine ifn (by rw [nle (by omega) (by omega)]; omega) ⟨vp_in_nI (by omega) (by omega), ?_⟩
    rw [ncl (by omega), nI_add]
    refine ih N (o + 1) _ (by omega) (by omega) (fz_tr hf (fz_up (by omega))) ?_ ?_ ?_ (fun j hj => ?_)
    · rw [up_ne _ _ _ _ (by omega)]; exact e1
    · rw [up_ne _ _ _ _ (by omega)]; exact e2
    · rw [up_ne _ _ _ _ (by omega)]; exact e3
    · rw [upr]
      by_cases e : j = o
      · rw [if_pos ⟨rfl, e⟩]
      · rw [if_neg (by omega)]; exact e4 j (by omega)
theorem start_e {K : AH → Prop} (hFu : 500 ≤ F) (hR : RC 13 n W B C ln pl g h) (hF : WF c n W B C ln pl)
    (kk : ∀ h', fz h h' → h' 37 1 = nI (ow0 pl pl.length) → h' 37 2 = nI 0 → h' 37 3 = nI 0 → (∀ o, o < 6 → h' 38 o = nI 0) → K h') : P_X4_start F 13 h K := by
  have hpl := hF.2.2.2.2.2.2.2.2.1
  unfold P_X4_start
  refine start_1 (h0 := h) (nI 0) (nI 0) (nI 0) (fun h1 p1 p2 p3 p4 p5 => ?_) 6 F 0 _ (by omega) (by omega) (fz_tr (fz_tr (fz_up (by omega)) (fz_up (by omega))) (fz_up (by omega))) ?_ ?_ ?_ (fun j hj => by omega)
  · exact start_2 (h0 := h) hR hF (nI 0) (nI 0) kk pl.length F 0 h1 (by omega) (by omega) p1 p2 p3 p4 p5
  · rw [upr, if_neg (by omega), upr, if_neg (by omega), upr, if_pos ⟨rfl, rfl⟩]
  · rw [upr, if_neg (by omega), upr, if_pos ⟨rfl, rfl⟩]
  · rw [upr, if_pos ⟨rfl, rfl⟩]
/-! plays: the reference -/
theorem xan_d : (List.range 64).all (fun a => (List.range 64).all (fun b => decide (nI a &&& (nI b ^^^ -1) = nI (mk6 (fun o => a.testBit o && !b.testBit o))))) = true := by decide +kernel
theorem xan {a b : Nat} (ha : a < 64) (hb : b < 64) : nI a &&& (nI b ^^^ -1) = nI (mk6 (fun o => a.testBit o && !b.testBit o)) := by
  have h1 := List.all_eq_true.mp xan_d a (List.mem_range.mpr ha)
  have h2 := List.all_eq_true.mp h1 b (List.mem_range.mpr hb)
  exact of_decide_eq_true h2
def fp (h h' : AH) : Prop := (∀ a, a ≠ 56 → a ≠ 57 → a ≠ 63 → h' a = h a) ∧ ∀ k, k ≠ 4 → k ≠ 10 → k ≠ 11 → k ≠ 12 → h' 56 k = h 56 k
theorem fp_rf (h : AH) : fp h h := ⟨fun _ _ _ _ => rfl, fun _ _ _ _ _ => rfl⟩
theorem fp_tr {h h1 h2 : AH} (a : fp h h1) (c : fp h1 h2) : fp h h2 := ⟨fun i p1 p2 p3 => (c.1 i p1 p2 p3).trans (a.1 i p1 p2 p3), fun k p1 p2 p3 p4 => (c.2 k p1 p2 p3 p4).trans (a.2 k p1 p2 p3 p4)⟩
theorem fp_fm {h h' : AH} (hf : fm h h') : fp h h' := ⟨fun a p1 p2 _ => hf.1 a p2 p1, fun k p1 _ _ _ => hf.2 k p1⟩
theorem fp_63 {h : AH} {k : Nat} {v : Int32} : fp h (up h 63 k v) := ⟨fun a _ _ p3 => up_ne _ _ _ _ p3, fun k _ _ _ _ => up_c (by omega)⟩
theorem fp_56 {h : AH} {k : Nat} {v : Int32} (hk : k = 10 ∨ k = 11 ∨ k = 12) : fp h (up h 56 k v) := ⟨fun a p1 _ _ => up_ne _ _ _ _ p1, fun j _ _ _ _ => up_k (by omega)⟩
theorem fp_8 {h h' : AH} (hf : fp h h') : fr8 h h' := ⟨fun a p1 p2 _ _ p5 => hf.1 a p1 p2 p5, hf.2 16 (by omega) (by omega) (by omega) (by omega), hf.2 24 (by omega) (by omega) (by omega) (by omega), hf.2 28 (by omega) (by omega) (by omega) (by omega)⟩
theorem AS8_fp {h h' : AH} (hA : AS8 n W B C ln pl g h) (hf : fp h h') : AS8 n W B C ln pl g h' :=
  ⟨RG_c hA.1 (hf.1 58 (by omega) (by omega) (by omega)), by rw [hf.2 5 (by omega) (by omega) (by omega) (by omega)]; exact hA.2⟩
theorem RM_63 {k : Nat} {v : Int32} (hR : RM n W B C ln pl g h) : RM n W B C ln pl g (up h 63 k v) :=
  ⟨RG_c hR.1 (up_ne _ _ _ _ (by omega)), by rw [up_ne _ _ _ _ (by omega)]; exact hR.2⟩
def RTh (wr th ow : Nat) : Prop := wr < 64 ∧ th < 64 ∧ (∀ o, o < 6 → th.testBit o = true → wr.testBit o = true) ∧ ow = mk6 (fun o => wr.testBit o && !th.testBit o)
theorem RTh_z {wr th ow : Nat} (h : RTh wr th ow) : ow = 0 ↔ th = wr := by
  obtain ⟨h1, h2, h3, h4⟩ := h
  rw [h4, mk6_z]
  constructor
  · intro e
    refine eq6 h2 h1 (fun o ho => ?_)
    have a := e o ho
    have b := h3 o ho
    revert a b
    cases th.testBit o <;> cases wr.testBit o <;> simp
  · intro e o ho
    rw [e]
    simp
theorem RTh_0 {wr : Nat} (h : wr < 64) : RTh wr 0 wr := ⟨h, by omega, fun o _ => by simp, by
  refine eq6 h (mk6_lt _) (fun o ho => ?_)
  rw [mk6_tb _ ho]
  simp⟩
theorem RTh_s {wr th ow o : Nat} (h : RTh wr th ow) (ho : o < 6) (hb : ow.testBit o = true) : RTh wr (th ||| 2 ^ o) (clr ow o) := by
  obtain ⟨h1, h2, h3, h4⟩ := h
  refine ⟨h1, or_lt64 h2 (pow_lt64 ho), fun j hj e => ?_, ?_⟩
  · rw [Nat.testBit_or, Nat.testBit_two_pow] at e
    by_cases e2 : o = j
    · subst e2
      rw [h4, mk6_tb _ ho] at hb
      revert hb
      cases wr.testBit o <;> simp
    · rw [decide_eq_false e2, Bool.or_false] at e
      exact h3 j hj e
  · rw [h4, clr_mk ho]
    refine mk6_cong (fun j hj => ?_)
    rw [Nat.testBit_or, Nat.testBit_two_pow, beqc j o]
    by_cases e2 : o = j
    · subst e2
      simp
    · have e3 : (o == j) = false := by simpa using e2
      rw [decide_eq_false e2, e3]
      simp
def RPl (n : Nat) (W B : Nat → Nat) (pl : LN) (wr g0 : Nat) (s : PS) (h : AH) : Prop := RM n W B s.1 s.2.1 pl (g0 + s.2.2.1) h ∧ h 56 11 = nI wr ∧ (∃ th, h 56 10 = nI th ∧ RTh wr th s.2.2.2.1) ∧ ∀ o, o < 6 → h 63 o = nI (s.2.2.2.2 o)
theorem roundR_o {K : AH → Prop} (hFu : 500 ≤ F) {h0 : AH} {X : Int32} {wr g0 : Nat} : ∀ (d N o c : Nat) (s : PS) (h : AH), o + d = 6 → d + 1 ≤ N → okP c n W B pl s → c + 6 * d < 1000000 → RPl n W B pl wr g0 s h → fp h0 h → h 56 12 = X →
    (∀ N h', 1 ≤ N → RPl n W B pl wr g0 (prS W pl d o s) h' → fp h0 h' → h' 56 12 = X → X8_round_c2 F K N (nI 6) h') → X8_round_c2 F K N (nI o) h := by
  intro d
  induction d with
  | zero =>
    intro N o c s h h1 h2 hk hc hs hf x2 kk
    have : o = 6 := by omega
    subst this
    exact kk N h (by omega) hs hf x2
  | succ d ih =>
    intro N o c s h h1 h2 hk hc hs hf x2 kk
    obtain ⟨N, rfl⟩ : ∃ k, N = k + 1 := ⟨N - 1, by omega⟩
    have ho : o < 6 := by omega
    have go : ∀ h', RPl n W B pl wr g0 (poS W pl o s) h' → fp h0 h' → h' 56 12 = X → X8_round_c2 F K N (nI (o + 1)) h' := fun h' q1 q2 q3 => ih N (o + 1) (c + 6) _ h' (by omega) (by omega) (okP_po hk ho) (by omega) q1 q2 q3 kk
    obtain ⟨C, ln, g, ow, nr⟩ := s
    obtain ⟨k1, k2, k3⟩ := hk
    obtain ⟨hR, h11, ⟨th, h10, hT⟩, hn⟩ := hs
    simp only [] at k1 k2 k3 hR h11 h10 hT hn
    have hL : ∀ q, q ∈ ln → q.1 < 6 := fun q hq => (WF_v k1 q hq).1
    have hlen := WF_6 k1
    rw [X8_round_c2_s]
    refine ifn (by rw [nle (by omega) (by omega)]; omega) ?_
    rw [h10, h11, xan hT.1 hT.2.1, ← hT.2.2.2, has_e (by omega) (by omega)]
    unfold poS at go
    simp only [] at go
    cases e1 : ow.testBit o with
    | false =>
      rw [e1] at go
      simp only [Bool.false_eq_true, if_false] at go
      refine ifp rfl ?_
      unfold X8_round_c39
      rw [nI_add]
      exact go h ⟨hR, h11, ⟨th, h10, hT⟩, hn⟩ hf x2
    | true =>
      rw [e1] at go
      simp only [if_true] at go
      refine ifn (by decide) ?_
      refine inLine_e hR.1 hL hlen ho (by omega) ?_
      cases e2 : inL ln o with
      | true =>
        rw [e2] at go
        simp only [if_true] at go
        refine ifp (by decide) ?_
        unfold X8_round_c39
        rw [nI_add]
        exact go h ⟨hR, h11, ⟨th, h10, hT⟩, hn⟩ hf x2
      | false =>
        rw [e2] at go
        simp only [Bool.false_eq_true, if_false] at go
        refine ifn (by decide) ?_
        unfold P_X8_goesOn P_X8_rowFrom
        refine ⟨vp_in_nI ho (by omega), ?_⟩
        rw [ncl (by omega), hn o ho]
        have k3o := k3 o ho
        have hpl := k1.2.2.2.2.2.2.2.2.1
        refine rowR_l hR.1 k1 ho (pl.length - nr o) F (nr o) (by omega) (by omega) ?_
        unfold rowF at go
        cases e3 : rwF pl o (pl.length - nr o) (nr o) with
        | none =>
          rw [e3] at go
          simp only [] at go ⊢
          refine ifn (by decide) ?_
          refine leavesAll_e hR k1 (by omega) (by omega) ho (fun h1 h2 h3 => ?_)
          have w1 : h1 56 10 = nI th := by rw [h3.2 10 (by omega)]; exact h10
          rw [w1]
          unfold X8_round_c39
          rw [nI_add, bsh1 o (by omega), bor]
          refine go _ ⟨?_, ?_, ⟨_, by rw [upr, if_pos ⟨rfl, rfl⟩], RTh_s hT ho e1⟩, fun o' ho' => ?_⟩ (fp_tr (fp_tr hf (fp_fm h3)) (fp_56 (by omega))) ?_
          · show RM n W B _ _ pl (g0 + (g + _)) _
            rw [← Nat.add_assoc]
            exact RM_56 h2 (by omega)
          · rw [upr, if_neg (by omega), h3.2 11 (by omega)]; exact h11
          · rw [up_ne _ _ _ _ (by omega), h3.1 63 (by omega) (by omega)]; exact hn o' ho'
          · rw [upr, if_neg (by omega), h3.2 12 (by omega)]; exact x2
        | some j =>
          rw [e3] at go
          obtain ⟨f1, q, f2, f3⟩ := rwF_s _ _ _ e3
          simp only [f2] at go ⊢
          have hjl : j < pl.length := (List.getElem?_eq_some_iff.mp f2).1
          have hv := k1.2.2.2.2.2.2.2.2.2 q (List.mem_of_getElem? f2)
          refine ifp (by rw [nneg (by omega)]; exact fun z => z) ⟨vp_in_nI ho (by omega), ?_⟩
          simp only [pk_mul, nI_add]
          refine ⟨vp_in_nI (by omega) (by omega), vp_in_nI (by omega) (by omega), ?_⟩
          rw [ncl (show 45 + 3 * j + 1 < 2147483648 by omega), ncl (show 45 + 3 * j + 2 < 2147483648 by omega)]
          have rp := hR.1.2.2.2.2.2.2.2 j q f2
          have g1 : up h 63 o (nI (j + 1)) 57 (45 + 3 * j + 1) = nI q.2.1 := by rw [up_ne _ _ _ _ (by omega)]; exact rp.2.1
          have g2 : up h 63 o (nI (j + 1)) 57 (45 + 3 * j + 2) = nI q.2.2 := by rw [up_ne _ _ _ _ (by omega)]; exact rp.2.2
          rw [g1, g2]
          have hR2 : RM n W B C ln pl (g0 + g) (up h 63 o (nI (j + 1))) := RM_63 hR
          have f4 : nI o = nI q.1 := by rw [f3]
          rw [f4]
          refine ask_v hR2 k1 (by omega) (by omega) hv (fun h1 h2 h3 => ?_)
          rw [← f4]
          unfold X8_round_c39
          rw [nI_add]
          refine go _ ⟨?_, ?_, ⟨th, ?_, hT⟩, fun o' ho' => ?_⟩ (fp_tr (fp_tr hf fp_63) (fp_fm h3)) ?_
          · show RM n W B _ _ pl (g0 + (g + _)) _
            rw [← Nat.add_assoc]
            exact h2
          · rw [h3.2 11 (by omega), up_ne _ _ _ _ (by omega)]; exact h11
          · rw [h3.2 10 (by omega), up_ne _ _ _ _ (by omega)]; exact h10
          · rw [h3.1 63 (by omega) (by omega), upr]
            show _ = nI (uN nr o (j + 1) o')
            unfold uN
            by_cases e : o' = o
            · rw [if_pos ⟨rfl, e⟩, if_pos e]
            · rw [if_neg (by omega), if_neg e]; exact hn o' ho'
          · rw [h3.2 12 (by omega), up_ne _ _ _ _ (by omega)]; exact x2
theorem round_r {K : AH → Prop} {s : PS} {br wr g0 : Nat} (hFu : 500 ≤ F) (hk : okP c n W B pl s) (hc : c < 100000) (hs : RPl n W B pl wr g0 s h) (hf : fp h0 h) (x2 : h 56 12 = nI br)
    (kk : ∀ h', RPl n W B pl wr g0 (rdS n W pl s br).1 h' → fp h0 h' → h' 56 12 = nI (rdS n W pl s br).2 → K h') : P_X8_round F h K := by
  unfold P_X8_round
  refine roundR_o hFu 6 F 0 c s h (by omega) (by omega) hk (by omega) hs hf x2 (fun N h1 hN q1 q2 q3 => ?_)
  obtain ⟨N, rfl⟩ : ∃ k, N = k + 1 := ⟨N - 1, by omega⟩
  have hk2 := okP_pr (s := s) 6 0 c s (by omega) hk
  unfold rdS at kk
  revert kk
  generalize prS W pl 6 0 s = s' at q1 hk2 ⊢
  intro kk
  obtain ⟨C, ln, g, ow, nr⟩ := s'
  obtain ⟨k1, k2, k3⟩ := hk2
  obtain ⟨hR, h11, ⟨th, h10, hT⟩, hn⟩ := q1
  simp only [] at k1 k2 k3 hR h11 h10 hT hn kk
  rw [X8_round_c2_s]
  refine ifp (by rw [nle (by omega) (by omega)]; omega) ?_
  refine ringNow_e hR k1 (by omega) (by omega) ?_
  rw [leastOf_e hR k1 (by omega) (by omega) (show ringS (wfb W C ln) < 64 from mk6_lt _)]
  cases e : lst (asum C n) (ringS (wfb W C ln)) with
  | none =>
    rw [e] at kk
    refine ifp (by decide) ?_
    exact kk _ ⟨hR, h11, ⟨th, h10, hT⟩, hn⟩ q2 q3
  | some p =>
    rw [e] at kk
    have hp := lst_lt e
    refine ifn (by rw [nneg2 (by omega)]; exact fun z => z) ?_
    refine leavesAll_e hR k1 (by omega) (by omega) hp (fun h5 h6 h7 => ?_)
    have x3' : h5 56 12 = nI br := by rw [h7.2 12 (by omega)]; exact q3
    rw [x3', nI_add]
    refine kk _ ⟨?_, ?_, ⟨th, ?_, hT⟩, fun o ho => ?_⟩ (fp_tr (fp_tr q2 (fp_fm h7)) (fp_56 (by omega))) (by rw [upr, if_pos ⟨rfl, rfl⟩])
    · show RM n W B _ _ pl (g0 + (g + _)) _
      rw [← Nat.add_assoc]
      exact RM_56 h6 (by omega)
    · rw [upr, if_neg (by omega), h7.2 11 (by omega)]; exact h11
    · rw [upr, if_neg (by omega), h7.2 10 (by omega)]; exact h10
    · rw [up_ne _ _ _ _ (by omega), h7.1 63 (by omega) (by omega)]; exact hn o ho
end CV
