/-! plays: a round -/
abbrev PS : Type := CT × LN × Nat × Nat × (Nat → Nat)
def poS (W : Nat → Nat) (pl : LN) (o : Nat) (s : PS) : PS :=
  if s.2.2.2.1.testBit o = true then
    if inL s.2.1 o = true then s else
    match rowF pl o (s.2.2.2.2 o) with
    | none => ((gaS W s.1 s.2.1 o).1, (gaS W s.1 s.2.1 o).2.1, s.2.2.1 + (gaS W s.1 s.2.1 o).2.2, clr s.2.2.2.1 o, s.2.2.2.2)
    | some j => match pl[j]? with
      | none => s
      | some q => ((rqS W s.1 s.2.1 q).2.1, (rqS W s.1 s.2.1 q).2.2.1, s.2.2.1 + (rqS W s.1 s.2.1 q).2.2.2, s.2.2.2.1, uN s.2.2.2.2 o (j + 1))
  else s
def prS (W : Nat → Nat) (pl : LN) : Nat → Nat → PS → PS
  | 0, _, s => s
  | d + 1, o, s => prS W pl d (o + 1) (poS W pl o s)
def rdS (n : Nat) (W : Nat → Nat) (pl : LN) (s : PS) (br : Nat) : PS × Nat :=
  match lst (asum (prS W pl 6 0 s).1 n) (ringS (wfb W (prS W pl 6 0 s).1 (prS W pl 6 0 s).2.1)) with
  | none => (prS W pl 6 0 s, br)
  | some p => (((gaS W (prS W pl 6 0 s).1 (prS W pl 6 0 s).2.1 p).1, (gaS W (prS W pl 6 0 s).1 (prS W pl 6 0 s).2.1 p).2.1, (prS W pl 6 0 s).2.2.1 + (gaS W (prS W pl 6 0 s).1 (prS W pl 6 0 s).2.1 p).2.2, (prS W pl 6 0 s).2.2.2.1, (prS W pl 6 0 s).2.2.2.2), br + 1)
section CT3
variable {n c F : Nat} {W B : Nat → Nat} {pl : LN} {h h0 : AH}
def okP (c n : Nat) (W B : Nat → Nat) (pl : LN) (s : PS) : Prop := WF c n W B s.1 s.2.1 pl ∧ s.2.2.2.1 < 64 ∧ ∀ o, o < 6 → s.2.2.2.2 o ≤ pl.length
theorem okP_po {s : PS} {o : Nat} (hk : okP c n W B pl s) (ho : o < 6) : okP (c + 6) n W B pl (poS W pl o s) := by
  obtain ⟨k1, k2, k3⟩ := hk
  have triv : okP (c + 6) n W B pl s := ⟨WF_le k1 (by omega), k2, k3⟩
  unfold poS
  split
  · split
    · exact triv
    · split
      · exact ⟨gaS_WF k1, (clr_tb k2 ho (j := 0) (by omega)).1, k3⟩
      · split
        · exact triv
        · rename_i j hj x q hq
          have hv := k1.2.2.2.2.2.2.2.2.2 q (List.mem_of_getElem? hq)
          have hl : j < pl.length := (List.getElem?_eq_some_iff.mp hq).1
          refine ⟨WF_le (rqS_WF k1 hv) (by omega), k2, fun o' ho' => ?_⟩
          show uN s.2.2.2.2 o (j + 1) o' ≤ pl.length
          unfold uN
          split
          · omega
          · exact k3 o' ho'
  · exact triv
theorem okP_pr {s : PS} : ∀ (d o c : Nat) (s : PS), o + d = 6 → okP c n W B pl s → okP (c + 6 * d) n W B pl (prS W pl d o s)
  | 0, o, c, s, _, hk => hk
  | d + 1, o, c, s, h, hk => by
    have := okP_pr (s := s) d (o + 1) (c + 6) (poS W pl o s) (by omega) (okP_po hk (by omega))
    have e : c + 6 + 6 * d = c + 6 * (d + 1) := by omega
    rw [e] at this
    exact this
theorem okP_rd {s : PS} {br : Nat} (hk : okP c n W B pl s) : okP (c + 42) n W B pl (rdS n W pl s br).1 := by
  have := okP_pr (s := s) 6 0 c s (by omega) hk
  unfold rdS
  split
  · exact ⟨WF_le this.1 (by omega), this.2⟩
  · exact ⟨gaS_WF this.1, this.2⟩
/-- the class -/
def CPl (n : Nat) (W B : Nat → Nat) (pl : LN) (s : PS) (h : AH) : Prop := RC 13 n W B s.1 s.2.1 pl s.2.2.1 h ∧ h 37 1 = nI s.2.2.2.1 ∧ ∀ o, o < 6 → h 38 o = nI (s.2.2.2.2 o)
theorem CPl_fr {s : PS} {h' : AH} (hs : CPl n W B pl s h) (C : CT) (ln : LN) (g : Nat) (hR : RC 13 n W B C ln pl g h') (hf : fr 13 h h') : CPl n W B pl (C, ln, g, s.2.2.2.1, s.2.2.2.2) h' :=
  ⟨hR, by rw [hf 37 (by omega)]; exact hs.2.1, by rw [hf 38 (by omega)]; exact hs.2.2⟩
theorem CPl_lt {s : PS} (hk : okP c n W B pl s) : s.2.2.2.1 < 64 := hk.2.1
theorem round_o {K : AH → Prop} (hFu : 500 ≤ F) {h0 : AH} {X2 X3 : Int32} : ∀ (d N o c : Nat) (s : PS) (h : AH), o + d = 6 → d + 1 ≤ N → okP c n W B pl s → c + 6 * d < 1000000 → CPl n W B pl s h → fq1 h0 h → h 37 2 = X2 → h 37 3 = X3 →
    (∀ N h', 1 ≤ N → CPl n W B pl (prS W pl d o s) h' → fq1 h0 h' → h' 37 2 = X2 → h' 37 3 = X3 → X4_playRound_c2 F 13 K N (nI 6) h') → X4_playRound_c2 F 13 K N (nI o) h := by
  intro d
  induction d with
  | zero =>
    intro N o c s h h1 h2 hk hc hs hf x2 x3 kk
    have : o = 6 := by omega
    subst this
    exact kk N h (by omega) hs hf x2 x3
  | succ d ih =>
    intro N o c s h h1 h2 hk hc hs hf x2 x3 kk
    obtain ⟨N, rfl⟩ : ∃ k, N = k + 1 := ⟨N - 1, by omega⟩
    have ho : o < 6 := by omega
    have go : ∀ h', CPl n W B pl (poS W pl o s) h' → fq1 h0 h' → h' 37 2 = X2 → h' 37 3 = X3 → X4_playRound_c2 F 13 K N (nI (o + 1)) h' := fun h' q1 q2 q3 q4 => ih N (o + 1) (c + 6) _ h' (by omega) (by omega) (okP_po hk ho) (by omega) q1 q2 q3 q4 kk
    obtain ⟨C, ln, g, ow, nr⟩ := s
    obtain ⟨k1, k2, k3⟩ := hk
    obtain ⟨hR, hw, hn⟩ := hs
    simp only [] at k1 k2 k3 hR hw hn
    rw [X4_playRound_c2_s]
    refine ifn (by rw [nle (by omega) (by omega)]; omega) ?_
    rw [hw, hasBit_e (by omega) (by omega)]
    unfold poS at go
    simp only [] at go
    cases e1 : ow.testBit o with
    | false =>
      rw [e1] at go
      simp only [Bool.false_eq_true, if_false] at go
      refine ifp rfl ?_
      unfold X4_playRound_c82
      rw [nI_add]
      exact go h ⟨hR, hw, hn⟩ hf x2 x3
    | true =>
      rw [e1] at go
      simp only [if_true] at go
      refine ifn (by decide) ?_
      rw [waiting_e hR (WF_v k1) ho]
      cases e2 : inL ln o with
      | true =>
        rw [e2] at go
        simp only [if_true] at go
        refine ifn (by decide) ?_
        unfold X4_playRound_c82
        rw [nI_add]
        exact go h ⟨hR, hw, hn⟩ hf x2 x3
      | false =>
        rw [e2] at go
        simp only [Bool.false_eq_true, if_false] at go
        refine ifp rfl ?_
        unfold P_X4_takeRow
        refine ⟨vp_in_nI ho (by omega), ?_⟩
        rw [ncl (by omega), hn o ho]
        have k3o := k3 o ho
        have hpl := k1.2.2.2.2.2.2.2.2.1
        refine take_l hR k1 ho (pl.length - nr o) F (nr o) (by omega) (by omega) ?_
        unfold rowF at go
        cases e3 : rwF pl o (pl.length - nr o) (nr o) with
        | none =>
          rw [e3] at go
          simp only [] at go ⊢
          refine ifp (by decide) ?_
          refine gua_e hR k1 (by omega) (by omega) ho (fun h1 h2 h3 => ?_)
          have w1 : h1 37 1 = nI ow := by rw [h3 37 (by omega)]; exact hw
          rw [w1]
          unfold X4_playRound_c82
          rw [nI_add]
          have b := bclr k2 ho
          rw [b]
          refine go _ ⟨RC_c h2 (fun a _ _ _ => up_ne _ _ _ _ (by omega)) (by rw [up_ne _ _ _ _ (by omega)]; exact h2.2.2.2.2.2.2.2.2.2.2.2), by rw [upr, if_pos ⟨rfl, rfl⟩], fun o' ho' => ?_⟩ (fq1_tr (fq1_tr hf (fq1_fr h3)) (fq1_up (by omega))) ?_ ?_
          · rw [up_ne _ _ _ _ (by omega), h3 38 (by omega)]; exact hn o' ho'
          · rw [upr, if_neg (by omega), h3 37 (by omega)]; exact x2
          · rw [upr, if_neg (by omega), h3 37 (by omega)]; exact x3
        | some j =>
          rw [e3] at go
          obtain ⟨f1, q, f2, f3⟩ := rwF_s _ _ _ e3
          simp only [f2] at go ⊢
          have hjl : j < pl.length := (List.getElem?_eq_some_iff.mp f2).1
          have hv := k1.2.2.2.2.2.2.2.2.2 q (List.mem_of_getElem? f2)
          refine ifn (by rw [nlt (by omega) (by omega)]; omega) ?_
          refine ⟨vp_in_nI (by omega) (by omega), vp_in_nI (by omega) (by omega), ?_⟩
          have rp := hR.2.2.2.2.2.2.2.2.2.2.1 j q f2
          have g1 : up h 38 o (nI (j + 1)) (13 + 9) (nI j).toNatClampNeg = nI q.2.1 := by rw [up_ne _ _ _ _ (by omega), ncl (by omega)]; exact rp.2.1
          have g2 : up h 38 o (nI (j + 1)) (13 + 10) (nI j).toNatClampNeg = nI q.2.2 := by rw [up_ne _ _ _ _ (by omega), ncl (by omega)]; exact rp.2.2
          rw [g1, g2, ← f3]
          have hR2 : RC 13 n W B C ln pl g (up h 38 o (nI (j + 1))) := RC_c hR (fun a _ _ _ => up_ne _ _ _ _ (by omega)) (by rw [up_ne _ _ _ _ (by omega)]; exact hR.2.2.2.2.2.2.2.2.2.2.2)
          rw [f3]
          have f4 : nI o = nI q.1 := by rw [f3]
          rw [f4]
          refine request_v hR2 k1 (by omega) (by omega) hv (fun h1 h2 h3 => ?_)
          rw [← f4]
          unfold X4_playRound_c82
          rw [nI_add]
          refine go _ ⟨h2, by rw [h3 37 (by omega), up_ne _ _ _ _ (by omega)]; exact hw, fun o' ho' => ?_⟩ (fq1_tr (fq1_tr hf (fq1_up (by omega))) (fq1_fr h3)) ?_ ?_
          · rw [h3 38 (by omega), upr]
            show _ = nI (uN nr o (j + 1) o')
            unfold uN
            by_cases e : o' = o
            · rw [if_pos ⟨rfl, e⟩, if_pos e]
            · rw [if_neg (by omega), if_neg e]; exact hn o' ho'
          · rw [h3 37 (by omega), up_ne _ _ _ _ (by omega)]; exact x2
          · rw [h3 37 (by omega), up_ne _ _ _ _ (by omega)]; exact x3
end CT3
