/-! plays: the class -/
def plS (n : Nat) (W : Nat → Nat) (pl : LN) : Nat → PS → Nat → Nat → PS × Nat × Nat
  | 0, s, br, r => (s, br, r)
  | f + 1, s, br, r => if s.2.2.2.1 = 0 then (s, br, r) else plS n W pl f (rdS n W pl s br).1 (rdS n W pl s br).2 (r + 1)
def plV (k : Nat) (x : PS × Nat × Nat) : Int32 := if k = 0 then (if x.1.2.2.2.1 = 0 then nI x.2.2 else nI 41) else if k = 1 then nI x.2.1 else nI x.1.2.2.1
def ow0 (pl : LN) : Nat → Nat
  | 0 => 0
  | i + 1 => ow0 pl i ||| (match pl[i]? with | none => 0 | some q => 2 ^ q.1)
theorem ow0_lt {pl : LN} (h : ∀ q ∈ pl, q.1 < 6) : ∀ i, ow0 pl i < 64
  | 0 => by show (0 : Nat) < 64; omega
  | i + 1 => by
    unfold ow0
    refine or_lt64 (ow0_lt h i) ?_
    split
    · omega
    · rename_i q hq
      exact pow_lt64 (h q (List.mem_of_getElem? hq))
section CU
variable {n c F : Nat} {W B : Nat → Nat} {pl : LN} {h h0 : AH}
theorem round_c {K : AH → Prop} {s : PS} {br r : Nat} (hFu : 500 ≤ F) (hk : okP c n W B pl s) (hc : c < 100000) (hs : CPl n W B pl s h) (hf : fq1 h0 h) (x2 : h 37 2 = nI r) (x3 : h 37 3 = nI br)
    (kk : ∀ h', CPl n W B pl (rdS n W pl s br).1 h' → fq1 h0 h' → h' 37 2 = nI (r + 1) → h' 37 3 = nI (rdS n W pl s br).2 → K h') : P_X4_playRound F 13 h K := by
  unfold P_X4_playRound
  refine round_o hFu 6 F 0 c s h (by omega) (by omega) hk (by omega) hs hf x2 x3 (fun N h1 hN q1 q2 q3 q4 => ?_)
  obtain ⟨N, rfl⟩ : ∃ k, N = k + 1 := ⟨N - 1, by omega⟩
  have hk2 := okP_pr (s := s) 6 0 c s (by omega) hk
  unfold rdS at kk
  revert kk
  generalize prS W pl 6 0 s = s' at q1 hk2 ⊢
  intro kk
  obtain ⟨C, ln, g, ow, nr⟩ := s'
  obtain ⟨k1, k2, k3⟩ := hk2
  obtain ⟨hR, hw, hn⟩ := q1
  simp only [] at k1 k2 k3 hR hw hn kk
  rw [X4_playRound_c2_s]
  refine ifp (by rw [nle (by omega) (by omega)]; omega) ?_
  refine ring_e hR k1 (by omega) (fun h2 h3 h4 => ?_)
  rw [least_e h3 k1 (by omega) (by omega) (show ringS (wfb W C ln) < 64 from mk6_lt _)]
  have fin : ∀ (s : PS) (br : Nat) (h5 : AH), CPl n W B pl s h5 → fq1 h0 h5 → h5 37 2 = nI r → h5 37 3 = nI br → (∀ h', CPl n W B pl s h' → fq1 h0 h' → h' 37 2 = nI (r + 1) → h' 37 3 = nI br → K h') → X4_playRound_c117 F 13 K h5 := fun s br h5 p1 p2 p3 p4 kk => by
    unfold X4_playRound_c117
    rw [p3, nI_add]
    refine kk _ ⟨RC_c p1.1 (fun a _ _ _ => up_ne _ _ _ _ (by omega)) (by rw [up_ne _ _ _ _ (by omega)]; exact p1.1.2.2.2.2.2.2.2.2.2.2.2), by rw [upr, if_neg (by omega)]; exact p1.2.1, by rw [up_ne _ _ _ _ (by omega)]; exact p1.2.2⟩ (fq1_tr p2 (fq1_up (by omega))) (by rw [upr, if_pos ⟨rfl, rfl⟩]) (by rw [upr, if_neg (by omega)]; exact p4)
  have hf2 := fq1_tr q2 (fq1_fr h4)
  cases e : lst (asum C n) (ringS (wfb W C ln)) with
  | none =>
    rw [e] at kk
    refine ifp (by decide) ?_
    exact fin _ br h2 ⟨h3, by rw [h4 37 (by omega)]; exact hw, by rw [h4 38 (by omega)]; exact hn⟩ hf2 (by rw [h4 37 (by omega)]; exact q3) (by rw [h4 37 (by omega)]; exact q4) kk
  | some p =>
    rw [e] at kk
    have hp := lst_lt e
    refine ifn (by rw [nlt (by omega) (by omega)]; omega) ?_
    refine gua_e h3 k1 (by omega) (by omega) hp (fun h5 h6 h7 => ?_)
    have x3' : h5 37 3 = nI br := by rw [h7 37 (by omega), h4 37 (by omega)]; exact q4
    rw [x3', nI_add]
    refine fin _ (br + 1) _ ⟨RC_c h6 (fun a _ _ _ => up_ne _ _ _ _ (by omega)) (by rw [up_ne _ _ _ _ (by omega)]; exact h6.2.2.2.2.2.2.2.2.2.2.2), ?_, fun o ho => ?_⟩ (fq1_tr (fq1_tr hf2 (fq1_fr h7)) (fq1_up (by omega))) ?_ (by rw [upr, if_pos ⟨rfl, rfl⟩]) kk
    · rw [upr, if_neg (by omega), h7 37 (by omega), h4 37 (by omega)]; exact hw
    · rw [up_ne _ _ _ _ (by omega), h7 38 (by omega), h4 38 (by omega)]; exact hn o ho
    · rw [upr, if_neg (by omega), h7 37 (by omega), h4 37 (by omega)]; exact q3
theorem plays_l {K : Int32 → AH → Prop} {k : Nat} (hFu : 500 ≤ F) (hk : k ≤ 2) (R : PS × Nat × Nat) (kk : ∀ h', fq1 h0 h' → K (plV k R) h') : ∀ (f N c br r : Nat) (s : PS) (h : AH), f + r = 40 → f + 1 ≤ N → okP c n W B pl s → c + 42 * f < 90000 → CPl n W B pl s h → fq1 h0 h → h 37 2 = nI r → h 37 3 = nI br → plS n W pl f s br r = R → X7_plays_c43 F K N (nI k) (nI r) h := by
  intro f
  have fin : ∀ (c : Nat) (s : PS) (br r : Nat) (h : AH), r < 1000 → okP c n W B pl s → CPl n W B pl s h → fq1 h0 h → h 37 2 = nI r → h 37 3 = nI br → (s, br, r) = R → X7_plays_c76 F K (nI k) h := fun c s br r h hr p0 p1 p2 p3 p4 he => by
    have := kk h p2
    subst he
    unfold plV at this
    unfold X7_plays_c76
    have hw := p1.2.1
    have hg := p1.1.2.2.2.2.2.2.2.2.2.2.2
    have hl := p0.2.1
    by_cases e0 : k = 0
    · rw [if_pos e0] at this
      refine ifp (by rw [e0]) ?_
      rw [hw, p3]
      by_cases e1 : s.2.2.2.1 = 0
      · rw [if_pos e1] at this
        refine ifn (by rw [e1]; exact fun z => z rfl) this
      · rw [if_neg e1] at this
        refine ifp (by rw [neq (by omega) (by omega)]; exact e1) this
    · rw [if_neg e0] at this
      refine ifn (by rw [neq (by omega) (by omega)]; exact e0) ?_
      by_cases e1 : k = 1
      · rw [if_pos e1] at this
        refine ifp (by rw [e1]) ?_
        rw [p4]; exact this
      · rw [if_neg e1] at this
        refine ifn (by rw [neq (by omega) (by omega)]; exact e1) ?_
        rw [hg]; exact this
  induction f with
  | zero =>
    intro N c br r s h h1 h2 p0 hc p1 p2 p3 p4 he
    obtain ⟨N, rfl⟩ : ∃ k, N = k + 1 := ⟨N - 1, by omega⟩
    rw [X7_plays_c43_s]
    unfold plS at he
    exact ifp (by rw [nle (by omega) (by omega)]; omega) (fin c s br r h (by omega) p0 p1 p2 p3 p4 he)
  | succ f ih =>
    intro N c br r s h h1 h2 p0 hc p1 p2 p3 p4 he
    obtain ⟨N, rfl⟩ : ∃ k, N = k + 1 := ⟨N - 1, by omega⟩
    have hw := p1.2.1
    have hl := p0.2.1
    rw [X7_plays_c43_s, hw]
    unfold plS at he
    refine ifn (by rw [nle (by omega) (by omega)]; omega) ?_
    by_cases e : s.2.2.2.1 = 0
    · rw [if_pos e] at he
      exact ifp (by rw [e]) (fin c s br r h (by omega) p0 p1 p2 p3 p4 he)
    · rw [if_neg e] at he
      refine ifn (by rw [neq (by omega) (by omega)]; exact e) ?_
      refine round_c hFu p0 (by omega) p1 p2 p3 p4 (fun h' q1 q2 q3 q4 => ?_)
      rw [nI_add]
      exact ih N (c + 42) _ (r + 1) _ h' (by omega) (by omega) (okP_rd p0) (by omega) q1 q2 q3 q4 he
end CU
