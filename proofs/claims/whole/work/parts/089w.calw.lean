/-! plays: the reference's loop, the call -/
def wrS (pl : LN) : Nat := mk6 (fun j => (rowF pl j 0).isSome)
theorem rwF_n {pl : LN} {o : Nat} : ∀ (d i : Nat), rwF pl o d i = none → ∀ k q, i ≤ k → k < i + d → pl[k]? = some q → q.1 ≠ o
  | 0, i, _, k, q, h1, h2, _ => by omega
  | d + 1, i, h, k, q, h1, h2, h3 => by
    unfold rwF at h
    by_cases e : k = i
    · subst e
      rw [h3] at h
      simp only [] at h
      intro z
      rw [if_pos z] at h
      cases h
    · cases e2 : pl[i]? with
      | none =>
        have l1 := List.getElem?_eq_none_iff.mp e2
        have l2 := (List.getElem?_eq_some_iff.mp h3).1
        omega
      | some p =>
        rw [e2] at h
        simp only [] at h
        by_cases e3 : p.1 = o
        · rw [if_pos e3] at h; cases h
        · rw [if_neg e3] at h
          exact rwF_n d (i + 1) h k q (by omega) (by omega) h3
theorem ow0_tb (pl : LN) (j : Nat) : ∀ i, (ow0 pl i).testBit j = true ↔ ∃ k q, k < i ∧ pl[k]? = some q ∧ q.1 = j
  | 0 => by
    unfold ow0
    constructor
    · intro h; simp at h
    · rintro ⟨k, q, h, _⟩; omega
  | i + 1 => by
    have ih := ow0_tb pl j i
    unfold ow0
    rw [Nat.testBit_or, Bool.or_eq_true, ih]
    constructor
    · rintro (⟨k, q, h1, h2, h3⟩ | h)
      · exact ⟨k, q, by omega, h2, h3⟩
      · cases e : pl[i]? with
        | none => rw [e] at h; simp at h
        | some q =>
          rw [e] at h
          simp only [] at h
          rw [Nat.testBit_two_pow] at h
          exact ⟨i, q, by omega, e, by simpa using h⟩
    · rintro ⟨k, q, h1, h2, h3⟩
      by_cases e : k = i
      · subst e
        refine Or.inr ?_
        rw [h2]
        simp only []
        rw [Nat.testBit_two_pow]
        simpa using h3
      · exact Or.inl ⟨k, q, by omega, h2, h3⟩
theorem ow0_e {pl : LN} (hv : ∀ q ∈ pl, q.1 < 6) : ow0 pl pl.length = wrS pl := by
  refine eq6 (ow0_lt hv _) (mk6_lt _) (fun o ho => ?_)
  unfold wrS
  rw [mk6_tb _ ho, Bool.eq_iff_iff, ow0_tb]
  show _ ↔ (rwF pl o pl.length 0).isSome = true
  constructor
  · rintro ⟨k, q, h1, h2, h3⟩
    cases e : rwF pl o pl.length 0 with
    | none => exact absurd h3 (rwF_n _ _ e k q (by omega) (by omega) h2)
    | some j => rfl
  · intro h
    cases e : rwF pl o pl.length 0 with
    | none => rw [e] at h; cases h
    | some j =>
      obtain ⟨_, q, h2, h3⟩ := rwF_s _ _ _ e
      exact ⟨j, q, (List.getElem?_eq_some_iff.mp h2).1, h2, h3⟩
section CW
variable {n c F : Nat} {W B : Nat → Nat} {C : CT} {ln pl : LN} {g : Nat} {h h0 : AH}
theorem RM_fp10 {k : Nat} {v : Int32} (hR : RM n W B C ln pl g h) (hk : k = 10 ∨ k = 11 ∨ k = 12) : RM n W B C ln pl g (up h 56 k v) := RM_56 hR (by omega)
theorem with_l {K : Int32 → AH → Prop} {x1 X10 X12 : Int32} (hFu : 500 ≤ F) (hF : WF c n W B C ln pl)
    (kk : ∀ h', RM n W B C ln pl g h' → fp h0 h' → h' 56 10 = X10 → h' 56 12 = X12 → h' 56 11 = nI (wrS pl) → (∀ o, o < 6 → h' 63 o = nI 0) → X8_plays_c79 F K F x1 (nI 0) h') : ∀ (d N o : Nat) (h : AH), o + d = 6 → d + 1 ≤ N → RM n W B C ln pl g h → fp h0 h → h 56 10 = X10 → h 56 12 = X12 → h 56 11 = nI (mk6 (fun j => decide (j < o) && (rowF pl j 0).isSome)) → (∀ j, j < o → h 63 j = nI 0) → X8_plays_c32 F K N x1 (nI o) h := by
  have hpl := hF.2.2.2.2.2.2.2.2.1
  intro d
  induction d with
  | zero =>
    intro N o h h1 h2 hR hf e0 e2 e1 e3
    obtain ⟨N, rfl⟩ : ∃ k, N = k + 1 := ⟨N - 1, by omega⟩
    have : o = 6 := by omega
    subst this
    rw [mk6_s6] at e1
    rw [X8_plays_c32_s]
    exact ifp (by rw [nle (by omega) (by omega)]; omega) (kk h hR hf e0 e2 e1 e3)
  | succ d ih =>
    intro N o h h1 h2 hR hf e0 e2 e1 e3
    obtain ⟨N, rfl⟩ : ∃ k, N = k + 1 := ⟨N - 1, by omega⟩
    have ho : o < 6 := by omega
    rw [X8_plays_c32_s]
    refine ifn (by rw [nle (by omega) (by omega)]; omega) ⟨vp_in_nI (by omega) (by omega), ?_⟩
    rw [ncl (by omega)]
    show P_X8_rowFrom F (nI o) (nI 0) (up h 63 o (nI 0)) _
    unfold P_X8_rowFrom
    have hR1 : RM n W B C ln pl g (up h 63 o (nI 0)) := RM_63 hR
    have m1 := mk6_st (fun j => (rowF pl j 0).isSome) ho
    have u1 : ∀ z : Int32, up (up h 63 o (nI 0)) 56 11 z 56 11 = z := fun z => by rw [upr, if_pos ⟨rfl, rfl⟩]
    have next : ∀ z : Int32, z = nI (mk6 (fun j => decide (j < o + 1) && (rowF pl j 0).isSome)) → X8_plays_c32 F K N x1 (nI (o + 1)) (up (up h 63 o (nI 0)) 56 11 z) := fun z hz => by
      refine ih N (o + 1) _ (by omega) (by omega) (RM_56 hR1 (by omega)) (fp_tr (fp_tr hf fp_63) (fp_56 (by omega))) ?_ ?_ ?_ (fun j hj => ?_)
      · rw [upr, if_neg (by omega), up_ne _ _ _ _ (by omega)]; exact e0
      · rw [upr, if_neg (by omega), up_ne _ _ _ _ (by omega)]; exact e2
      · rw [u1, hz]
      · rw [up_ne _ _ _ _ (by omega), upr]
        by_cases e : j = o
        · rw [if_pos ⟨rfl, e⟩]
        · rw [if_neg (by omega)]; exact e3 j (by omega)
    have u2 : up h 63 o (nI 0) 56 11 = h 56 11 := by rw [up_ne _ _ _ _ (by omega)]
    refine rowR_l hR1.1 hF ho pl.length F 0 (by omega) (by omega) ?_
    have e4 : rowF pl o 0 = rwF pl o pl.length 0 := rfl
    rw [e4] at m1
    cases e5 : rwF pl o pl.length 0 with
    | none =>
      rw [e5] at m1
      simp only []
      refine ifp (by decide) ?_
      unfold X8_plays_c67
      rw [u2, e1, nI_add, bor]
      exact next _ (by rw [← m1]; rfl)
    | some j =>
      rw [e5] at m1
      have hj := (rwF_s _ _ _ e5).2
      obtain ⟨q, hj, _⟩ := hj
      have hjl : j < pl.length := (List.getElem?_eq_some_iff.mp hj).1
      simp only []
      refine ifn (by rw [nneg (by omega)]; exact fun z => z) ?_
      unfold X8_plays_c67
      rw [u2, e1, nI_add, bsh1 o (by omega), bor]
      exact next _ (by rw [← m1]; rfl)
theorem playsR_l {K : Int32 → AH → Prop} {k c0 g0 wr : Nat} {C0 : CT} {ln0 : LN} (hFu : 500 ≤ F) (hk : k ≤ 2) (hF0 : WF c0 n W B C0 ln0 pl) (R : PS × Nat × Nat)
    (kk : ∀ h', RM n W B C0 ln0 pl g0 h' → fr8 h0 h' → K (plV k R) h') : ∀ (f N c br r : Nat) (s : PS) (h : AH), f + r = 40 → f + 1 ≤ N → okP c n W B pl s → c + 42 * f < 90000 → RPl n W B pl wr g0 s h → AS8 n W B C0 ln0 pl g0 h → fr8 h0 h → h 56 12 = nI br → plS n W pl f s br r = R → X8_plays_c79 F K N (nI k) (nI r) h := by
  intro f
  have fin : ∀ (s : PS) (br r : Nat) (h : AH), RPl n W B pl wr g0 s h → AS8 n W B C0 ln0 pl g0 h → fr8 h0 h → h 56 12 = nI br → (s, br, r) = R → X8_plays_c106 F K (nI k) (nI r) h := fun s br r h p1 p2 p3 p4 he => by
    subst he
    obtain ⟨q1, q2, ⟨th, q3, q4⟩, q5⟩ := p1
    have hz := RTh_z q4
    have l1 := q4.1
    have l2 := q4.2.1
    have core : ∀ v : Int32, (k = 0 → v = plV 0 (s, br, r)) → X8_plays_c123 F K (nI k) v h := fun v hv => by
      unfold X8_plays_c123
      refine back8_e (n' := 0) (W' := W) (B' := B) (C' := C0) (ln' := ([] : LN)) (pl' := pl) hFu p2 hF0 (fun h1 a1 a2 a3 a4 => ?_)
      have kk1 := kk h1 a1 (fr8_tr p3 a3)
      have : k = 0 ∨ k = 1 ∨ k = 2 := by omega
      rcases this with e | e | e
      · subst e
        refine ifn (fun z => z rfl) ?_
        rw [hv rfl]; exact kk1
      · subst e
        refine ifp (by decide) (ifn (fun z => z rfl) ?_)
        rw [a4 12 (by omega), p4]
        exact kk1
      · subst e
        refine ifp (by decide) (ifp (by decide) ?_)
        rw [q1.2, p2.2, nsub (by omega), Nat.add_sub_cancel_left]
        exact kk1
    unfold X8_plays_c106
    rw [q3, q2]
    by_cases e : s.2.2.2.1 = 0
    · exact ifp (by rw [hz.mp e]) (core _ (fun _ => by unfold plV; rw [if_pos rfl, if_pos e]))
    · exact ifn (by rw [neq (by omega) (by omega)]; exact fun z => e (hz.mpr z)) (core _ (fun _ => by unfold plV; rw [if_pos rfl, if_neg e]))
  induction f with
  | zero =>
    intro N c br r s h h1 h2 p0 hc p1 p2 p3 p4 he
    obtain ⟨N, rfl⟩ : ∃ k, N = k + 1 := ⟨N - 1, by omega⟩
    unfold plS at he
    have fn := fin s br r h p1 p2 p3 p4 he
    obtain ⟨q1, q2, ⟨th, q3, q4⟩, q5⟩ := p1
    have hz := RTh_z q4
    have l1 := q4.1
    have l2 := q4.2.1
    rw [X8_plays_c79_s, q3, q2]
    by_cases e : th = wr
    · exact ifp (by rw [e]) fn
    · exact ifn (by rw [neq (by omega) (by omega)]; exact e) (ifp (by rw [nle (by omega) (by omega)]; omega) fn)
  | succ f ih =>
    intro N c br r s h h1 h2 p0 hc p1 p2 p3 p4 he
    obtain ⟨N, rfl⟩ : ∃ k, N = k + 1 := ⟨N - 1, by omega⟩
    unfold plS at he
    have p1' := p1
    obtain ⟨q1, q2, ⟨th, q3, q4⟩, q5⟩ := p1
    have hz := RTh_z q4
    have l1 := q4.1
    have l2 := q4.2.1
    rw [X8_plays_c79_s, q3, q2]
    by_cases e : s.2.2.2.1 = 0
    · rw [if_pos e] at he
      exact ifp (by rw [hz.mp e]) (fin s br r h p1' p2 p3 p4 he)
    · rw [if_neg e] at he
      refine ifn (by rw [neq (by omega) (by omega)]; exact fun z => e (hz.mpr z)) (ifn (by rw [nle (by omega) (by omega)]; omega) ?_)
      refine round_r (h0 := h) hFu p0 (by omega) p1' (fp_rf h) p4 (fun h' a1 a2 a3 => ?_)
      rw [nI_add]
      exact ih N (c + 42) _ (r + 1) _ h' (by omega) (by omega) (okP_rd p0) (by omega) a1 (AS8_fp p2 a2) (fr8_tr p3 (fp_8 a2)) a3 he
end CW
section CW2
variable {m F : Nat} {h : AH} {G Z : AH → Prop} {x y z : Int32}
theorem call_plays (hFu : 500 ≤ F) (hI : INV m h) (hm : m < 513) (kk : ∀ h', INV (m + 1) h' → G h') : P_X7_plays F x h (fun r h1 => P_X8_plays F x h1 (fun r' h3 => if r = r' then G h3 else Z h3)) := by
  obtain ⟨c, l, n, W, B, C, ln, pl, g, hs⟩ := hI
  have hc := ST_c hs
  have hF := hs.2.2.1
  have hn := hF.1
  have hlen := WF_6 hF
  have hpl := hF.2.2.2.2.2.2.2.2.1
  have hpv := hF.2.2.2.2.2.2.2.2.2
  have done := kk _ (INV_s hs hm)
  by_cases hx : ins x 0 2
  · have ex := hx
    obtain ⟨k, hk1, hk2, rfl⟩ := hx
    obtain ⟨g', hg'⟩ := nI_ex (h 13 13)
    have l64 : ow0 pl pl.length < 64 := ow0_lt (fun q hq => (hpv q hq).1) _
    have ok0 : okP c n W B pl (C, ln, 0, ow0 pl pl.length, fun _ => 0) := ⟨hF, l64, fun o _ => Nat.zero_le _⟩
    generalize hR : plS n W pl 40 (C, ln, 0, ow0 pl pl.length, fun _ => 0) 0 0 = R
    unfold P_X7_plays
    refine ifn (by rw [nlt (by omega) (by omega)]; omega) (ifp (by rw [nle (by omega) (by omega)]; omega) ?_)
    refine copy_e hs.1 ⟨hn, hlen, hpl, WF_v hF⟩ (by omega) hg' (fun h1 h2 h3 => ?_)
    refine start_e hFu (RC_g h2 (g' := 0)) hF (fun h4 p1 p2 p3 p4 p5 => ?_)
    refine plays_l (h0 := h) hFu hk2 R (fun h5 q1 => ?_) 40 F c 0 0 (C, ln, 0, ow0 pl pl.length, fun _ => 0) h4 (by omega) (by omega) ok0 (by omega) ⟨RC_fz (RC_g h2) p1, p2, p5⟩ (fq1_tr (fq1_tr (fq1_fr h3) (fq1_fr (fr_up (by omega) (by omega)))) (fz_q p1)) p3 p4 hR
    have hM := RM_fq1 hs.2.1 q1
    unfold P_X8_plays
    rw [inA_y (a := 0) (b := 2) (by omega) ex]
    refine ifp (by decide) ?_
    refine lays_e hFu hM hF (fun h7 h8 h9 h10 => ?_)
    refine with_l (h0 := h7) (X10 := nI 0) (X12 := nI 0) hFu hF (fun h11 a1 a2 a3 a4 a5 a6 => ?_) 6 F 0 _ (by omega) (by omega) (RM_56 (RM_56 (RM_56 h8 (by omega)) (by omega)) (by omega)) (fp_tr (fp_tr (fp_56 (by omega)) (fp_56 (by omega))) (fp_56 (by omega))) ?_ ?_ ?_ (fun j hj => by omega)
    · refine playsR_l (h0 := h5) (wr := wrS pl) hFu hk2 hF R (fun h12 b1 b2 => ?_) 40 F c 0 0 (C, ln, 0, ow0 pl pl.length, fun _ => 0) h11 (by omega) (by omega) ok0 (by omega) ⟨a1, a5, ⟨0, a3, ?_⟩, a6⟩ (AS8_fp h9 a2) (fr8_tr h10 (fp_8 a2)) a4 hR
      · rw [if_pos rfl]
        exact kk _ (INV_f hs hm (RC1_fq1 hs.1 q1) (fq1_fa q1) b1 b2 (WF_le hF (by omega)))
      · rw [← ow0_e (fun q hq => (hpv q hq).1)]
        exact RTh_0 l64
    · rw [upr, if_neg (by omega), upr, if_neg (by omega), upr, if_pos ⟨rfl, rfl⟩]
    · rw [upr, if_pos ⟨rfl, rfl⟩]
    · rw [upr, if_neg (by omega), upr, if_pos ⟨rfl, rfl⟩, mk6_s0]
  · refine pairI (P7 := fun h K => P_X7_plays F x h K) (P8 := fun h K => P_X8_plays F x h K) ⟨-1, fun K kk => ?_, fun K kk => ?_⟩ done
    · unfold P_X7_plays
      rcases ins_not hx with q | ⟨k, q1, q2, rfl⟩
      · simp only [q, if_true]
        exact kk
      · simp (disch := omega) only [Nat.not_lt_zero, nneg, nneg2, nlt, nle, neq, nI_add, pk_mul, nsub, ncl, nin, and_true, true_and, not_true_eq_false, not_false_eq_true, ↓reduceIte, Nat.reduceAdd, if_pos, if_neg]
        exact kk
    · unfold P_X8_plays
      rw [inA_n (a := 0) (b := 2) (by omega) (by omega) hx]
      simp (disch := omega) only [Nat.not_lt_zero, nneg, nneg2, nlt, nle, neq, nI_add, pk_mul, nsub, ncl, nin, and_true, true_and, not_true_eq_false, not_false_eq_true, ↓reduceIte, Nat.reduceAdd, if_pos, if_neg]
      exact kk
end CW2
