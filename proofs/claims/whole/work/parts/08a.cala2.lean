/-! words: the call -/
theorem paS_len2 {l : Nat} {t : Nat → Nat} (hb : BY l t) : ∀ f p, p ≤ l → 2 * (paS t l f p).1.length + p ≤ l + 2
  | 0, p, h => by show 2 * 0 + p ≤ l + 2; omega
  | f + 1, p, hp => by
    have hs := stS_b hb hp
    unfold paS
    split
    · rename_i h1
      have s1 := (hs.2.2 h1).1
      split
      · rw [List.length_singleton]; omega
      · rename_i h2
        split
        · have := paS_len2 hb f ((stS t p).2.2 + 1) (by omega)
          rw [List.length_cons]
          omega
        · show 2 * 0 + p ≤ l + 2; omega
    · show 2 * 0 + p ≤ l + 2; omega
theorem rnv_s (m p : Nat) : (-2000 : Int32) - nI p = rnv m (some p) := rfl
theorem rnv_n {m p : Nat} (hp : p < 121) : (nI 0 ≤ rnv m (some p)) = False := t20_d p hp
theorem paS_0 {t : Nat → Nat} (h : t 0 = 0) (f : Nat) : (paS t 0 (f + 1) 0).2 = some 0 := by
  have e : stS t 0 = (false, (0, 0, 0, 0), 0) := by
    unfold stS akS
    rw [h]
    rfl
  unfold paS
  rw [e]
  rfl
def frC (h h' : AH) : Prop := ∀ a, (a = 0 ∨ (25 ≤ a ∧ a < 37) ∨ (41 ≤ a ∧ a < 44) ∨ a = 45 ∨ 51 ≤ a) → h' a = h a
theorem frC_tr {h h1 h2 : AH} (a : frC h h1) (c : frC h1 h2) : frC h h2 := fun i p1 => (c i p1).trans (a i p1)
theorem frC_fr {b : Nat} {h h' : AH} (hf : fr b h h') (hb : b = 1 ∨ b = 13) : frC h h' := fun a ha => hf a (by omega)
theorem frC_fy {k : Nat} {h h' : AH} (hf : fy k h h') : frC h h' := fun a ha => hf.1 a (by omega) (by omega) (by omega) (by omega) (by omega) (by omega)
theorem frC_up {i k : Nat} {v : Int32} {h : AH} (hi : i = 44 ∨ (1 ≤ i ∧ i < 25)) : frC h (up h i k v) := fun a ha => up_ne _ _ _ _ (by omega)
def frR (h h' : AH) : Prop := (∀ a, a ≠ 56 → a ≠ 57 → a ≠ 59 → a ≠ 60 → a ≠ 61 → h' a = h a) ∧ h' 56 24 = h 56 24 ∧ h' 56 28 = h 56 28
theorem frR_tr {h h1 h2 : AH} (a : frR h h1) (c : frR h1 h2) : frR h h2 := ⟨fun i p1 p2 p3 p4 p5 => (c.1 i p1 p2 p3 p4 p5).trans (a.1 i p1 p2 p3 p4 p5), c.2.1.trans a.2.1, c.2.2.trans a.2.2⟩
theorem frR_f8 {h h1 : AH} (a : f8 h h1) : frR h h1 := ⟨fun i p1 _ _ _ _ => a.1 i p1, a.2 24 (by omega), a.2 28 (by omega)⟩
theorem frR_fg {n n' : Nat} {h h1 : AH} (a : fg n n' h h1) : frR h h1 := ⟨fun i p1 p2 _ p3 p4 => a.1 i p1 p2 p3 p4, a.2.1 24 (by omega) (by omega), a.2.1 28 (by omega) (by omega)⟩
theorem frR_ne {p : Nat} {h h1 : AH} (hp : p = 57 ∨ p = 59) (a : ∀ i, i ≠ p → h1 i = h i) : frR h h1 := ⟨fun i p1 p2 p3 p4 p5 => a i (by omega), by rw [a 56 (by omega)], by rw [a 56 (by omega)]⟩
theorem frR_56 {k : Nat} {v : Int32} {h : AH} (hk : k ≠ 24 ∧ k ≠ 28) : frR h (up h 56 k v) := ⟨fun i p1 _ _ _ _ => up_ne _ _ _ _ p1, by rw [up_k (by omega)], by rw [up_k (by omega)]⟩
section CA2
variable {m c l n F : Nat} {W B : Nat → Nat} {C : CT} {ln pl : LN} {g : Nat} {h : AH}
theorem INV_rd (hs : ST m c l n W B C ln pl g h) (hm : m < 513) {n' g' c' : Nat} {W' B' : Nat → Nat} {C' : CT} {ln' : LN} {h1 h' : AH} (h2 : RC 1 n' W' B' C' ln' pl g' h1) (h3 : RM n' W' B' C' ln' pl g' h') (h4 : WF c' n' W' B' C' ln' pl) (h5 : frC h h1) (h6 : frR h1 h') (h7 : n ≤ n')
    (h8 : ∀ t, t < n → h' 60 t = h1 60 t ∧ h' 61 t = h1 61 t) (h9 : ∀ t, n ≤ t → t < n' → h' 60 t = nI 0 ∧ h' 61 t = nI 0) (h10 : h1 44 0 = nI 0) (h11 : h' 56 16 = nI 0) (hc : c ≤ c') (hc2 : c' ≤ c + 6 * l + 12) : INV (m + 1) h' := by
  obtain ⟨k1, k2, k3, k4, k5⟩ := hs.2.2.2.1
  have e : ∀ a, (a = 0 ∨ (25 ≤ a ∧ a < 37) ∨ (41 ≤ a ∧ a < 44) ∨ a = 45 ∨ 51 ≤ a) → a ≠ 56 → a ≠ 57 → a ≠ 59 → a ≠ 60 → a ≠ 61 → h' a = h a := fun a p0 p1 p2 p3 p4 p5 => (h6.1 a p1 p2 p3 p4 p5).trans (h5 a p0)
  have e24 : h' 56 24 = h 56 24 := by rw [h6.2.1, h5 56 (by omega)]
  have e28 : h' 56 28 = h 56 28 := by rw [h6.2.2, h5 56 (by omega)]
  refine ⟨c', 0, n', W', B', C', ln', pl, g', ?_, h3, h4, ⟨?_, ?_, ?_, ?_, ?_⟩, by have := hs.2.2.2.2.1; omega, by omega⟩
  · refine RC_c h2 (fun a a1 a2 _ => h6.1 a (by omega) (by omega) (by omega) (by omega) (by omega)) ?_
    rw [h6.1 1 (by omega) (by omega) (by omega) (by omega) (by omega)]
    exact h2.2.2.2.2.2.2.2.2.2.2.2
  · exact KP_e (KP_fa k1 (fa_rf h) hc) h7 (e 0 (by omega) (by omega) (by omega) (by omega) (by omega) (by omega)) (fun a a1 a2 => e a (by omega) (by omega) (by omega) (by omega) (by omega) (by omega)) (e 68 (by omega) (by omega) (by omega) (by omega) (by omega) (by omega)) e28
  · intro t ht
    obtain ⟨b1, b2, b3, b4⟩ := k2 t ht
    rw [e 41 (by omega) (by omega) (by omega) (by omega) (by omega) (by omega), e 42 (by omega) (by omega) (by omega) (by omega) (by omega) (by omega), e 43 (by omega) (by omega) (by omega) (by omega) (by omega) (by omega), e 62 (by omega) (by omega) (by omega) (by omega) (by omega) (by omega)]
    refine ⟨fun z => ?_, fun z => b2 (by omega), b3, b4⟩
    by_cases z2 : t < n
    · have := h8 t z2
      rw [this.1, this.2, h5 60 (by omega), h5 61 (by omega)]
      exact b1 z2
    · have := h9 t (by omega) z
      rw [this.1, this.2]
      exact b2 (by omega)
  · refine ⟨by omega, ?_, h11, fun i hi => by omega⟩
    rw [h6.1 44 (by omega) (by omega) (by omega) (by omega) (by omega)]; exact h10
  · unfold PP
    rw [e 51 (by omega) (by omega) (by omega) (by omega) (by omega) (by omega), e 52 (by omega) (by omega) (by omega) (by omega) (by omega) (by omega), e24, e 65 (by omega) (by omega) (by omega) (by omega) (by omega) (by omega)]
    exact k4
  · unfold LSI
    rw [e 54 (by omega) (by omega) (by omega) (by omega) (by omega) (by omega), e 55 (by omega) (by omega) (by omega) (by omega) (by omega) (by omega), e 66 (by omega) (by omega) (by omega) (by omega) (by omega) (by omega), e 67 (by omega) (by omega) (by omega) (by omega) (by omega) (by omega)]
    exact k5
theorem c65_r {K : Int32 → AH → Prop} {v : Int32} (kk : K v (up h 56 16 (nI 0))) : X8_reads_c65 F K v h := kk
/-- a fault in the letters -/
theorem readsF_r {t : Nat → Nat} {p : Nat} {v : Int32} {K : Int32 → AH → Prop} (hb : BY l t) (hFu : 500 ≤ F) (hp : (paS t l (l + 1) 0).2 = some p) (hv : (-1000 : Int32) - nI p = v) (h1 : h 56 16 = nI l) (h2 : ∀ i, i < l → h 64 i = nI (t i))
    (kk : ∀ h', f8 h h' → K v (up h' 56 16 (nI 0))) : P_X8_reads F h K := by
  have l1 := hb.1
  have hpl := paS_p hb (l + 1) 0 (by omega) (by omega) p hp
  have v2 : (v ≤ nI 0) = True := by
    rw [← hv]
    exact (t10_d p (by omega)).2
  have v3 : pav 0 (paS t l (l + 1) 0) = v := by
    unfold pav
    rw [hp]
    exact hv
  have v4 : p = 0 → (-1000 : Int32) = v := fun z => by
    rw [← hv, z]
    decide
  clear hv
  have core : ∀ h', f8 h h' → X8_reads_c18 F K v h' := fun h' hf => by
    unfold X8_reads_c18
    exact ifp (by rw [v2]; trivial) (c65_r (kk h' hf))
  unfold P_X8_reads
  rw [h1]
  by_cases e : l = 0
  · subst e
    have := core h (f8_rf h)
    rw [v4 (by omega)]
    exact ifn (fun z => z rfl) this
  · refine ifp (by rw [neq (by omega) (by omega)]; exact e) ?_
    unfold P_X8_goesThrough
    refine thr0_l hb hFu (l + 1) F 0 0 _ (by omega) (by omega) (by omega) ⟨?_, ?_, fun i hi => ?_⟩ (fun h' q1 => ?_)
    · rw [upr, if_neg (by omega)]; exact h1
    · rw [upr, if_pos ⟨rfl, rfl⟩]
    · rw [up_ne _ _ _ _ (by omega)]; exact h2 i hi
    · rw [v3]
      exact core h' (f8_tr (f8_up (by omega)) q1)
theorem readsG_r {t : Nat → Nat} {K : Int32 → AH → Prop} (hb : BY l t) (hFu : 500 ≤ F) (hp : (paS t l (l + 1) 0).2 = none) (h1 : h 56 16 = nI l) (h2 : ∀ i, i < l → h 64 i = nI (t i)) (hR : RM n W B C ln pl g h) (hF : WF c n W B C ln pl) (hc : c < 100000)
    {R : DS × Option Nat} (he : rnS (paS t l (l + 1) 0).1 (n, W, B, C, ln, 0) = R)
    (kn : ∀ h', R.2 = none → RMD pl g R.1 h' → frR h h' → (∀ t, t < n → h' 60 t = h 60 t ∧ h' 61 t = h 61 t) → (∀ t, n ≤ t → t < R.1.1 → h' 60 t = nI 0 ∧ h' 61 t = nI 0) → K (nI (paS t l (l + 1) 0).1.length) (up h' 56 16 (nI 0)))
    (ks : ∀ h' p m, R.2 = some p → RM n W B C ln pl g h' → frR h h' → (∀ t, t < n → h' 60 t = h 60 t ∧ h' 61 t = h 61 t) → K (rnv m (some p)) (up h' 56 16 (nI 0))) : P_X8_reads F h K := by
  have l1 := hb.1
  have hn := hF.1
  have hlen := WF_6 hF
  have hpl := hF.2.2.2.2.2.2.2.2.1
  have hl : l ≠ 0 := fun z => by
    subst z
    rw [paS_0 (hb.2.2 0 (by omega))] at hp
    cases hp
  have s1 := paS_n1 _ _ hp
  have s2 := paS_len2 hb (l + 1) 0 (by omega)
  have hR2 : ∀ p, R.2 = some p → p ≤ l := fun p e => by
    obtain ⟨q, hq1, hq2⟩ := rnS_m (paS t l (l + 1) 0).1 (n, W, B, C, ln, 0) p (by rw [he]; exact e)
    have := (paS_V hb _ _ (by omega) q hq1).1
    omega
  unfold P_X8_reads
  rw [h1]
  refine ifp (by rw [neq (by omega) (by omega)]; exact hl) ?_
  unfold P_X8_goesThrough
  refine thr0_l hb hFu (l + 1) F 0 0 _ (by omega) (by omega) (by omega) ⟨?_, ?_, fun i hi => ?_⟩ (fun h3 q1 => ?_)
  · rw [upr, if_neg (by omega)]; exact h1
  · rw [upr, if_pos ⟨rfl, rfl⟩]
  · rw [up_ne _ _ _ _ (by omega)]; exact h2 i hi
  · have f3 : f8 h h3 := f8_tr (f8_up (by omega)) q1
    have v : pav 0 (paS t l (l + 1) 0) = nI (paS t l (l + 1) 0).1.length := by unfold pav; rw [hp, Nat.zero_add]
    rw [v]
    unfold X8_reads_c18
    refine ifn (by rw [nle (by omega) (by omega)]; omega) ?_
    refine cps_e (by omega) hFu (fun h4 a1 a2 => ?_)
    have hR3 : RM n W B C ln pl g h3 := RM_f8 hR f3
    have hR4 : RM n W B C ln pl g h4 := ⟨RG_c hR3.1 (a1 57 (by omega)), by rw [a1 56 (by omega)]; exact hR3.2⟩
    have hK4 : RG 59 n W B C ln pl h4 := RG_cp (p0 := 57) (h := h3) hR3.1 hn hlen hpl a2
    have g4 : frR h h4 := frR_tr (frR_f8 f3) (frR_ne (p := 59) (by omega) a1)
    have z4 : ∀ t, h4 60 t = h 60 t ∧ h4 61 t = h 61 t := fun t => by
      rw [a1 60 (by omega), a1 61 (by omega), f3.1 60 (by omega), f3.1 61 (by omega)]
      exact ⟨rfl, rfl⟩
    unfold P_X8_goesThrough
    refine thr1_l (g0 := g) (pl := pl) hb hFu (l + 1) F 0 0 c (n, W, B, C, ln, 0) _ (by omega) (by omega) (by omega) hp hF (by omega) ⟨?_, ?_, fun i hi => ?_⟩ ?_ (fun h5 b1 b2 => ?_)
    · rw [upr, if_neg (by omega), a1 56 (by omega), f3.2 16 (by omega)]; exact h1
    · rw [upr, if_pos ⟨rfl, rfl⟩]
    · rw [up_ne _ _ _ _ (by omega), a1 64 (by omega), f3.1 64 (by omega)]; exact h2 i hi
    · exact RM_56 hR4 (by omega)
    · rw [he] at b1 b2 ⊢
      have g5 : frR h h5 := frR_tr g4 (frR_tr (frR_56 (by omega)) (frR_fg b2))
      have z5 : ∀ t, t < n → h5 60 t = h 60 t ∧ h5 61 t = h 61 t := fun t ht => by
        have := b2.2.2.1 t ht
        rw [this.1, this.2, up_ne _ _ _ _ (by omega), up_ne _ _ _ _ (by omega)]
        exact z4 t
      cases e : R.2 with
      | none =>
        have v2 : rnv (0 + (paS t l (l + 1) 0).1.length) none = nI (paS t l (l + 1) 0).1.length := by show nI (0 + (paS t l (l + 1) 0).1.length) = _; rw [Nat.zero_add]
        rw [v2]
        refine ifp (by rw [nle (by omega) (by omega)]; omega) ?_
        exact c65_r (kn h5 e b1 g5 z5 (fun t ht1 ht2 => b2.2.2.2 t ht1 ht2))
      | some p =>
        have hpp := hR2 p e
        have v3 := rnv_n (m := 0 + (paS t l (l + 1) 0).1.length) (p := p) (by omega)
        have v4 : ∀ h', RM n W B C ln pl g h' → frR h h' → (∀ t, t < n → h' 60 t = h 60 t ∧ h' 61 t = h 61 t) → K (rnv (0 + (paS t l (l + 1) 0).1.length) (some p)) (up h' 56 16 (nI 0)) := fun h' => ks h' p _ e
        revert v3 v4
        generalize rnv (0 + (paS t l (l + 1) 0).1.length) (some p) = v
        intro v3 v4
        refine ifn (by rw [v3]; exact id) ?_
        refine cps_e (by omega) hFu (fun h6 d1 d2 => ?_)
        have w1 : h4 56 4 = nI g := hR4.2
        rw [w1]
        refine c65_r (v4 _ ⟨?_, ?_⟩ ?_ (fun t ht => ?_))
        · refine RG_c (h := h6) ?_ (up_ne _ _ _ _ (by omega))
          refine RG_cp (p0 := 59) (h := h5) ?_ hn hlen hpl d2
          refine RG_c hK4 ?_
          rw [b2.1 59 (by omega) (by omega) (by omega) (by omega), up_ne _ _ _ _ (by omega)]
        · rw [upr, if_pos ⟨rfl, rfl⟩]
        · exact frR_tr g5 (frR_tr (frR_ne (p := 57) (by omega) d1) (frR_56 (by omega)))
        · rw [up_ne _ _ _ _ (by omega), up_ne _ _ _ _ (by omega), d1 60 (by omega), d1 61 (by omega)]
          exact z5 t ht
end CA2
section CA3
variable {m F : Nat} {h : AH} {G Z : AH → Prop}
theorem call_reads (hFu : 500 ≤ F) (hI : INV m h) (hm : m < 513) (kk : ∀ h', INV (m + 1) h' → G h') : P_X7_reads F h (fun r h1 => P_X8_reads F h1 (fun r' h3 => if r = r' then G h3 else Z h3)) := by
  obtain ⟨c, l, n, W, B, C, ln, pl, g, hs⟩ := hI
  have hc := ST_c hs
  have hF := hs.2.2.1
  have hn := hF.1
  have hlen := WF_6 hF
  have hpl := hF.2.2.2.2.2.2.2.2.1
  obtain ⟨k1, k2, k3, k4, k5⟩ := hs.2.2.2.1
  obtain ⟨t1, t2, t3, t4⟩ := k3
  obtain ⟨t, ht⟩ : ∃ t : Nat → Nat, t = fun i => if i < l then (h 64 i).toNatClampNeg else 0 := ⟨_, rfl⟩
  have hti : ∀ i, i < l → h 64 i = nI (t i) ∧ t i < 128 := fun i hi => by
    obtain ⟨_, a, a1, a2, a3⟩ := t4 i hi
    have : t i = a := by
      rw [ht]
      show (if i < l then (h 64 i).toNatClampNeg else 0) = a
      rw [if_pos hi, a3, ncl (by omega)]
    rw [this]
    exact ⟨a3, by omega⟩
  have ht0 : ∀ i, l ≤ i → t i = 0 := fun i hi => by
    rw [ht]
    show (if i < l then (h 64 i).toNatClampNeg else 0) = 0
    rw [if_neg (by omega)]
  have hb : BY l t := ⟨t1, fun i => by
    by_cases e : i < l
    · exact (hti i e).2
    · rw [ht0 i (by omega)]; omega, ht0⟩
  unfold P_X7_reads
  refine parse_e hb hFu t2 (fun i hi => by rw [(t4 i hi).1]; exact (hti i hi).1) (fun h1 q1 q2 => ?_)
  have s2 := paS_len2 hb (l + 1) 0 (by omega)
  have fc1 : frC h (up h1 44 0 (nI 0)) := frC_tr (frC_fy q1) (frC_up (by omega))
  have R1 : RC 1 n W B C ln pl g (up h1 44 0 (nI 0)) := by
    refine RC_c hs.1 (fun a a1 a2 _ => ?_) ?_
    · rw [up_ne _ _ _ _ (by omega), q1.1 a (by omega) (by omega) (by omega) (by omega) (by omega) (by omega)]
    · rw [up_ne _ _ _ _ (by omega), q1.1 1 (by omega) (by omega) (by omega) (by omega) (by omega) (by omega)]
      exact hs.1.2.2.2.2.2.2.2.2.2.2.2
  have q2' : ∀ i q, (paS t l (l + 1) 0).1[i]? = some q → SRk i q.1 q.2 (up h1 44 0 (nI 0)) := fun i q hq => by
    have a := q2 i q hq
    unfold SRk at a ⊢
    rw [up_ne _ _ _ _ (by omega), up_ne _ _ _ _ (by omega), up_ne _ _ _ _ (by omega), up_ne _ _ _ _ (by omega), up_ne _ _ _ _ (by omega)]
    exact a
  have u0 : up h1 44 0 (nI 0) 44 0 = nI 0 := by rw [upr, if_pos ⟨rfl, rfl⟩]
  revert fc1 R1 q2' u0
  show _ → _ → _ → _ → (if nI 0 ≤ pav 0 (paS t l (l + 1) 0) then P_X5_copyFrom F 13 1 (up h1 44 0 (nI 0)) _ else _)
  generalize up h1 44 0 (nI 0) = h2
  intro fc1 R1 q2' u0
  have toM : ∀ h', frC h h' → RM n W B C ln pl g h' ∧ h' 56 16 = nI l ∧ ∀ i, i < l → h' 64 i = nI (t i) := fun h' hf => by
    refine ⟨⟨RG_c hs.2.1.1 (hf 57 (by omega)), by rw [hf 56 (by omega)]; exact hs.2.1.2⟩, by rw [hf 56 (by omega)]; exact t3, fun i hi => by rw [hf 64 (by omega)]; exact (hti i hi).1⟩
  cases hp : (paS t l (l + 1) 0).2 with
  | some p =>
    have hpp := paS_p hb (l + 1) 0 (by omega) (by omega) p hp
    obtain ⟨v, hv⟩ : ∃ v, (-1000 : Int32) - nI p = v := ⟨_, rfl⟩
    have v1 : pav 0 (paS t l (l + 1) 0) = v := by
      unfold pav
      rw [hp]
      exact hv
    have v2 : (nI 0 ≤ v) = False := by
      rw [← hv]
      exact (t10_d p (by omega)).1
    rw [v1]
    refine ifn (by rw [v2]; exact id) ?_
    obtain ⟨m1, m2, m3⟩ := toM h2 fc1
    refine readsF_r hb hFu hp hv m2 m3 (fun h3 a1 => ?_)
    rw [if_pos rfl]
    refine kk _ (INV_rd hs hm R1 (RM_56 (RM_f8 m1 a1) (by omega)) hF fc1 (frR_tr (frR_f8 a1) (frR_56 (by omega))) (Nat.le_refl _) (fun t ht => ?_) (fun t h1 h2 => by omega) u0 (by rw [upr, if_pos ⟨rfl, rfl⟩]) (Nat.le_refl _) (by omega))
    rw [up_ne _ _ _ _ (by omega), up_ne _ _ _ _ (by omega), a1.1 60 (by omega), a1.1 61 (by omega)]
    exact ⟨rfl, rfl⟩
  | none =>
    have v : pav 0 (paS t l (l + 1) 0) = nI (paS t l (l + 1) 0).1.length := by unfold pav; rw [hp, Nat.zero_add]
    rw [v]
    refine ifp (by rw [nle (by omega) (by omega)]; omega) ?_
    obtain ⟨g', hg'⟩ := nI_ex (h2 13 13)
    refine copy_e R1 ⟨hn, hlen, hpl, WF_v hF⟩ (by omega) hg' (fun h3 a1 a2 => ?_)
    obtain ⟨R, he⟩ : ∃ R, rnS (paS t l (l + 1) 0).1 (n, W, B, C, ln, 0) = R := ⟨_, rfl⟩
    have hV := paS_V hb (l + 1) 0 (by omega)
    have fc3 : frC h (up h3 13 13 (nI 0)) := frC_tr fc1 (frC_tr (frC_fr a2 (by omega)) (frC_up (by omega)))
    have R3 : RC 1 n W B C ln pl g (up h3 13 13 (nI 0)) := RC_fr R1 (fr_tr a2 (fr_up (by omega) (by omega))) (by omega)
    have u3 : up h3 13 13 (nI 0) 44 0 = nI 0 := by rw [up_ne _ _ _ _ (by omega), a2 44 (by omega)]; exact u0
    have okR : okD (c + 6 * (paS t l (l + 1) 0).1.length) pl R.1 := by
      have := okD_r (pl := pl) (paS t l (l + 1) 0).1 c (n, W, B, C, ln, 0) hF (fun q hq => (hV q hq).2)
      rw [he] at this
      exact this
    have nR : n ≤ R.1.1 := by
      have := rnS_n (paS t l (l + 1) 0).1 (n, W, B, C, ln, 0)
      rw [he] at this
      exact this
    refine runC_l (pl := pl) (h0 := up h3 13 13 (nI 0)) (R := R) hFu (by omega) (fun h4 b1 b2 b3 => ?_) (fun h4 p b2 b3 => ?_) (paS t l (l + 1) 0).1 F 0 c (n, W, B, C, ln, 0) _ (by omega) (by omega) (fun j q hq => ?_) hF (by omega) (RC_g a1 (g' := 0)) (fr_rf _ _) he
    · have r1g : h4 1 13 = nI g := by rw [b2 1 (by omega)]; exact R3.2.2.2.2.2.2.2.2.2.2.2
      have hF1 : WF (c + 6 * (paS t l (l + 1) 0).1.length) R.1.1 R.1.2.1 R.1.2.2.1 R.1.2.2.2.1 R.1.2.2.2.2.1 pl := okR
      have b1' : RC 13 R.1.1 R.1.2.1 R.1.2.2.1 R.1.2.2.2.1 R.1.2.2.2.2.1 pl R.1.2.2.2.2.2 h4 := b1
      refine copy_e b1' ⟨hF1.1, WF_6 hF1, hpl, WF_v hF1⟩ (by omega) r1g (fun h5 d1 d2 => ?_)
      have w1 : h5 1 13 = nI g := d1.2.2.2.2.2.2.2.2.2.2.2
      have w2 : h5 13 13 = nI R.1.2.2.2.2.2 := by rw [d2 13 (by omega)]; exact b1'.2.2.2.2.2.2.2.2.2.2.2
      rw [w1, w2, nI_add]
      have fc5 : frC h (up h5 1 13 (nI (g + R.1.2.2.2.2.2))) := frC_tr (frC_tr fc3 (frC_fr b2 (by omega))) (frC_tr (frC_fr d2 (by omega)) (frC_up (by omega)))
      have u5 : up h5 1 13 (nI (g + R.1.2.2.2.2.2)) 44 0 = nI 0 := by rw [up_ne _ _ _ _ (by omega), d2 44 (by omega), b2 44 (by omega)]; exact u3
      have R5 := RC_g d1 (g' := g + R.1.2.2.2.2.2)
      obtain ⟨m1, m2, m3⟩ := toM _ fc5
      refine readsG_r hb hFu hp m2 m3 m1 hF (by omega) he (fun h6 e1 e2 e3 e4 e5 => ?_) (fun h6 p _ e1 _ _ _ => ?_)
      · rw [if_pos rfl]
        refine kk _ (INV_rd hs hm R5 (RM_56 e2 (by omega)) hF1 fc5 (frR_tr e3 (frR_56 (by omega))) nR (fun t ht => ?_) (fun t h1 h2 => ?_) u5 (by rw [upr, if_pos ⟨rfl, rfl⟩]) (by omega) (by omega))
        · rw [up_ne _ _ _ _ (by omega), up_ne _ _ _ _ (by omega)]
          exact e4 t ht
        · rw [up_ne _ _ _ _ (by omega), up_ne _ _ _ _ (by omega)]
          exact e5 t h1 h2
      · rw [b3] at e1
        cases e1
    · have fc4 : frC h h4 := frC_tr fc3 (frC_fr b2 (by omega))
      have R4 : RC 1 n W B C ln pl g h4 := RC_fr R3 b2 (by omega)
      have u4 : h4 44 0 = nI 0 := by rw [b2 44 (by omega)]; exact u3
      obtain ⟨m1, m2, m3⟩ := toM _ fc4
      refine readsG_r hb hFu hp m2 m3 m1 hF (by omega) he (fun h6 e1 _ _ _ _ => ?_) (fun h6 p' mm e1 e2 e3 e4 => ?_)
      · rw [b3] at e1
        cases e1
      · rw [b3] at e1
        cases e1
        rw [if_pos (rnv_s mm p)]
        refine kk _ (INV_rd hs hm R4 (RM_56 e2 (by omega)) hF fc4 (frR_tr e3 (frR_56 (by omega))) (Nat.le_refl _) (fun t ht => ?_) (fun t h1 h2 => by omega) u4 (by rw [upr, if_pos ⟨rfl, rfl⟩]) (Nat.le_refl _) (by omega))
        rw [up_ne _ _ _ _ (by omega), up_ne _ _ _ _ (by omega)]
        exact e4 t ht
    · have := q2' j q hq
      rw [Nat.zero_add]
      refine ⟨?_, (hV q (List.mem_of_getElem? hq)).2⟩
      unfold SRk at this ⊢
      rw [up_ne _ _ _ _ (by omega), up_ne _ _ _ _ (by omega), up_ne _ _ _ _ (by omega), up_ne _ _ _ _ (by omega), up_ne _ _ _ _ (by omega), a2 46 (by omega), a2 47 (by omega), a2 48 (by omega), a2 49 (by omega), a2 50 (by omega)]
      exact this
end CA3
