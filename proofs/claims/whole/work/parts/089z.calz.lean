/-! words: what they do -/
abbrev DS : Type := Nat × (Nat → Nat) × (Nat → Nat) × CT × LN × Nat
def dsS (s : DS) (q : ST4) : Int32 × DS :=
  if q.1 < 2 then
    (if q.2.2.1 < 6 ∧ q.2.2.2 - 1 < s.1 then
      (if q.1 = 0 then ((rqS s.2.1 s.2.2.2.1 s.2.2.2.2.1 (q.2.2.1, q.2.2.2 - 1, q.2.1)).1, (s.1, s.2.1, s.2.2.1, (rqS s.2.1 s.2.2.2.1 s.2.2.2.2.1 (q.2.2.1, q.2.2.2 - 1, q.2.1)).2.1, (rqS s.2.1 s.2.2.2.1 s.2.2.2.2.1 (q.2.2.1, q.2.2.2 - 1, q.2.1)).2.2.1, s.2.2.2.2.2 + (rqS s.2.1 s.2.2.2.1 s.2.2.2.2.1 (q.2.2.1, q.2.2.2 - 1, q.2.1)).2.2.2))
       else ((gvS s.2.1 s.2.2.2.1 s.2.2.2.2.1 (q.2.2.1, q.2.2.2 - 1, q.2.1)).1, (s.1, s.2.1, s.2.2.1, (gvS s.2.1 s.2.2.2.1 s.2.2.2.2.1 (q.2.2.1, q.2.2.2 - 1, q.2.1)).2.1, (gvS s.2.1 s.2.2.2.1 s.2.2.2.2.1 (q.2.2.1, q.2.2.2 - 1, q.2.1)).2.2.1, s.2.2.2.2.2 + (gvS s.2.1 s.2.2.2.1 s.2.2.2.2.1 (q.2.2.1, q.2.2.2 - 1, q.2.1)).2.2.2)))
     else (-1, s))
  else (if q.2.2.2 ≤ s.1 then (if s.1 = 12 then (-3, s) else (nI s.1, (s.1 + 1, uN s.2.1 s.1 q.2.2.2, uN s.2.2.1 s.1 (q.1 - 2), s.2.2.2.1, s.2.2.2.2.1, s.2.2.2.2.2))) else (-1, s))
def rnS : List (Nat × ST4) → DS → DS × Option Nat
  | [], s => (s, none)
  | q :: r, s => if nI 0 ≤ (dsS s q.2).1 then rnS r (dsS s q.2).2 else ((dsS s q.2).2, some q.1)
def rnv (m : Nat) (o : Option Nat) : Int32 := match o with
  | none => nI m
  | some p => -2000 - nI p
def okD (c : Nat) (pl : LN) (s : DS) : Prop := WF c s.1 s.2.1 s.2.2.1 s.2.2.2.1 s.2.2.2.2.1 pl
theorem VST_12 {q : ST4} {n : Nat} (hv : VST q) (h1 : q.1 < 2) (h2 : q.2.2.1 < 6 ∧ q.2.2.2 - 1 < n) : vq n (q.2.2.1, q.2.2.2 - 1, q.2.1) := ⟨h2.1, h2.2, (hv.2.2 h1).2.1⟩
theorem okD_s {c : Nat} {pl : LN} {s : DS} {q : ST4} (hk : okD c pl s) (hv : VST q) : okD (c + 6) pl (dsS s q).2 := by
  obtain ⟨n, W, B, C, ln, g⟩ := s
  unfold okD at hk
  simp only [] at hk
  have triv : WF (c + 6) n W B C ln pl := WF_le hk (by omega)
  unfold dsS
  split
  · rename_i h1
    split
    · rename_i h2
      have v := VST_12 hv h1 h2
      split
      · exact WF_le (rqS_WF hk v) (by omega)
      · exact gvS_WF hk v
    · exact triv
  · split
    · rename_i h1 h2
      split
      · exact triv
      · rename_i h3
        simp only [] at h2 h3
        have hn := hk.1
        exact WF_th triv (by omega) h2 (by have := hv.1; omega)
    · exact triv
theorem dsS_n {s : DS} {q : ST4} : s.1 ≤ (dsS s q).2.1 := by
  obtain ⟨n, W, B, C, ln, g⟩ := s
  unfold dsS
  split
  · split
    · split
      · exact Nat.le_refl _
      · exact Nat.le_refl _
    · exact Nat.le_refl _
  · split
    · split
      · exact Nat.le_refl _
      · exact Nat.le_succ _
    · exact Nat.le_refl _
theorem rnS_n : ∀ (L : List (Nat × ST4)) (s : DS), s.1 ≤ (rnS L s).1.1
  | [], s => Nat.le_refl _
  | q :: r, s => by
    unfold rnS
    split
    · exact Nat.le_trans dsS_n (rnS_n r _)
    · exact dsS_n
theorem okD_r {pl : LN} : ∀ (L : List (Nat × ST4)) (c : Nat) (s : DS), okD c pl s → (∀ q ∈ L, VST q.2) → okD (c + 6 * L.length) pl (rnS L s).1
  | [], c, s, hk, _ => hk
  | q :: r, c, s, hk, hv => by
    have h1 := okD_s hk (hv q List.mem_cons_self)
    unfold rnS
    split
    · have := okD_r r (c + 6) _ h1 (fun q hq => hv q (List.mem_cons_of_mem _ hq))
      rw [List.length_cons, show c + 6 * (r.length + 1) = c + 6 + 6 * r.length by omega]
      exact this
    · exact WF_le h1 (by rw [List.length_cons]; omega)
theorem rnS_m : ∀ (L : List (Nat × ST4)) (s : DS) (p : Nat), (rnS L s).2 = some p → ∃ q ∈ L, q.1 = p
  | [], s, p, h => by cases h
  | q :: r, s, p, h => by
    unfold rnS at h
    split at h
    · obtain ⟨q2, h1, h2⟩ := rnS_m r _ p h
      exact ⟨q2, List.mem_cons_of_mem _ h1, h2⟩
    · cases h
      exact ⟨q, List.mem_cons_self, rfl⟩
theorem isA_no {n o c m : Nat} (ho : o < 100) (hc : c < 200) (hn : n ≤ 12) (h : ¬ (o < 6 ∧ c < n)) : ¬ isA n (nI o) (nI c) (nI m) := by
  rintro ⟨⟨a, a1, a2⟩, ⟨b, b1, b2⟩, _⟩
  rw [neq (by omega) (by omega)] at a2 b2
  exact h ⟨by omega, by omega⟩
theorem wI_pos {c : Nat} (h : 0 < c) : wI c = nI (c - 1) := by
  obtain ⟨d, rfl⟩ : ∃ d, c = d + 1 := ⟨c - 1, by omega⟩
  rw [wI_s]
  rfl
theorem isW_no {n c : Nat} (hc : c < 200) (hn : n ≤ 12) (h : ¬ c ≤ n) : ¬ isW n (wI c) := by
  rw [wI_pos (by omega)]
  rintro (e | ⟨b, b1, b2⟩)
  · exact (nneg (k := c - 1) (by omega)).mp e
  · rw [neq (by omega) (by omega)] at b2
    omega
theorem isW_yes {n c : Nat} (h : c ≤ n) : isW n (wI c) := by
  cases c with
  | zero => exact Or.inl wI_0
  | succ c => exact Or.inr ⟨c, by omega, wI_s c⟩
section CZ
variable {F k p c : Nat} {pl : LN} {h : AH} {s : DS} {q : ST4}
def RCD (pl : LN) (s : DS) (h : AH) : Prop := RC 13 s.1 s.2.1 s.2.2.1 s.2.2.2.1 s.2.2.2.2.1 pl s.2.2.2.2.2 h
theorem perf_c {K : Int32 → AH → Prop} (hFu : 500 ≤ F) (hkk : k < 61) (hk : okD c pl s) (hc : c < 1000000) (hv : VST q) (hS : SRk k p q h) (hR : RCD pl s h) (kk : ∀ h', RCD pl (dsS s q).2 h' → fr 13 h h' → K (dsS s q).1 h') : P_X6_perform F 13 (nI k) h K := by
  obtain ⟨n, W, B, C, ln, g⟩ := s
  unfold okD at hk
  unfold RCD at hR
  simp only [] at hk hR
  have vk : vp_in (nI k) 61 := vp_in_nI hkk (by omega)
  have ck : (nI k).toNatClampNeg = k := ncl (by omega)
  have hn := hk.1
  obtain ⟨s1, s2, s3, s4⟩ := hS
  obtain ⟨v1, v2, v3⟩ := hv
  unfold P_X6_perform
  refine ⟨vk, ?_⟩
  rw [ck, s2]
  unfold dsS at kk
  simp only [] at kk
  by_cases e1 : q.1 < 2
  · rw [if_pos e1] at kk
    obtain ⟨t1, t2⟩ := s3 e1
    obtain ⟨w1, w2, w3⟩ := v3 e1
    rw [t1, t2, s4, wI_pos w1]
    by_cases e0 : q.1 = 0
    · refine ifn (by rw [e0]; decide) (ifn (by rw [e0]; decide) (ifn (by rw [e0]; decide) ⟨vk, vk, vk, ?_⟩))
      by_cases e2 : q.2.2.1 < 6 ∧ q.2.2.2 - 1 < n
      · rw [if_pos e2, if_pos e0] at kk
        exact request_v (q := (q.2.2.1, q.2.2.2 - 1, q.2.1)) hR hk (by omega) (by omega) ⟨e2.1, e2.2, w2⟩ kk
      · rw [if_neg e2] at kk
        rw [request_n hR hk (isA_no (by omega) (by omega) hn e2)]
        exact kk h hR (fr_rf _ _)
    · have e1' : q.1 = 1 := by omega
      refine ifp (by rw [e1']) ⟨vk, vk, vk, ?_⟩
      by_cases e2 : q.2.2.1 < 6 ∧ q.2.2.2 - 1 < n
      · rw [if_pos e2, if_neg e0] at kk
        exact giveUp_v (q := (q.2.2.1, q.2.2.2 - 1, q.2.1)) hR hk (by omega) (by omega) ⟨e2.1, e2.2, w2⟩ kk
      · rw [if_neg e2] at kk
        rw [giveUp_n hR hk (isA_no (by omega) (by omega) hn e2)]
        exact kk h hR (fr_rf _ _)
  · rw [if_neg e1] at kk
    rw [s4]
    have core : ∀ y : Nat, y = q.1 - 2 → P_X5_addThing F 13 (wI q.2.2.2) (nI y) h K := fun y hy => by
      by_cases e2 : q.2.2.2 ≤ n
      · rw [if_pos e2] at kk
        by_cases e3 : n = 12
        · rw [if_pos e3] at kk
          exact (add_f hR e3 (isW_yes e2) ⟨y, by omega, rfl⟩).mpr (kk h hR (fr_rf _ _))
        · rw [if_neg e3] at kk
          rw [← hy] at kk
          exact add_y hR (by omega) e2 (by omega) kk
      · rw [if_neg e2] at kk
        rw [add_n hR hn (fun z => isW_no (by omega) hn e2 z.1)]
        exact kk h hR (fr_rf _ _)
    have : q.1 = 2 ∨ q.1 = 3 := by omega
    rcases this with e | e
    · refine ifn (by rw [e]; decide) (ifp (by rw [e]) ⟨vk, ?_⟩)
      exact core 0 (by omega)
    · refine ifn (by rw [e]; decide) (ifn (by rw [e]; decide) (ifp (by rw [e]) ⟨vk, ?_⟩))
      exact core 1 (by omega)
theorem SRk_fr {h1 : AH} (a : SRk k p q h) (b : fr 13 h h1) : SRk k p q h1 := by
  obtain ⟨a1, a2, a3, a4⟩ := a
  refine ⟨by rw [b 46 (by omega)]; exact a1, by rw [b 47 (by omega)]; exact a2, fun z => ?_, by rw [b 50 (by omega)]; exact a4⟩
  rw [b 48 (by omega), b 49 (by omega)]
  exact a3 z
theorem runC_l {K : Int32 → AH → Prop} {S : Nat} {h0 : AH} {R : DS × Option Nat} (hFu : 500 ≤ F) (hS : S ≤ 61)
    (kn : ∀ h', RCD pl R.1 h' → fr 13 h0 h' → R.2 = none → P_X5_copyFrom F 1 13 h' (fun (h1 : AH) => K (nI S) (up h1 1 13 ((h1 1 13) + (h1 13 13)))))
    (ks : ∀ h' p, fr 13 h0 h' → R.2 = some p → K (-2000 - nI p) h') : ∀ (L : List (Nat × ST4)) (N i c : Nat) (s : DS) (h : AH), i + L.length = S → L.length + 1 ≤ N → (∀ j q, L[j]? = some q → SRk (i + j) q.1 q.2 h ∧ VST q.2) → okD c pl s → c + 6 * L.length < 900000 → RCD pl s h → fr 13 h0 h → rnS L s = R → X7_reads_c43 F K N (nI S) (nI i) h := by
  intro L
  induction L with
  | nil =>
    intro N i c s h h1 h2 h3 h4 h5 h6 h7 he
    obtain ⟨N, rfl⟩ : ∃ k, N = k + 1 := ⟨N - 1, by simp at h2; omega⟩
    simp only [List.length_nil, Nat.add_zero] at h1
    subst he
    rw [X7_reads_c43_s]
    refine ifp (by rw [nle (by omega) (by omega)]; omega) ?_
    exact kn h h6 h7 rfl
  | cons q r ih =>
    intro N i c s h h1 h2 h3 h4 h5 h6 h7 he
    simp only [List.length_cons] at h1 h2 h5
    obtain ⟨N, rfl⟩ : ∃ k, N = k + 1 := ⟨N - 1, by omega⟩
    obtain ⟨h8, h9⟩ := h3 0 q rfl
    rw [Nat.add_zero] at h8
    rw [X7_reads_c43_s]
    refine ifn (by rw [nle (by omega) (by omega)]; omega) ?_
    refine perf_c hFu (by omega) h4 (by omega) h9 h8 h6 (fun h' q1 q2 => ?_)
    unfold rnS at he
    by_cases e : nI 0 ≤ (dsS s q.2).1
    · rw [if_pos e] at he
      refine ifp e ?_
      rw [nI_add]
      refine ih N (i + 1) (c + 6) _ h' (by omega) (by omega) (fun j q' hq' => ?_) (okD_s h4 h9) (by omega) q1 (fr_tr h7 q2) he
      have := h3 (j + 1) q' (by rw [List.getElem?_cons_succ]; exact hq')
      rw [show i + 1 + j = i + (j + 1) by omega]
      exact ⟨SRk_fr this.1 q2, this.2⟩
    · rw [if_neg e] at he
      refine ifn e ⟨vp_in_nI (by omega) (by omega), ?_⟩
      have h10 := SRk_fr h8 q2
      rw [ncl (by omega), h10.1]
      exact ks h' q.1 (fr_tr h7 q2) (by rw [← he])
/-- the reference -/
def RMD (pl : LN) (g0 : Nat) (s : DS) (h : AH) : Prop := RM s.1 s.2.1 s.2.2.1 s.2.2.2.1 s.2.2.2.2.1 pl (g0 + s.2.2.2.2.2) h
def fg (n n' : Nat) (h h' : AH) : Prop := (∀ a, a ≠ 56 → a ≠ 57 → a ≠ 60 → a ≠ 61 → h' a = h a) ∧ (∀ j, j ≠ 4 → (j < 17 ∨ 22 < j) → h' 56 j = h 56 j) ∧ (∀ t, t < n → h' 60 t = h 60 t ∧ h' 61 t = h 61 t) ∧ ∀ t, n ≤ t → t < n' → h' 60 t = nI 0 ∧ h' 61 t = nI 0
theorem fg_tr {n n1 n2 : Nat} {h h1 h2 : AH} (hn : n ≤ n1) (a : fg n n1 h h1) (b : fg n1 n2 h1 h2) : fg n n2 h h2 := by
  obtain ⟨a1, a2, a3, a4⟩ := a
  obtain ⟨b1, b2, b3, b4⟩ := b
  refine ⟨fun i p1 p2 p3 p4 => (b1 i p1 p2 p3 p4).trans (a1 i p1 p2 p3 p4), fun j p1 p2 => (b2 j p1 p2).trans (a2 j p1 p2), fun t ht => ?_, fun t ht1 ht2 => ?_⟩
  · have x := a3 t ht
    have y := b3 t (by omega)
    exact ⟨y.1.trans x.1, y.2.trans x.2⟩
  · by_cases e : t < n1
    · have x := a4 t ht1 e
      have y := b3 t e
      exact ⟨y.1.trans x.1, y.2.trans x.2⟩
    · exact b4 t (by omega) ht2
theorem fg_f8 {n : Nat} {h h1 : AH} (a : f8 h h1) : fg n n h h1 := ⟨fun i p1 _ _ _ => a.1 i p1, fun j _ p2 => a.2 j p2, fun t _ => by rw [a.1 60 (by omega), a.1 61 (by omega)]; exact ⟨rfl, rfl⟩, fun t p1 p2 => by omega⟩
theorem fg_fm {n : Nat} {h h1 : AH} (a : fm h h1) : fg n n h h1 := ⟨fun i p1 p2 _ _ => a.1 i p2 p1, fun j p1 _ => a.2 j p1, fun t _ => by rw [a.1 60 (by omega) (by omega), a.1 61 (by omega) (by omega)]; exact ⟨rfl, rfl⟩, fun t p1 p2 => by omega⟩
theorem fg_ft {n : Nat} {h h1 : AH} (a : ft n h h1) : fg n (n + 1) h h1 := ⟨fun i p1 p2 p3 p4 => a.1 i p2 p3 p4, fun j _ _ => by rw [a.1 56 (by omega) (by omega) (by omega)], fun t ht => a.2.1 t (by omega), fun t p1 p2 => by
  have : t = n := by omega
  subst this
  exact a.2.2⟩
theorem fg_rf (n : Nat) (h : AH) : fg n n h h := fg_f8 (f8_rf h)
theorem RM_f8 {n g : Nat} {W B : Nat → Nat} {C : CT} {ln : LN} {h1 : AH} (hR : RM n W B C ln pl g h) (a : f8 h h1) : RM n W B C ln pl g h1 := ⟨RG_c hR.1 (a.1 57 (by omega)), by rw [a.2 4 (by omega)]; exact hR.2⟩
theorem mtold_r {v : Nat} {K : Int32 → AH → Prop} (hv : v = 111 ∨ v = 115 ∨ v = 117) (he : h 56 19 = nI v) (kk : K (nI (md v)) h) : P_X8_modeTold F h K := by
  unfold P_X8_modeTold
  rw [he]
  rcases hv with e | e | e
  · subst e; exact ifp (by decide) (ifp (by decide) kk)
  · subst e; exact ifn (fun z => z rfl) kk
  · subst e; exact ifp (by decide) (ifn (fun z => z rfl) kk)
theorem do8_r {K : Int32 → AH → Prop} {g0 : Nat} (hFu : 500 ≤ F) (hk : okD c pl s) (hc : c < 1000000) (hv : VST q) (hS : TL8 q h) (hR : RMD pl g0 s h) (kk : ∀ h', RMD pl g0 (dsS s q).2 h' → fg s.1 (dsS s q).2.1 h h' → h' 56 17 = h 56 17 → h' 56 16 = h 56 16 → h' 64 = h 64 → K (dsS s q).1 h') : P_X8_does F h K := by
  obtain ⟨n, W, B, C, ln, g⟩ := s
  unfold okD at hk
  unfold RMD at hR
  simp only [] at hk hR
  have hn := hk.1
  obtain ⟨s1, s2, s3, s4⟩ := hS
  obtain ⟨v1, v2, v3⟩ := hv
  unfold P_X8_does
  unfold dsS at kk
  simp only [] at kk
  have triv : ∀ r : Int32, (∀ h', RMD pl g0 (n, W, B, C, ln, g) h' → fg n n h h' → h' 56 17 = h 56 17 → h' 56 16 = h 56 16 → h' 64 = h 64 → K r h') → K r h := fun r k => k h hR (fg_rf _ _) rfl rfl rfl
  by_cases e1 : q.1 < 2
  · rw [if_pos e1] at kk
    obtain ⟨t1, t2, v, t3, t4, t5⟩ := s4 e1
    obtain ⟨w1, w2, w3⟩ := v3 e1
    rw [t4, t1, t2, s1, wI_pos w1]
    refine ifn (by rw [neq (by omega) (by omega)]; omega) (ifp (by rw [neq (by omega) (by omega)]; omega) ?_)
    by_cases e0 : q.1 = 0
    · refine ifp (by rw [e0]) (mtold_r t3 t4 ?_)
      rw [← t5]
      by_cases e2 : q.2.2.1 < 6 ∧ q.2.2.2 - 1 < n
      · rw [if_pos e2, if_pos e0] at kk
        refine ask_v (q := (q.2.2.1, q.2.2.2 - 1, q.2.1)) hR hk (by omega) (by omega) ⟨e2.1, e2.2, w2⟩ (fun h' q1 q2 => kk h' ?_ (fg_fm q2) (q2.2 17 (by omega)) (q2.2 16 (by omega)) (q2.1 64 (by omega) (by omega)))
        show RM n W B _ _ pl (g0 + (g + _)) h'
        rw [← Nat.add_assoc]
        exact q1
      · rw [if_neg e2] at kk
        show P_X8_ask F (nI q.2.2.1) (nI (q.2.2.2 - 1)) (nI q.2.1) h _
        rw [ask_n hR hk (isA_no (by omega) (by omega) hn e2)]
        exact triv _ kk
    · have e1' : q.1 = 1 := by omega
      refine ifn (by rw [e1']; decide) (mtold_r t3 t4 ?_)
      rw [← t5]
      by_cases e2 : q.2.2.1 < 6 ∧ q.2.2.2 - 1 < n
      · rw [if_pos e2, if_neg e0] at kk
        refine give_v (q := (q.2.2.1, q.2.2.2 - 1, q.2.1)) hR hk (by omega) (by omega) ⟨e2.1, e2.2, w2⟩ (fun h' q1 q2 => kk h' ?_ (fg_fm q2) (q2.2 17 (by omega)) (q2.2 16 (by omega)) (q2.1 64 (by omega) (by omega)))
        show RM n W B _ _ pl (g0 + (g + _)) h'
        rw [← Nat.add_assoc]
        exact q1
      · rw [if_neg e2] at kk
        show P_X8_give F (nI q.2.2.1) (nI (q.2.2.2 - 1)) (nI q.2.1) h _
        rw [give_n hR hk (isA_no (by omega) (by omega) hn e2)]
        exact triv _ kk
  · rw [if_neg e1] at kk
    have core : ∀ y : Nat, y = q.1 - 2 → X8_does_c37 F K (wI q.2.2.2) (nI y) h := fun y hy => by
      unfold X8_does_c37
      by_cases e2 : q.2.2.2 ≤ n
      · rw [if_pos e2] at kk
        by_cases e3 : n = 12
        · rw [if_pos e3] at kk
          rw [rth_f hR e3 (isW_yes e2) ⟨y, by omega, rfl⟩]
          exact triv _ kk
        · rw [if_neg e3] at kk
          rw [← hy] at kk
          refine rth_y hR hk (by omega) e2 (by omega) (by omega) (fun h' q1 q2 => kk h' q1 (fg_ft q2) ?_ ?_ (q2.1 64 (by omega) (by omega) (by omega)))
          · rw [q2.1 56 (by omega) (by omega) (by omega)]
          · rw [q2.1 56 (by omega) (by omega) (by omega)]
      · rw [if_neg e2] at kk
        rw [rth_n hR hn (fun z => isW_no (by omega) hn e2 z.1)]
        exact triv _ kk
    have : q.1 = 2 ∨ q.1 = 3 := by omega
    rcases this with e | e
    · have z1 := s2 e
      have c18 : X8_does_c18 F K h := by
        unfold X8_does_c18
        rw [z1, s1]
        exact ifn (fun z => z rfl) (core 0 (by omega))
      rw [z1]
      exact ifp rfl c18
    · have z1 := s3 e
      have c18 : X8_does_c18 F K h := by
        unfold X8_does_c18
        rw [z1, s1]
        exact ifp (by decide) (core 1 (by omega))
      rw [z1]
      exact ifn (by decide) (ifn (fun z => z rfl) c18)
theorem thr1_l {l g0 : Nat} {t : Nat → Nat} {K : Int32 → AH → Prop} (hb : BY l t) (hFu : 500 ≤ F) : ∀ (f N k p c : Nat) (s : DS) (h : AH), p ≤ l → l + 1 ≤ p + f → f + 1 ≤ N → (paS t l f p).2 = none → okD c pl s → c + 6 * f < 900000 → TR8 l t p h → RMD pl g0 s h →
    (∀ h', RMD pl g0 (rnS (paS t l f p).1 s).1 h' → fg s.1 (rnS (paS t l f p).1 s).1.1 h h' → K (rnv (k + (paS t l f p).1.length) (rnS (paS t l f p).1 s).2) h') → X8_goesThrough_c7 F K N (nI 1) (nI k) h := by
  have l1 := hb.1
  have tl := hb.2.1
  intro f
  induction f with
  | zero => intro N k p c s h h1 h2; omega
  | succ f ih =>
    intro N k p c s h h1 h2 h3 hno hk hc hT hR kk
    obtain ⟨N, rfl⟩ : ∃ k, N = k + 1 := ⟨N - 1, by omega⟩
    have hs := stS_b hb h1
    rw [X8_goesThrough_c7_s]
    refine stm8_r hb hFu h1 (TR8_up (j := 18) (v := nI 0) hT (by omega)) (by rw [upr, if_pos ⟨rfl, rfl⟩]) (fun h5 q1 q2 q3 q4 => ?_)
    have g5 : f8 h h5 := f8_tr (f8_up (by omega)) q1
    have hR5 : RMD pl g0 s h5 := RM_f8 hR g5
    unfold paS at kk hno
    cases e1 : (stS t p).1 with
    | false =>
      rw [e1] at hno
      cases hno
    | true =>
      rw [e1, if_pos rfl] at kk hno
      rw [e1] at q3
      have s1 := (hs.2.2 e1).1
      have hv := (hs.2.2 e1).2
      refine ifp (by rw [q3]; rfl) (ifn (by decide) ?_)
      refine do8_r hFu hk (by omega) hv (q4 e1) hR5 (fun h6 r1 r2 r3 r4 r5 => ?_)
      rw [hT.2.1]
      have hT6 : TR8 l t (stS t p).2.2 h6 := ⟨by rw [r4]; exact q2.1, by rw [r3]; exact q2.2.1, fun i hi => by rw [r5]; exact q2.2.2 i hi⟩
      have g6 : fg s.1 (dsS s (stS t p).2.1).2.1 h h6 := fg_tr (Nat.le_refl _) (fg_f8 g5) r2
      by_cases e2 : l ≤ (stS t p).2.2
      · rw [if_pos e2] at kk
        have k2 := kk h6
        simp only [rnS, List.length_singleton] at k2
        by_cases e : nI 0 ≤ (dsS s (stS t p).2.1).1
        · rw [if_pos e] at k2
          refine ifp e ?_
          unfold X8_goesThrough_c54
          rw [hT6.2.1, hT6.1]
          refine ifn (fun z => z (by rw [show (stS t p).2.2 = l by omega])) ?_
          rw [nI_add]
          exact k2 r1 g6
        · rw [if_neg e] at k2
          refine ifn e ?_
          exact k2 r1 g6
      · rw [if_neg e2] at kk hno
        by_cases e3 : t (stS t p).2.2 = 59
        · rw [if_pos e3] at kk hno
          simp only [rnS, List.length_cons] at kk
          by_cases e : nI 0 ≤ (dsS s (stS t p).2.1).1
          · rw [if_pos e] at kk
            refine ifp e ?_
            unfold X8_goesThrough_c54
            rw [hT6.2.1, hT6.1]
            refine ifp (by rw [neq (by omega) (by omega)]; omega) ?_
            refine here_r hb hs.2.1 hT6 ?_
            refine ifp (by rw [e3]) ?_
            rw [nI_add]
            refine ih N (k + 1) ((stS t p).2.2 + 1) (c + 6) _ _ (by omega) (by omega) (by omega) hno (okD_s hk hv) (by omega) (TR8_nx hT6) (RM_f8 r1 (f8_up (by omega))) (fun h7 w1 w2 => ?_)
            rw [show k + 1 + (paS t l f ((stS t p).2.2 + 1)).1.length = k + ((paS t l f ((stS t p).2.2 + 1)).1.length + 1) by omega]
            exact kk h7 w1 (fg_tr dsS_n (fg_tr dsS_n g6 (fg_f8 (f8_up (by omega)))) w2)
          · rw [if_neg e] at kk
            refine ifn e ?_
            exact kk h6 r1 g6
        · rw [if_neg e3] at hno
          cases hno
end CZ
