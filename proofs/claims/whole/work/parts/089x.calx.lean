/-! words: what stands on the tape -/
def fig (a : Nat) : Bool := decide (48 ≤ a) && decide (a ≤ 57)
def md (a : Nat) : Nat := if a = 111 then 5 else if a = 115 then 2 else if a = 117 then 4 else 0
def nmS (t : Nat → Nat) (p : Nat) : Nat × Nat := if fig (t p) = true then (if fig (t (p + 1)) = true then (10 * (t p - 48) + (t (p + 1) - 48) + 1, p + 2) else (t p - 48 + 1, p + 1)) else (0, p)
abbrev ST4 : Type := Nat × Nat × Nat × Nat
abbrev SR1 : Type := Bool × ST4 × Nat
def akS (t : Nat → Nat) (kd p : Nat) : SR1 :=
  if md (t p) = 0 then (false, (kd, 0, 0, 0), p)
  else if fig (t (p + 1)) = true then (if t (p + 2) = 32 then (decide (0 < (nmS t (p + 3)).1), (kd, md (t p), t (p + 1) - 48, (nmS t (p + 3)).1), (nmS t (p + 3)).2) else (false, (kd, 0, 0, 0), p + 2))
  else (false, (kd, 0, 0, 0), p + 1)
def stS (t : Nat → Nat) (p : Nat) : SR1 :=
  if t p = 43 then (true, (2, 0, 0, (nmS t (p + 1)).1), (nmS t (p + 1)).2)
  else if t p = 45 then (true, (3, 0, 0, (nmS t (p + 1)).1), (nmS t (p + 1)).2)
  else if t p = 103 then akS t 1 (p + 1) else akS t 0 p
def paS (t : Nat → Nat) (l : Nat) : Nat → Nat → List (Nat × ST4) × Option Nat
  | 0, p => ([], some p)
  | f + 1, p =>
    if (stS t p).1 = true then
      (if l ≤ (stS t p).2.2 then ([(p, (stS t p).2.1)], none)
       else if t (stS t p).2.2 = 59 then ((p, (stS t p).2.1) :: (paS t l f ((stS t p).2.2 + 1)).1, (paS t l f ((stS t p).2.2 + 1)).2)
       else ([], some (stS t p).2.2))
    else ([], some (stS t p).2.2)
def pav (k : Nat) (r : List (Nat × ST4) × Option Nat) : Int32 := match r.2 with
  | none => nI (k + r.1.length)
  | some p => -1000 - nI p
def VST (s : ST4) : Prop := s.1 ≤ 3 ∧ s.2.2.2 ≤ 100 ∧ (s.1 < 2 → 0 < s.2.2.2 ∧ (s.2.1 = 2 ∨ s.2.1 = 4 ∨ s.2.1 = 5) ∧ s.2.2.1 ≤ 9)
def BY (l : Nat) (t : Nat → Nat) : Prop := l ≤ 120 ∧ (∀ i, t i < 128) ∧ ∀ i, l ≤ i → t i = 0
theorem BY_p {l p : Nat} {t : Nat → Nat} (hb : BY l t) (h : t p ≠ 0) : p < l := by
  rcases Nat.lt_or_ge p l with h1 | h1
  · exact h1
  · exact absurd (hb.2.2 p h1) h
theorem fig_b {a : Nat} (h : fig a = true) : 48 ≤ a ∧ a ≤ 57 := by
  unfold fig at h
  simpa using h
theorem BY_f {l p : Nat} {t : Nat → Nat} (hb : BY l t) (h : fig (t p) = true) : p < l := BY_p hb (by have := fig_b h; omega)
theorem md_v {a : Nat} (h : md a ≠ 0) : (a = 111 ∨ a = 115 ∨ a = 117) ∧ (md a = 2 ∨ md a = 4 ∨ md a = 5) := by
  unfold md at h ⊢
  split
  · exact ⟨by omega, by omega⟩
  · split
    · exact ⟨by omega, by omega⟩
    · split
      · exact ⟨by omega, by omega⟩
      · rename_i h1 h2 h3
        rw [if_neg h1, if_neg h2, if_neg h3] at h
        exact absurd rfl h
theorem nmS_b {l p : Nat} {t : Nat → Nat} (hb : BY l t) (hp : p ≤ l) : p ≤ (nmS t p).2 ∧ (nmS t p).2 ≤ l ∧ (nmS t p).1 ≤ 100 := by
  unfold nmS
  split
  · rename_i h1
    have a := BY_f hb h1
    have a2 := fig_b h1
    split
    · rename_i h2
      have b := BY_f hb h2
      have b2 := fig_b h2
      refine ⟨?_, ?_, ?_⟩ <;> simp only [] <;> omega
    · refine ⟨?_, ?_, ?_⟩ <;> simp only [] <;> omega
  · exact ⟨Nat.le_refl _, hp, by simp only []; omega⟩
theorem akS_b {l p kd : Nat} {t : Nat → Nat} (hb : BY l t) (hp : p ≤ l) : p ≤ (akS t kd p).2.2 ∧ (akS t kd p).2.2 ≤ l ∧ ((akS t kd p).1 = true → p + 1 ≤ (akS t kd p).2.2) ∧ (akS t kd p).2.1.1 = kd := by
  unfold akS
  split
  · exact ⟨Nat.le_refl _, hp, (fun h => by cases h), rfl⟩
  · rename_i h1
    have a : p < l := BY_p hb (by intro z; exact h1 (by rw [z]; rfl))
    split
    · rename_i h2
      have b := BY_f hb h2
      split
      · rename_i h3
        have c := BY_p (p := p + 2) hb (by omega)
        have d := nmS_b (p := p + 3) hb (by omega)
        refine ⟨?_, ?_, fun _ => ?_, rfl⟩ <;> simp only [] <;> omega
      · exact ⟨by simp only []; omega, by simp only []; omega, (fun h => by cases h), rfl⟩
    · exact ⟨by simp only []; omega, by simp only []; omega, (fun h => by cases h), rfl⟩
theorem akS_V {l p kd : Nat} {t : Nat → Nat} (hb : BY l t) (hp : p ≤ l) (hk : kd < 2) (h : (akS t kd p).1 = true) : VST (akS t kd p).2.1 := by
  revert h
  unfold akS
  split
  · intro h; cases h
  · rename_i h1
    have a : p < l := BY_p hb (by intro z; exact h1 (by rw [z]; rfl))
    split
    · rename_i h2
      have b := BY_f hb h2
      have b2 := fig_b h2
      split
      · rename_i h3
        have c := BY_p (p := p + 2) hb (by omega)
        have d := nmS_b (p := p + 3) hb (by omega)
        intro h
        have h4 : 0 < (nmS t (p + 3)).1 := of_decide_eq_true h
        exact ⟨by simp only []; omega, d.2.2, fun _ => ⟨h4, (md_v h1).2, by simp only []; omega⟩⟩
      · intro h; cases h
    · intro h; cases h
theorem stS_b {l p : Nat} {t : Nat → Nat} (hb : BY l t) (hp : p ≤ l) : p ≤ (stS t p).2.2 ∧ (stS t p).2.2 ≤ l ∧ ((stS t p).1 = true → p + 1 ≤ (stS t p).2.2 ∧ VST (stS t p).2.1) := by
  unfold stS
  split
  · rename_i h1
    have a : p < l := BY_p hb (by omega)
    have d := nmS_b (p := p + 1) hb (by omega)
    exact ⟨by simp only []; omega, d.2.1, fun _ => ⟨d.1, by simp only []; omega, d.2.2, fun z => by simp only [] at z; omega⟩⟩
  · split
    · have a : p < l := BY_p hb (by omega)
      have d := nmS_b (p := p + 1) hb (by omega)
      exact ⟨by simp only []; omega, d.2.1, fun _ => ⟨d.1, by simp only []; omega, d.2.2, fun z => by simp only [] at z; omega⟩⟩
    · split
      · have a : p < l := BY_p hb (by omega)
        have d := akS_b (p := p + 1) (kd := 1) hb (by omega)
        exact ⟨by omega, d.2.1, fun z => ⟨by have := d.2.2.1 z; omega, akS_V hb (by omega) (by omega) z⟩⟩
      · have d := akS_b (p := p) (kd := 0) hb hp
        exact ⟨d.1, d.2.1, fun z => ⟨d.2.2.1 z, akS_V hb hp (by omega) z⟩⟩
theorem paS_len (t : Nat → Nat) (l : Nat) : ∀ f p, (paS t l f p).1.length ≤ f
  | 0, p => Nat.le_refl _
  | f + 1, p => by
    have := paS_len t l f ((stS t p).2.2 + 1)
    unfold paS
    split
    · split
      · simp
      · split
        · simp; exact this
        · simp
    · simp
theorem paS_V {l : Nat} {t : Nat → Nat} (hb : BY l t) : ∀ f p, p ≤ l → ∀ q, q ∈ (paS t l f p).1 → q.1 ≤ l ∧ VST q.2
  | 0, p, _, q, hq => by cases hq
  | f + 1, p, hp, q, hq => by
    have hs := stS_b hb hp
    unfold paS at hq
    split at hq
    · rename_i h1
      split at hq
      · simp only [List.mem_singleton] at hq
        subst hq
        exact ⟨hp, (hs.2.2 h1).2⟩
      · split at hq
        · rename_i h2 h3
          rcases List.mem_cons.mp hq with e | e
          · subst e
            exact ⟨hp, (hs.2.2 h1).2⟩
          · exact paS_V hb f _ (by omega) q e
        · cases hq
    · cases hq
theorem paS_p {l : Nat} {t : Nat → Nat} (hb : BY l t) : ∀ f p, p ≤ l → l + 1 ≤ p + f → ∀ q, (paS t l f p).2 = some q → q ≤ l
  | 0, p, h1, h2, q, _ => by omega
  | f + 1, p, hp, h2, q, hq => by
    have hs := stS_b hb hp
    unfold paS at hq
    split at hq
    · rename_i h1
      have := (hs.2.2 h1).1
      split at hq
      · cases hq
      · split at hq
        · exact paS_p hb f _ (by omega) (by omega) q hq
        · cases hq; exact hs.2.1
    · cases hq; exact hs.2.1
theorem paS_n1 {l : Nat} {t : Nat → Nat} : ∀ f p, (paS t l f p).2 = none → 0 < (paS t l f p).1.length
  | 0, p, h => by cases h
  | f + 1, p, h => by
    unfold paS at h ⊢
    split
    · rename_i h1
      rw [if_pos h1] at h
      split
      · simp
      · rename_i h2
        rw [if_neg h2] at h
        split
        · simp
        · rename_i h3
          rw [if_neg h3] at h
          cases h
    · rename_i h1
      rw [if_neg h1] at h
      cases h
theorem t10_d : ∀ p, p < 121 → (nI 0 ≤ (-1000 : Int32) - nI p) = False ∧ ((-1000 : Int32) - nI p ≤ nI 0) = True := by
  have h : ∀ p, p < 121 → (¬ (nI 0 ≤ (-1000 : Int32) - nI p)) ∧ ((-1000 : Int32) - nI p ≤ nI 0) := by decide +kernel
  exact fun p hp => ⟨eq_false (h p hp).1, eq_true (h p hp).2⟩
theorem t20_d : ∀ p, p < 121 → (nI 0 ≤ (-2000 : Int32) - nI p) = False := by
  have h : ∀ p, p < 121 → (¬ (nI 0 ≤ (-2000 : Int32) - nI p)) := by decide +kernel
  exact fun p hp => eq_false (h p hp)
section CX
variable {F l p k : Nat} {t : Nat → Nat} {h : AH} {K : Int32 → AH → Prop}
/-! the class -/
def TC (l : Nat) (t : Nat → Nat) (p : Nat) (h : AH) : Prop := h 44 0 = nI l ∧ h 44 2 = nI p ∧ ∀ i, i < l → h 45 i = nI (t i)
theorem TC_nx (hT : TC l t p h) : TC l t (p + 1) (up h 44 2 (h 44 2 + nI 1)) := by
  obtain ⟨h1, h2, h3⟩ := hT
  refine ⟨by rw [upr, if_neg (by omega)]; exact h1, by rw [upr, if_pos ⟨rfl, rfl⟩, h2, nI_add], fun i hi => by rw [up_ne _ _ _ _ (by omega)]; exact h3 i hi⟩
theorem TC_up {i j : Nat} {v : Int32} (hT : TC l t p h) (hi : i ≠ 44 ∧ i ≠ 45) : TC l t p (up h i j v) := by
  obtain ⟨h1, h2, h3⟩ := hT
  refine ⟨by rw [up_ne _ _ _ _ (by omega)]; exact h1, by rw [up_ne _ _ _ _ (by omega)]; exact h2, fun i hi => by rw [up_ne _ _ _ _ (by omega)]; exact h3 i hi⟩
theorem peek_r (hb : BY l t) (hp : p ≤ l) (hT : TC l t p h) (kk : K (nI (t p)) h) : P_X6_peek F h K := by
  obtain ⟨h1, h2, h3⟩ := hT
  have := hb.1
  unfold P_X6_peek
  rw [h1, h2]
  by_cases e : p < l
  · refine ifn (by rw [nle (by omega) (by omega)]; omega) ⟨vp_in_nI (by omega) (by omega), ?_⟩
    rw [ncl (by omega), h3 p e]
    exact kk
  · refine ifp (by rw [nle (by omega) (by omega)]; omega) ?_
    rw [hb.2.2 p (by omega)] at kk
    exact kk
theorem figC_r {a : Nat} (ha : a < 128) (kk : K (bn (fig a)) h) : P_X6_isFigure F (nI a) h K := by
  unfold P_X6_isFigure
  have e : fig a = (decide (48 ≤ a) && decide (a ≤ 57)) := rfl
  rw [e] at kk
  by_cases h1 : a < 48
  · refine ifp (by rw [nlt (by omega) (by omega)]; exact h1) ?_
    rw [decide_eq_false (by omega)] at kk
    exact kk
  · refine ifn (by rw [nlt (by omega) (by omega)]; exact h1) ?_
    rw [decide_eq_true (by omega), Bool.true_and] at kk
    by_cases h2 : a ≤ 57
    · refine ifn (by rw [nlt (by omega) (by omega)]; omega) ?_
      rw [decide_eq_true h2] at kk
      exact kk
    · refine ifp (by rw [nlt (by omega) (by omega)]; omega) ?_
      rw [decide_eq_false h2] at kk
      exact kk
theorem modeC_r {a : Nat} (ha : a < 128) (kk : K (nI (md a)) h) : P_X6_modeOf F (nI a) h K := by
  unfold P_X6_modeOf
  unfold md at kk
  by_cases h1 : a = 111
  · rw [if_pos h1] at kk
    exact ifp (by rw [h1]) kk
  · rw [if_neg h1] at kk
    refine ifn (by rw [neq (by omega) (by omega)]; exact h1) ?_
    by_cases h2 : a = 115
    · rw [if_pos h2] at kk
      exact ifp (by rw [h2]) kk
    · rw [if_neg h2] at kk
      refine ifn (by rw [neq (by omega) (by omega)]; exact h2) ?_
      by_cases h3 : a = 117
      · rw [if_pos h3] at kk
        exact ifp (by rw [h3]) kk
      · rw [if_neg h3] at kk
        exact ifn (by rw [neq (by omega) (by omega)]; exact h3) kk
def fn2 (h h' : AH) : Prop := (∀ a, a ≠ 44 → h' a = h a) ∧ ∀ j, j ≠ 2 → h' 44 j = h 44 j
theorem fn2_rf (h : AH) : fn2 h h := ⟨fun _ _ => rfl, fun _ _ => rfl⟩
theorem fn2_tr {h h1 h2 : AH} (a : fn2 h h1) (c : fn2 h1 h2) : fn2 h h2 := ⟨fun i p1 => (c.1 i p1).trans (a.1 i p1), fun j p1 => (c.2 j p1).trans (a.2 j p1)⟩
theorem fn2_up {v : Int32} : fn2 h (up h 44 2 v) := ⟨fun a p1 => up_ne _ _ _ _ p1, fun j p1 => up_k p1⟩
theorem nz_t (x : Bool) (hx : x = true) : ¬ bn x = nI 0 := by rw [hx]; decide
theorem nz_f (x : Bool) (hx : x = false) : bn x = nI 0 := by rw [hx]; rfl
theorem pnum_r (hb : BY l t) (hp : p ≤ l) (hT : TC l t p h) (kk : ∀ h', fn2 h h' → TC l t (nmS t p).2 h' → K (wI (nmS t p).1) h') : P_X6_parseNumber F h K := by
  have l1 := hb.1
  have tl := hb.2.1
  unfold P_X6_parseNumber
  refine peek_r hb hp hT (figC_r (tl p) ?_)
  unfold nmS at kk
  cases e1 : fig (t p) with
  | false =>
    rw [e1] at kk
    refine ifn (fun z => z rfl) ?_
    exact kk h (fn2_rf h) hT
  | true =>
    rw [e1, if_pos rfl] at kk
    have a1 := BY_f hb e1
    have a2 := fig_b e1
    refine ifp (by decide) (peek_r hb hp hT ?_)
    refine peek_r hb (by omega) (TC_nx hT) (figC_r (tl _) ?_)
    cases e2 : fig (t (p + 1)) with
    | false =>
      rw [e2] at kk
      refine ifn (fun z => z rfl) ?_
      have := kk _ fn2_up (TC_nx hT)
      rw [nsub (by omega)]
      simp only [Bool.false_eq_true, if_false, wI_s] at this
      exact this
    | true =>
      rw [e2, if_pos rfl] at kk
      have b1 := BY_f hb e2
      have b2 := fig_b e2
      refine ifp (by decide) (peek_r hb (by omega) (TC_nx hT) ?_)
      have := kk _ (fn2_tr fn2_up fn2_up) (TC_nx (TC_nx hT))
      rw [nsub (by omega), pk_mul, nI_add, nsub (by omega)]
      simp only [wI_s] at this
      rw [show 10 * (t p - 48) + t (p + 1) - 48 = 10 * (t p - 48) + (t (p + 1) - 48) by omega]
      exact this
def fw (k : Nat) (h h' : AH) : Prop := (∀ a, a ≠ 44 → a ≠ 46 → a ≠ 47 → a ≠ 48 → a ≠ 49 → a ≠ 50 → h' a = h a) ∧ (∀ j, j ≠ 2 → h' 44 j = h 44 j) ∧ ∀ a j, j ≠ k → (a = 46 ∨ a = 47 ∨ a = 48 ∨ a = 49 ∨ a = 50) → h' a j = h a j
theorem fw_rf (k : Nat) (h : AH) : fw k h h := ⟨fun _ _ _ _ _ _ _ => rfl, fun _ _ => rfl, fun _ _ _ _ => rfl⟩
theorem fw_tr {k : Nat} {h h1 h2 : AH} (a : fw k h h1) (c : fw k h1 h2) : fw k h h2 := ⟨fun i p1 p2 p3 p4 p5 p6 => (c.1 i p1 p2 p3 p4 p5 p6).trans (a.1 i p1 p2 p3 p4 p5 p6), fun j p1 => (c.2.1 j p1).trans (a.2.1 j p1), fun i j p1 p2 => (c.2.2 i j p1 p2).trans (a.2.2 i j p1 p2)⟩
theorem fw_fn {k : Nat} {h h1 : AH} (a : fn2 h h1) : fw k h h1 := ⟨fun i p1 _ _ _ _ _ => a.1 i p1, a.2, fun i j _ p2 => by rw [a.1 i (by omega)]⟩
theorem fw_up {i k : Nat} {v : Int32} {h : AH} (hi : i = 46 ∨ i = 47 ∨ i = 48 ∨ i = 49 ∨ i = 50) : fw k h (up h i k v) := ⟨fun a _ _ _ _ _ _ => up_ne _ _ _ _ (by omega), fun j _ => by rw [up_ne _ _ _ _ (by omega)], fun a j p1 _ => up_k p1⟩
theorem fn2_k {h h1 : AH} (a : fn2 h h1) {i j : Nat} (hi : i ≠ 44) : h1 i j = h i j := by rw [a.1 i hi]
theorem pask_r (hb : BY l t) (hp : p ≤ l) (hk : k < 61) (hT : TC l t p h) (kd : Nat) (kk : ∀ h', fw k h h' → h' 46 k = h 46 k → h' 47 k = h 47 k → TC l t (akS t kd p).2.2 h' → ((akS t kd p).1 = true → h' 48 k = nI (akS t kd p).2.1.2.1 ∧ h' 49 k = nI (akS t kd p).2.1.2.2.1 ∧ h' 50 k = wI (akS t kd p).2.1.2.2.2) → K (bn (akS t kd p).1) h') : P_X6_parseAsk F (nI k) h K := by
  have l1 := hb.1
  have tl := hb.2.1
  have vk : vp_in (nI k) 61 := vp_in_nI hk (by omega)
  have ck : (nI k).toNatClampNeg = k := ncl (by omega)
  unfold P_X6_parseAsk
  refine peek_r hb hp hT (modeC_r (tl p) ⟨vk, ⟨vk, ?_⟩⟩)
  rw [ck]
  have hT1 : TC l t p (up h 48 k (nI (md (t p)))) := TC_up hT (by omega)
  have u1 : ∀ v, up h 48 k v 48 k = v := fun v => by rw [upr, if_pos ⟨rfl, rfl⟩]
  have ml : md (t p) < 6 := by
    by_cases e : md (t p) = 0
    · omega
    · have := (md_v e).2; omega
  rw [u1]
  unfold akS at kk
  by_cases e1 : md (t p) = 0
  · rw [if_pos e1] at kk
    refine ifn (fun z => z (by rw [e1])) ?_
    refine kk _ (fw_up (by omega)) ?_ ?_ hT1 (fun z => by cases z)
    · rw [up_ne _ _ _ _ (by omega)]
    · rw [up_ne _ _ _ _ (by omega)]
  · rw [if_neg e1] at kk
    have a1 : p < l := BY_p hb (by intro z; exact e1 (by rw [z]; rfl))
    refine ifp (by rw [neq (by omega) (by omega)]; exact e1) ?_
    have hT2 := TC_nx hT1
    revert kk hT2
    generalize hh2 : up (up h 48 k (nI (md (t p)))) 44 2 (up h 48 k (nI (md (t p))) 44 2 + nI 1) = h2
    intro kk hT2
    have g2 : fw k h h2 := by rw [← hh2]; exact fw_tr (fw_up (by omega)) (fw_fn fn2_up)
    have i2 : h2 46 k = h 46 k ∧ h2 47 k = h 47 k ∧ h2 48 k = nI (md (t p)) := by
      rw [← hh2]
      refine ⟨?_, ?_, ?_⟩
      · rw [up_ne _ _ _ _ (by omega), up_ne _ _ _ _ (by omega)]
      · rw [up_ne _ _ _ _ (by omega), up_ne _ _ _ _ (by omega)]
      · rw [up_ne _ _ _ _ (by omega), u1]
    refine peek_r hb (by omega) hT2 (figC_r (tl _) ?_)
    cases e2 : fig (t (p + 1)) with
    | false =>
      rw [e2] at kk
      simp only [Bool.false_eq_true, if_false] at kk
      refine ifn (fun z => z rfl) ?_
      exact kk h2 g2 i2.1 i2.2.1 hT2 (fun z => by cases z)
    | true =>
      rw [e2, if_pos rfl] at kk
      have b1 := BY_f hb e2
      have b2 := fig_b e2
      refine ifp (by decide) (peek_r hb (by omega) hT2 ⟨vk, ?_⟩)
      rw [nsub (by omega)]
      have hT3 := TC_nx (TC_up (i := 49) (j := k) (v := nI (t (p + 1) - 48)) hT2 (by omega))
      revert kk hT3
      show _ → _ → P_X6_peek F (up (up h2 49 k (nI (t (p + 1) - 48))) 44 2 (up h2 49 k (nI (t (p + 1) - 48)) 44 2 + nI 1)) _
      generalize hh3 : up (up h2 49 k (nI (t (p + 1) - 48))) 44 2 (up h2 49 k (nI (t (p + 1) - 48)) 44 2 + nI 1) = h3
      intro kk hT3
      have g3 : fw k h h3 := by rw [← hh3]; exact fw_tr g2 (fw_tr (fw_up (by omega)) (fw_fn fn2_up))
      have i3 : h3 46 k = h 46 k ∧ h3 47 k = h 47 k ∧ h3 48 k = nI (md (t p)) ∧ h3 49 k = nI (t (p + 1) - 48) := by
        rw [← hh3]
        refine ⟨?_, ?_, ?_, ?_⟩
        · rw [up_ne _ _ _ _ (by omega), up_ne _ _ _ _ (by omega)]; exact i2.1
        · rw [up_ne _ _ _ _ (by omega), up_ne _ _ _ _ (by omega)]; exact i2.2.1
        · rw [up_ne _ _ _ _ (by omega), up_ne _ _ _ _ (by omega)]; exact i2.2.2
        · rw [up_ne _ _ _ _ (by omega), upr, if_pos ⟨rfl, rfl⟩]
      refine peek_r hb (by omega) hT3 ?_
      by_cases e3 : t (p + 2) = 32
      · rw [if_pos e3] at kk
        have c1 := BY_p (p := p + 2) hb (by omega)
        refine ifp (by show nI (t (p + 2)) = nI 32; rw [e3]) ?_
        refine pnum_r hb (by omega) (TC_nx hT3) (fun h4 q1 q2 => ⟨vk, vk, ?_⟩)
        have u4 : up h4 50 k (wI (nmS t (p + 2 + 1)).1) 50 k = wI (nmS t (p + 3)).1 := by rw [upr, if_pos ⟨rfl, rfl⟩]
        rw [u4]
        have d := nmS_b (p := p + 3) hb (by omega)
        have j : ∀ i v, i ≠ 44 → i ≠ 50 → up h4 50 k v i k = h3 i k := fun i v hi1 hi2 => by rw [up_ne _ _ _ _ hi2, q1.1 i hi1, up_ne _ _ _ _ hi1]
        have fin : K (bn (decide (0 < (nmS t (p + 3)).1))) (up h4 50 k (wI (nmS t (p + 2 + 1)).1)) := by
          refine kk _ (fw_tr g3 (fw_tr (fw_fn (fn2_tr fn2_up q1)) (fw_up (by omega)))) ?_ ?_ (TC_up q2 (by omega)) (fun _ => ⟨?_, ?_, u4⟩)
          · rw [j 46 _ (by omega) (by omega)]; exact i3.1
          · rw [j 47 _ (by omega) (by omega)]; exact i3.2.1
          · rw [j 48 _ (by omega) (by omega)]; exact i3.2.2.1
          · rw [j 49 _ (by omega) (by omega)]; exact i3.2.2.2
        cases e4 : (nmS t (p + 3)).1 with
        | zero =>
          rw [e4] at fin
          refine ifp (by rw [wI_0]; decide) ?_
          exact fin
        | succ c =>
          rw [e4] at fin
          refine ifn (by rw [wI_s, nlt (by omega) (by omega)]; omega) ?_
          rw [decide_eq_true (by omega)] at fin
          exact fin
      · rw [if_neg e3] at kk
        have := tl (p + 2)
        refine ifn (by show ¬ nI (t (p + 2)) = nI 32; rw [neq (by omega) (by omega)]; exact e3) ?_
        exact kk h3 g3 i3.1 i3.2.1 hT3 (fun z => by cases z)
def SRk (k p : Nat) (s : ST4) (h : AH) : Prop := h 46 k = nI p ∧ h 47 k = nI s.1 ∧ (s.1 < 2 → h 48 k = nI s.2.1 ∧ h 49 k = nI s.2.2.1) ∧ h 50 k = wI s.2.2.2
theorem stm_r (hb : BY l t) (hp : p ≤ l) (hk : k < 61) (hT : TC l t p h) (kk : ∀ h', fw k h h' → TC l t (stS t p).2.2 h' → ((stS t p).1 = true → SRk k p (stS t p).2.1 h') → K (bn (stS t p).1) h') : P_X6_parseStatement F (nI k) h K := by
  have l1 := hb.1
  have tl := hb.2.1
  have tp := tl p
  have vk : vp_in (nI k) 61 := vp_in_nI hk (by omega)
  have ck : (nI k).toNatClampNeg = k := ncl (by omega)
  unfold P_X6_parseStatement
  refine ⟨vk, ?_⟩
  rw [ck, hT.2.1]
  have hT1 : TC l t p (up h 46 k (nI p)) := TC_up hT (by omega)
  refine peek_r hb hp hT1 ?_
  have g1 : fw k h (up h 46 k (nI p)) := fw_up (by omega)
  have u1 : up h 46 k (nI p) 46 k = nI p := by rw [upr, if_pos ⟨rfl, rfl⟩]
  revert hT1 g1 u1
  generalize up h 46 k (nI p) = h1
  intro hT1 g1 u1
  have c43 : ∀ v, p < l → (∀ h', fw k h h' → TC l t (nmS t (p + 1)).2 h' → h' 46 k = nI p → h' 47 k = v → h' 50 k = wI (nmS t (p + 1)).1 → K (nI 1) h') → X6_parseStatement_c43 F K (nI k) (nI k) v h1 := fun v hl kk => by
    unfold X6_parseStatement_c43
    refine ⟨vk, ?_⟩
    rw [ck]
    have hT2 : TC l t p (up h1 47 k v) := TC_up hT1 (by omega)
    refine pnum_r hb (by omega) (TC_nx hT2) (fun h4 q1 q2 => ⟨vk, ?_⟩)
    refine kk _ (fw_tr g1 (fw_tr (fw_up (by omega)) (fw_tr (fw_fn (fn2_tr fn2_up q1)) (fw_up (by omega))))) (TC_up q2 (by omega)) ?_ ?_ ?_
    · rw [up_ne _ _ _ _ (by omega), q1.1 46 (by omega), up_ne _ _ _ _ (by omega), up_ne _ _ _ _ (by omega)]; exact u1
    · rw [up_ne _ _ _ _ (by omega), q1.1 47 (by omega), up_ne _ _ _ _ (by omega), upr, if_pos ⟨rfl, rfl⟩]
    · rw [upr, if_pos ⟨rfl, rfl⟩]
  have c99 : ∀ (kd q : Nat) (h2 : AH), q ≤ l → TC l t q h2 → fw k h h2 → h2 46 k = nI p → h2 47 k = nI kd → (akS t kd q = stS t p) → X6_parseStatement_c99 F K (nI k) h2 := fun kd q h2 hq hT2 g2 x1 x2 he => by
    unfold X6_parseStatement_c99
    refine pask_r hb hq hk hT2 kd (fun h3 q1 q2 q3 q4 q5 => ⟨?_, ?_⟩)
    · cases (akS t kd q).1
      · exact Or.inl rfl
      · exact Or.inr rfl
    · have kdq := (akS_b (kd := kd) hb hq).2.2.2
      rw [he] at q4 q5 kdq ⊢
      refine kk h3 (fw_tr g2 q1) q4 (fun z => ⟨by rw [q2]; exact x1, by rw [q3, x2, kdq], fun _ => ⟨(q5 z).1, (q5 z).2.1⟩, (q5 z).2.2⟩)
  by_cases e1 : t p = 43
  · have hs : stS t p = (true, (2, 0, 0, (nmS t (p + 1)).1), (nmS t (p + 1)).2) := by unfold stS; rw [if_pos e1]
    rw [hs] at kk
    refine ifp (by rw [e1]) ?_
    unfold X6_parseStatement_c27
    refine ifn (fun z => z (by rw [e1])) ?_
    refine c43 _ (BY_p hb (by omega)) (fun h' q1 q2 q3 q4 q5 => kk h' q1 q2 (fun _ => ⟨q3, q4, fun z => by simp only [] at z; omega, q5⟩))
  · refine ifn (by rw [neq (by omega) (by omega)]; exact e1) ?_
    by_cases e2 : t p = 45
    · have hs : stS t p = (true, (3, 0, 0, (nmS t (p + 1)).1), (nmS t (p + 1)).2) := by unfold stS; rw [if_neg e1, if_pos e2]
      rw [hs] at kk
      refine ifn (fun z => z (by rw [e2])) ?_
      unfold X6_parseStatement_c27
      refine ifp (by rw [neq (by omega) (by omega)]; exact e1) ?_
      refine c43 _ (BY_p hb (by omega)) (fun h' q1 q2 q3 q4 q5 => kk h' q1 q2 (fun _ => ⟨q3, q4, fun z => by simp only [] at z; omega, q5⟩))
    · refine ifp (by rw [neq (by omega) (by omega)]; exact e2) ?_
      have hT2 : ∀ v, TC l t p (up h1 47 k v) := fun v => TC_up hT1 (by omega)
      have g2 : ∀ v, fw k h (up h1 47 k v) := fun v => fw_tr g1 (fw_up (by omega))
      have y1 : ∀ v, up h1 47 k v 46 k = nI p := fun v => by rw [up_ne _ _ _ _ (by omega)]; exact u1
      have y2 : ∀ v, up h1 47 k v 47 k = v := fun v => by rw [upr, if_pos ⟨rfl, rfl⟩]
      by_cases e3 : t p = 103
      · have hs : akS t 1 (p + 1) = stS t p := by unfold stS; rw [if_neg e1, if_neg e2, if_pos e3]
        refine ifn (fun z => z (by rw [e3])) ?_
        unfold X6_parseStatement_c82
        refine ⟨vk, ?_⟩
        rw [ck]
        refine ifn (fun z => z (by rw [e3])) ?_
        have pl : p < l := BY_p hb (by omega)
        refine c99 1 (p + 1) _ (by omega) (TC_nx (hT2 _)) (fw_tr (g2 _) (fw_fn fn2_up)) ?_ ?_ hs
        · rw [up_ne _ _ _ _ (by omega)]; exact y1 _
        · rw [up_ne _ _ _ _ (by omega)]; exact y2 _
      · have hs : akS t 0 p = stS t p := by unfold stS; rw [if_neg e1, if_neg e2, if_neg e3]
        refine ifp (by rw [neq (by omega) (by omega)]; exact e3) ?_
        unfold X6_parseStatement_c82
        refine ⟨vk, ?_⟩
        rw [ck]
        refine ifp (by rw [neq (by omega) (by omega)]; exact e3) ?_
        exact c99 0 p _ hp (hT2 _) (g2 _) (y1 _) (y2 _) hs
def fy (k : Nat) (h h' : AH) : Prop := (∀ a, a ≠ 44 → a ≠ 46 → a ≠ 47 → a ≠ 48 → a ≠ 49 → a ≠ 50 → h' a = h a) ∧ (∀ j, j ≠ 2 → h' 44 j = h 44 j) ∧ ∀ a j, j < k → (a = 46 ∨ a = 47 ∨ a = 48 ∨ a = 49 ∨ a = 50) → h' a j = h a j
theorem fy_rf (k : Nat) (h : AH) : fy k h h := ⟨fun _ _ _ _ _ _ _ => rfl, fun _ _ => rfl, fun _ _ _ _ => rfl⟩
theorem fy_tr {k : Nat} {h h1 h2 : AH} (a : fy k h h1) (c : fy k h1 h2) : fy k h h2 := ⟨fun i p1 p2 p3 p4 p5 p6 => (c.1 i p1 p2 p3 p4 p5 p6).trans (a.1 i p1 p2 p3 p4 p5 p6), fun j p1 => (c.2.1 j p1).trans (a.2.1 j p1), fun i j p1 p2 => (c.2.2 i j p1 p2).trans (a.2.2 i j p1 p2)⟩
theorem fy_fw {k : Nat} {h h1 : AH} (a : fw k h h1) : fy k h h1 := ⟨a.1, a.2.1, fun i j p1 p2 => a.2.2 i j (by omega) p2⟩
theorem fy_le {k k' : Nat} {h h1 : AH} (a : fy k' h h1) (hk : k ≤ k') : fy k h h1 := ⟨a.1, a.2.1, fun i j p1 p2 => a.2.2 i j (by omega) p2⟩
theorem fy_fn {k : Nat} {h h1 : AH} (a : fn2 h h1) : fy k h h1 := fy_fw (fw_fn a)
theorem SRk_fy {k k' p : Nat} {s : ST4} {h h1 : AH} (a : SRk k p s h) (b : fy k' h h1) (hk : k < k') : SRk k p s h1 := by
  obtain ⟨a1, a2, a3, a4⟩ := a
  refine ⟨by rw [b.2.2 46 k hk (by omega)]; exact a1, by rw [b.2.2 47 k hk (by omega)]; exact a2, fun z => ?_, by rw [b.2.2 50 k hk (by omega)]; exact a4⟩
  rw [b.2.2 48 k hk (by omega), b.2.2 49 k hk (by omega)]
  exact a3 z
theorem parse_l (hb : BY l t) : ∀ (f N k p : Nat) (h : AH), p ≤ l → l + 1 ≤ p + f → f + 1 ≤ N → 2 * k ≤ p → TC l t p h → (∀ h', fy k h h' → (∀ i q, (paS t l f p).1[i]? = some q → SRk (k + i) q.1 q.2 h') → K (pav k (paS t l f p)) h') → X6_parse_c7 F K N (nI k) h := by
  have l1 := hb.1
  have tl := hb.2.1
  intro f
  induction f with
  | zero => intro N k p h h1 h2; omega
  | succ f ih =>
    intro N k p h h1 h2 h3 h4 hT kk
    obtain ⟨N, rfl⟩ : ∃ k, N = k + 1 := ⟨N - 1, by omega⟩
    have hs := stS_b hb h1
    rw [X6_parse_c7_s]
    refine ifn (by rw [nle (by omega) (by omega)]; omega) ?_
    refine stm_r hb h1 (by omega) hT (fun h5 q1 q2 q3 => ?_)
    unfold paS at kk
    cases e1 : (stS t p).1 with
    | false =>
      rw [e1] at kk
      simp only [Bool.false_eq_true, if_false] at kk
      refine ifn (fun z => z rfl) ?_
      rw [q2.2.1]
      exact kk h5 (fy_fw q1) (fun i q hq => by cases hq)
    | true =>
      rw [e1, if_pos rfl] at kk
      have s1 := (hs.2.2 e1).1
      refine ifp (by decide) ?_
      rw [q2.2.1, q2.1]
      by_cases e2 : l ≤ (stS t p).2.2
      · rw [if_pos e2] at kk
        refine ifn (by rw [nlt (by omega) (by omega)]; omega) ?_
        rw [nI_add]
        refine kk h5 (fy_fw q1) (fun i q hq => ?_)
        cases i with
        | zero =>
          simp only [List.getElem?_cons_zero, Option.some.injEq] at hq
          subst hq
          exact q3 e1
        | succ i => simp at hq
      · rw [if_neg e2] at kk
        refine ifp (by rw [nlt (by omega) (by omega)]; omega) ?_
        refine peek_r hb hs.2.1 q2 ?_
        have tq := tl (stS t p).2.2
        by_cases e3 : t (stS t p).2.2 = 59
        · rw [if_pos e3] at kk
          refine ifp (by rw [e3]) ?_
          rw [nI_add]
          refine ih N (k + 1) ((stS t p).2.2 + 1) _ (by omega) (by omega) (by omega) (by omega) (TC_nx q2) (fun h6 r1 r2 => ?_)
          have v : pav (k + 1) (paS t l f ((stS t p).2.2 + 1)) = pav k ((p, (stS t p).2.1) :: (paS t l f ((stS t p).2.2 + 1)).1, (paS t l f ((stS t p).2.2 + 1)).2) := by
            unfold pav
            simp only [List.length_cons]
            rw [show k + 1 + (paS t l f ((stS t p).2.2 + 1)).1.length = k + ((paS t l f ((stS t p).2.2 + 1)).1.length + 1) by omega]
          rw [v]
          refine kk h6 (fy_tr (fy_fw q1) (fy_tr (fy_fn fn2_up) (fy_le r1 (by omega)))) (fun i q hq => ?_)
          cases i with
          | zero =>
            simp only [List.getElem?_cons_zero, Option.some.injEq] at hq
            subst hq
            exact SRk_fy (k' := k + 1) (q3 e1) (fy_tr (fy_fn fn2_up) r1) (by omega)
          | succ i =>
            simp only [List.getElem?_cons_succ] at hq
            have := r2 i q hq
            rw [show k + 1 + i = k + (i + 1) by omega] at this
            exact this
        · rw [if_neg e3] at kk
          refine ifn (by rw [neq (by omega) (by omega)]; exact e3) ?_
          rw [q2.2.1]
          exact kk h5 (fy_fw q1) (fun i q hq => by cases hq)
theorem parse_e (hb : BY l t) (hFu : 500 ≤ F) (h1 : h 44 0 = nI l) (h2 : ∀ i, i < l → h 45 i = nI (t i)) (kk : ∀ h', fy 0 h h' → (∀ i q, (paS t l (l + 1) 0).1[i]? = some q → SRk i q.1 q.2 h') → K (pav 0 (paS t l (l + 1) 0)) h') : P_X6_parse F h K := by
  have l1 := hb.1
  unfold P_X6_parse
  refine parse_l hb (l + 1) F 0 0 _ (by omega) (by omega) (by omega) (by omega) ⟨?_, ?_, fun i hi => ?_⟩ (fun h' q1 q2 => kk h' (fy_tr (fy_fn fn2_up) q1) (fun i q hq => by have := q2 i q hq; rwa [Nat.zero_add] at this))
  · rw [upr, if_neg (by omega)]; exact h1
  · rw [upr, if_pos ⟨rfl, rfl⟩]
  · rw [up_ne _ _ _ _ (by omega)]; exact h2 i hi
end CX
