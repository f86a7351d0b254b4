/-! words: the reference -/
section CY
variable {F l p k : Nat} {t : Nat → Nat} {h : AH} {K : AH → Prop}
def TR8 (l : Nat) (t : Nat → Nat) (p : Nat) (h : AH) : Prop := h 56 16 = nI l ∧ h 56 17 = nI p ∧ ∀ i, i < l → h 64 i = nI (t i)
theorem TR8_nx (hT : TR8 l t p h) : TR8 l t (p + 1) (up h 56 17 (h 56 17 + nI 1)) := by
  obtain ⟨h1, h2, h3⟩ := hT
  exact ⟨by rw [upr, if_neg (by omega)]; exact h1, by rw [upr, if_pos ⟨rfl, rfl⟩, h2, nI_add], fun i hi => by rw [up_ne _ _ _ _ (by omega)]; exact h3 i hi⟩
theorem TR8_up {j : Nat} {v : Int32} (hT : TR8 l t p h) (hi : j ≠ 16 ∧ j ≠ 17) : TR8 l t p (up h 56 j v) := by
  obtain ⟨h1, h2, h3⟩ := hT
  exact ⟨by rw [upr, if_neg (by omega)]; exact h1, by rw [upr, if_neg (by omega)]; exact h2, fun i hi => by rw [up_ne _ _ _ _ (by omega)]; exact h3 i hi⟩
theorem here_r {K : Int32 → AH → Prop} (hb : BY l t) (hp : p ≤ l) (hT : TR8 l t p h) (kk : K (nI (t p)) h) : P_X8_here F h K := by
  obtain ⟨h1, h2, h3⟩ := hT
  have := hb.1
  unfold P_X8_here
  rw [h1, h2]
  by_cases e : p < l
  · refine ifn (by rw [nle (by omega) (by omega)]; omega) ⟨vp_in_nI (by omega) (by omega), ?_⟩
    rw [ncl (by omega), h3 p e]
    exact kk
  · refine ifp (by rw [nle (by omega) (by omega)]; omega) ?_
    rw [hb.2.2 p (by omega)] at kk
    exact kk
theorem figR_r {K : Int32 → AH → Prop} {a : Nat} (ha : a < 128) (kk : K (bn (fig a)) h) : P_X8_isFigure F (nI a) h K := by
  unfold P_X8_isFigure
  cases e : fig a with
  | true =>
    rw [e] at kk
    have := fig_b e
    rw [inA_y (a := 48) (b := 57) (by omega) ⟨a, this.1, this.2, rfl⟩]
    exact ⟨Or.inr rfl, kk⟩
  | false =>
    rw [e] at kk
    rw [inA_n (a := 48) (b := 57) (by omega) (by omega) (fun ⟨b, b1, b2, b3⟩ => by
      have e3 : a = b := by
        have := b3
        rw [neq (by omega) (by omega)] at this
        exact this
      unfold fig at e
      subst e3
      rw [decide_eq_true b1, decide_eq_true b2] at e
      cases e)]
    exact ⟨Or.inl rfl, kk⟩
def f8 (h h' : AH) : Prop := (∀ a, a ≠ 56 → h' a = h a) ∧ ∀ j, (j < 17 ∨ 22 < j) → h' 56 j = h 56 j
theorem f8_rf (h : AH) : f8 h h := ⟨fun _ _ => rfl, fun _ _ => rfl⟩
theorem f8_tr {h h1 h2 : AH} (a : f8 h h1) (c : f8 h1 h2) : f8 h h2 := ⟨fun i p1 => (c.1 i p1).trans (a.1 i p1), fun j p1 => (c.2 j p1).trans (a.2 j p1)⟩
theorem f8_up {j : Nat} {v : Int32} {h : AH} (hj : 17 ≤ j ∧ j ≤ 22) : f8 h (up h 56 j v) := ⟨fun a p1 => up_ne _ _ _ _ p1, fun i p1 => up_k (by omega)⟩
def fnu (h h' : AH) : Prop := (∀ a, a ≠ 56 → h' a = h a) ∧ ∀ j, j ≠ 17 → j ≠ 22 → h' 56 j = h 56 j
theorem fnu_rf (h : AH) : fnu h h := ⟨fun _ _ => rfl, fun _ _ _ => rfl⟩
theorem fnu_tr {h h1 h2 : AH} (a : fnu h h1) (c : fnu h1 h2) : fnu h h2 := ⟨fun i p1 => (c.1 i p1).trans (a.1 i p1), fun j p1 p2 => (c.2 j p1 p2).trans (a.2 j p1 p2)⟩
theorem fnu_up {j : Nat} {v : Int32} {h : AH} (hj : j = 17 ∨ j = 22) : fnu h (up h 56 j v) := ⟨fun a p1 => up_ne _ _ _ _ p1, fun i p1 p2 => up_k (by omega)⟩
theorem fnu_8 {h h1 : AH} (a : fnu h h1) : f8 h h1 := ⟨a.1, fun j p1 => a.2 j (by omega) (by omega)⟩
theorem num_st {K : AH → Prop} {N x a : Nat} {v : Int32} (hb : BY l t) (hp : p ≤ l) (hx : x < 2) (hT : TR8 l t p h) (hv : h 56 22 = v) (hva : (if nI 0 < v then v else nI 0) = nI a)
    (k0 : fig (t p) = false → K h) (k1 : fig (t p) = true → ∀ h', fnu h h' → TR8 l t (p + 1) h' → h' 56 22 = nI (10 * a + (t p - 48)) → X8_number_c7 F K N (nI (x + 1)) h') : X8_number_c7 F K (N + 1) (nI x) h := by
  have l1 := hb.1
  have tl := hb.2.1
  rw [X8_number_c7_s]
  refine ifn (by rw [nle (by omega) (by omega)]; omega) ?_
  refine here_r hb hp hT (figR_r (tl p) ?_)
  cases e1 : fig (t p) with
  | false => exact ifp rfl (k0 e1)
  | true =>
    have a1 := BY_f hb e1
    have a2 := fig_b e1
    refine ifn (by decide) ?_
    refine here_r hb hp hT ?_
    rw [hv, hva, pk_mul, nI_add, nI_add, nsub (by omega)]
    refine k1 e1 _ (fnu_tr (fnu_up (by omega)) (fnu_up (by omega))) (TR8_nx (TR8_up hT (by omega))) ?_
    rw [upr, if_neg (by omega), upr, if_pos ⟨rfl, rfl⟩]
    rw [show 10 * a + t p - 48 = 10 * a + (t p - 48) by omega]
theorem num_r (hb : BY l t) (hFu : 500 ≤ F) (hp : p ≤ l) (hT : TR8 l t p h) (kk : ∀ h', fnu h h' → TR8 l t (nmS t p).2 h' → h' 56 22 = wI (nmS t p).1 → K h') : P_X8_number F h K := by
  obtain ⟨f, rfl⟩ : ∃ f, F = f + 3 := ⟨F - 3, by omega⟩
  have l1 := hb.1
  have tl := hb.2.1
  unfold P_X8_number
  unfold nmS at kk
  have u0 : ∀ v : Int32, up h 56 22 v 56 22 = v := fun v => by rw [upr, if_pos ⟨rfl, rfl⟩]
  refine num_st (a := 0) (v := -1) hb hp (by omega) (TR8_up hT (by omega)) (u0 _) (by decide) (fun e1 => ?_) (fun e1 h1 q1 q2 q3 => ?_)
  · rw [e1] at kk
    exact kk _ (fnu_up (by omega)) (TR8_up hT (by omega)) (by rw [u0, ← wI_0]; rfl)
  · rw [e1, if_pos rfl] at kk
    have a1 := BY_f hb e1
    have a2 := fig_b e1
    have g1 : fnu h h1 := fnu_tr (fnu_up (by omega)) q1
    have hva : (if nI 0 < nI (10 * 0 + (t p - 48)) then nI (10 * 0 + (t p - 48)) else nI 0) = nI (t p - 48) := by
      rw [Nat.mul_zero, Nat.zero_add]
      by_cases e : 0 < t p - 48
      · rw [if_pos (by rw [nlt (by omega) (by omega)]; exact e)]
      · rw [if_neg (by rw [nlt (by omega) (by omega)]; exact e), show t p - 48 = 0 by omega]
    refine num_st (a := t p - 48) hb (by omega) (by omega) q2 q3 hva (fun e2 => ?_) (fun e2 h2 r1 r2 r3 => ?_)
    · rw [e2] at kk
      refine kk h1 g1 q2 ?_
      rw [q3, Nat.mul_zero, Nat.zero_add]
      exact (wI_s _).symm
    · rw [e2, if_pos rfl] at kk
      rw [X8_number_c7_s]
      refine ifp (by rw [nle (by omega) (by omega)]; omega) ?_
      refine kk h2 (fnu_tr g1 r1) r2 ?_
      rw [r3]
      exact (wI_s _).symm
def TL8 (s : ST4) (h : AH) : Prop := h 56 22 = wI s.2.2.2 ∧ (s.1 = 2 → h 56 19 = nI 43) ∧ (s.1 = 3 → h 56 19 = nI 45) ∧ (s.1 < 2 → h 56 20 = nI s.1 ∧ h 56 21 = nI s.2.2.1 ∧ ∃ v, (v = 111 ∨ v = 115 ∨ v = 117) ∧ h 56 19 = nI v ∧ s.2.1 = md v)
theorem ak80_r {kd : Nat} {h0 : AH} (hb : BY l t) (hFu : 500 ≤ F) (hp : p < l) (hkd : kd < 2) (hm : md (t p) ≠ 0) (hT : TR8 l t p h) (h18 : h 56 18 = nI 0) (h20 : h 56 20 = nI kd) (h19 : h 56 19 = nI (t p)) (hf : f8 h0 h)
    (kk : ∀ h', f8 h0 h' → TR8 l t (akS t kd p).2.2 h' → h' 56 18 = bn (!(akS t kd p).1) → ((akS t kd p).1 = true → TL8 (akS t kd p).2.1 h') → K h') : X8_asking_c80 F K h := by
  have l1 := hb.1
  have tl := hb.2.1
  unfold X8_asking_c80
  unfold akS at kk
  rw [if_neg hm] at kk
  have hT2 := TR8_nx hT
  have g2 : f8 h0 (up h 56 17 (h 56 17 + nI 1)) := f8_tr hf (f8_up (by omega))
  have i2 : ∀ j, j ≠ 17 → up h 56 17 (h 56 17 + nI 1) 56 j = h 56 j := fun j hj => up_k hj
  revert hT2 g2 i2
  show _ → _ → _ → P_X8_here F (up h 56 17 (h 56 17 + nI 1)) _
  generalize up h 56 17 (h 56 17 + nI 1) = h2
  intro hT2 g2 i2
  refine here_r hb (by omega) hT2 (figR_r (tl _) ?_)
  cases e2 : fig (t (p + 1)) with
  | false =>
    rw [e2] at kk
    refine ifn (fun z => z rfl) ?_
    refine kk _ (f8_tr g2 (f8_up (by omega))) (TR8_up hT2 (by omega)) ?_ (fun z => by cases z)
    rw [upr, if_pos ⟨rfl, rfl⟩]; rfl
  | true =>
    rw [e2, if_pos rfl] at kk
    have b1 := BY_f hb e2
    have b2 := fig_b e2
    refine ifp (by decide) (here_r hb (by omega) hT2 ?_)
    rw [nsub (by omega)]
    have hT3 := TR8_nx (TR8_up (j := 21) (v := nI (t (p + 1) - 48)) hT2 (by omega))
    have g3 : f8 h0 (up (up h2 56 21 (nI (t (p + 1) - 48))) 56 17 (up h2 56 21 (nI (t (p + 1) - 48)) 56 17 + nI 1)) := f8_tr g2 (f8_tr (f8_up (by omega)) (f8_up (by omega)))
    have i3 : ∀ j, j ≠ 17 → j ≠ 21 → up (up h2 56 21 (nI (t (p + 1) - 48))) 56 17 (up h2 56 21 (nI (t (p + 1) - 48)) 56 17 + nI 1) 56 j = h 56 j := fun j hj hj2 => by rw [up_k hj, up_k hj2, i2 j hj]
    have i4 : up (up h2 56 21 (nI (t (p + 1) - 48))) 56 17 (up h2 56 21 (nI (t (p + 1) - 48)) 56 17 + nI 1) 56 21 = nI (t (p + 1) - 48) := by rw [up_k (by omega), upr, if_pos ⟨rfl, rfl⟩]
    revert hT3 g3 i3 i4
    show _ → _ → _ → _ → P_X8_here F (up (up h2 56 21 (nI (t (p + 1) - 48))) 56 17 (up h2 56 21 (nI (t (p + 1) - 48)) 56 17 + nI 1)) _
    generalize up (up h2 56 21 (nI (t (p + 1) - 48))) 56 17 (up h2 56 21 (nI (t (p + 1) - 48)) 56 17 + nI 1) = h3
    intro hT3 g3 i3 i4
    refine here_r hb (by omega) hT3 ?_
    have tq := tl (p + 2)
    by_cases e3 : t (p + 2) = 32
    · rw [if_pos e3] at kk
      have c1 := BY_p (p := p + 2) hb (by omega)
      refine ifp (by show nI (t (p + 2)) = nI 32; rw [e3]) ?_
      refine num_r hb hFu (by omega) (TR8_nx hT3) (fun h4 q1 q2 q3 => ?_)
      have d := nmS_b (p := p + 3) hb (by omega)
      have q3' : h4 56 22 = wI (nmS t (p + 3)).1 := q3
      have g4 : f8 h0 h4 := f8_tr g3 (f8_tr (f8_up (by omega)) (fnu_8 q1))
      have i5 : ∀ j, j ≠ 17 → j ≠ 22 → h4 56 j = h3 56 j := fun j hj hj2 => by rw [q1.2 j hj hj2, up_k hj]
      rw [q3']
      cases e4 : (nmS t (p + 3)).1 with
      | zero =>
        rw [e4] at kk
        refine ifn (fun z => z wI_0) ?_
        unfold X8_asking_c170
        refine ⟨Or.inr rfl, ?_⟩
        refine kk _ (f8_tr g4 (f8_up (by omega))) (TR8_up q2 (by omega)) ?_ (fun z => by cases z)
        rw [upr, if_pos ⟨rfl, rfl⟩]; rfl
      | succ c =>
        have kk2 := kk
        rw [e4] at kk2 q3'
        refine ifp (by rw [wI_s, nneg (by omega)]; exact fun z => z) ?_
        unfold X8_asking_c170
        refine ⟨Or.inl rfl, ?_⟩
        have e5 : decide (0 < c + 1) = true := decide_eq_true (by omega)
        rw [e5] at kk2
        refine kk2 _ (f8_tr g4 (f8_up (by omega))) (TR8_up q2 (by omega)) ?_ (fun _ => ⟨?_, fun z => by simp only [] at z; omega, fun z => by simp only [] at z; omega, fun _ => ⟨?_, ?_, t p, ?_, ?_, rfl⟩⟩)
        · rw [upr, if_pos ⟨rfl, rfl⟩]; rfl
        · rw [up_k (by omega)]; exact q3'
        · rw [up_k (by omega), i5 20 (by omega) (by omega), i3 20 (by omega) (by omega)]; exact h20
        · rw [up_k (by omega), i5 21 (by omega) (by omega)]; exact i4
        · exact (md_v hm).1
        · rw [up_k (by omega), i5 19 (by omega) (by omega), i3 19 (by omega) (by omega)]; exact h19
    · rw [if_neg e3] at kk
      refine ifn (by show ¬ nI (t (p + 2)) = nI 32; rw [neq (by omega) (by omega)]; exact e3) ?_
      refine kk _ (f8_tr g3 (f8_up (by omega))) (TR8_up hT3 (by omega)) ?_ (fun z => by cases z)
      rw [upr, if_pos ⟨rfl, rfl⟩]; rfl
theorem ak35_r {kd a b : Nat} {h0 : AH} (hb : BY l t) (hFu : 500 ≤ F) (hp : p ≤ l) (hkd : kd < 2) (hab : a + b = p) (hT : TR8 l t p (up h 56 17 (nI p))) (h18 : h 56 18 = nI 0) (h20 : h 56 20 = nI kd) (hf : f8 h0 h)
    (kk : ∀ h', f8 h0 h' → TR8 l t (akS t kd p).2.2 h' → h' 56 18 = bn (!(akS t kd p).1) → ((akS t kd p).1 = true → TL8 (akS t kd p).2.1 h') → K h') : X8_asking_c35 F K (nI a) (nI b) h := by
  have l1 := hb.1
  have tl := hb.2.1
  have tp := tl p
  unfold X8_asking_c35
  rw [nI_add, hab]
  refine here_r hb hp hT ?_
  have hT2 := TR8_up (j := 19) (v := nI (t p)) hT (by omega)
  have g2 : f8 h0 (up (up h 56 17 (nI p)) 56 19 (nI (t p))) := f8_tr hf (f8_tr (f8_up (by omega)) (f8_up (by omega)))
  have i2 : ∀ j, j ≠ 17 → j ≠ 19 → up (up h 56 17 (nI p)) 56 19 (nI (t p)) 56 j = h 56 j := fun j hj hj2 => by rw [up_k hj2, up_k hj]
  have i3 : up (up h 56 17 (nI p)) 56 19 (nI (t p)) 56 19 = nI (t p) := by rw [upr, if_pos ⟨rfl, rfl⟩]
  revert hT2 g2 i2 i3
  show _ → _ → _ → _ → (if up (up h 56 17 (nI p)) 56 19 (nI (t p)) 56 19 = nI 115 then X8_asking_c80 F K (up (up h 56 17 (nI p)) 56 19 (nI (t p))) else if up (up h 56 17 (nI p)) 56 19 (nI (t p)) 56 19 = nI 117 then X8_asking_c80 F K (up (up h 56 17 (nI p)) 56 19 (nI (t p))) else if up (up h 56 17 (nI p)) 56 19 (nI (t p)) 56 19 = nI 111 then X8_asking_c80 F K (up (up h 56 17 (nI p)) 56 19 (nI (t p))) else K (up (up (up h 56 17 (nI p)) 56 19 (nI (t p))) 56 18 (nI 1)))
  generalize up (up h 56 17 (nI p)) 56 19 (nI (t p)) = h2
  intro hT2 g2 i2 i3
  rw [i3]
  have q115 := neq (a := t p) (b := 115) (by omega) (by omega)
  have q117 := neq (a := t p) (b := 117) (by omega) (by omega)
  have q111 := neq (a := t p) (b := 111) (by omega) (by omega)
  by_cases e : md (t p) = 0
  · have n1 : ¬ t p = 115 := fun z => by rw [z] at e; exact absurd e (by decide)
    have n2 : ¬ t p = 117 := fun z => by rw [z] at e; exact absurd e (by decide)
    have n3 : ¬ t p = 111 := fun z => by rw [z] at e; exact absurd e (by decide)
    refine ifn (by rw [q115]; exact n1) (ifn (by rw [q117]; exact n2) (ifn (by rw [q111]; exact n3) ?_))
    unfold akS at kk
    rw [if_pos e] at kk
    refine kk _ (f8_tr g2 (f8_up (by omega))) (TR8_up hT2 (by omega)) ?_ (fun z => by cases z)
    rw [upr, if_pos ⟨rfl, rfl⟩]; rfl
  · have a1 : p < l := BY_p hb (by intro z; exact e (by rw [z]; rfl))
    have core : X8_asking_c80 F K h2 := ak80_r hb hFu a1 hkd e hT2 (by rw [i2 18 (by omega) (by omega)]; exact h18) (by rw [i2 20 (by omega) (by omega)]; exact h20) i3 g2 kk
    rcases (md_v e).1 with z | z | z
    · exact ifn (by rw [q115]; omega) (ifn (by rw [q117]; omega) (ifp (by rw [z]) core))
    · exact ifp (by rw [z]) core
    · exact ifn (by rw [q115]; omega) (ifp (by rw [z]) core)
theorem stm8_r (hb : BY l t) (hFu : 500 ≤ F) (hp : p ≤ l) (hT : TR8 l t p h) (h18 : h 56 18 = nI 0)
    (kk : ∀ h', f8 h h' → TR8 l t (stS t p).2.2 h' → h' 56 18 = bn (!(stS t p).1) → ((stS t p).1 = true → TL8 (stS t p).2.1 h') → K h') : P_X8_statement F h K := by
  have l1 := hb.1
  have tl := hb.2.1
  have tp := tl p
  unfold P_X8_statement
  refine here_r hb hp hT ?_
  have hT2 := TR8_up (j := 19) (v := nI (t p)) hT (by omega)
  have g2 : f8 h (up h 56 19 (nI (t p))) := f8_up (by omega)
  have i2 : ∀ j, j ≠ 19 → up h 56 19 (nI (t p)) 56 j = h 56 j := fun j hj => up_k hj
  have i3 : up h 56 19 (nI (t p)) 56 19 = nI (t p) := by rw [upr, if_pos ⟨rfl, rfl⟩]
  revert hT2 g2 i2 i3
  show _ → _ → _ → _ → (if up h 56 19 (nI (t p)) 56 19 = nI 43 then X8_statement_c31 F K (up h 56 19 (nI (t p))) else if up h 56 19 (nI (t p)) 56 19 = nI 45 then X8_statement_c31 F K (up h 56 19 (nI (t p))) else P_X8_asking F (up h 56 19 (nI (t p))) (fun h4 => K h4))
  generalize up h 56 19 (nI (t p)) = h2
  intro hT2 g2 i2 i3
  rw [i3]
  have q43 := neq (a := t p) (b := 43) (by omega) (by omega)
  have q45 := neq (a := t p) (b := 45) (by omega) (by omega)
  have c31 : p < l → (∀ h', f8 h h' → TR8 l t (nmS t (p + 1)).2 h' → h' 56 18 = nI 0 → h' 56 19 = nI (t p) → h' 56 22 = wI (nmS t (p + 1)).1 → K h') → X8_statement_c31 F K h2 := fun hl kk => by
    unfold X8_statement_c31
    refine num_r hb hFu (by omega) (TR8_nx hT2) (fun h4 q1 q2 q3 => ?_)
    refine kk h4 (f8_tr g2 (f8_tr (f8_up (by omega)) (fnu_8 q1))) q2 ?_ ?_ q3
    · rw [q1.2 18 (by omega) (by omega), up_k (by omega), i2 18 (by omega)]; exact h18
    · rw [q1.2 19 (by omega) (by omega), up_k (by omega)]; exact i3
  unfold stS at kk
  by_cases e1 : t p = 43
  · rw [if_pos e1] at kk
    refine ifp (by rw [e1]) ?_
    refine c31 (BY_p hb (by omega)) (fun h' q1 q2 q3 q4 q5 => kk h' q1 q2 (by rw [q3]; rfl) (fun _ => ⟨q5, fun _ => by rw [q4, e1], fun z => by simp only [] at z; omega, fun z => by simp only [] at z; omega⟩))
  · rw [if_neg e1] at kk
    refine ifn (by rw [q43]; exact e1) ?_
    by_cases e2 : t p = 45
    · rw [if_pos e2] at kk
      refine ifp (by rw [e2]) ?_
      refine c31 (BY_p hb (by omega)) (fun h' q1 q2 q3 q4 q5 => kk h' q1 q2 (by rw [q3]; rfl) (fun _ => ⟨q5, fun z => by simp only [] at z; omega, fun _ => by rw [q4, e2], fun z => by simp only [] at z; omega⟩))
    · rw [if_neg e2] at kk
      refine ifn (by rw [q45]; exact e2) ?_
      unfold P_X8_asking
      refine here_r hb hp hT2 ?_
      have c15 : ∀ kd q : Nat, kd < 2 → p + kd = q → q ≤ l → (∀ h', f8 h h' → TR8 l t (akS t kd q).2.2 h' → h' 56 18 = bn (!(akS t kd q).1) → ((akS t kd q).1 = true → TL8 (akS t kd q).2.1 h') → K h') → X8_asking_c15 F K (nI kd) h2 := fun kd q hkd hq hql kk => by
        have w1 : up h2 56 20 (nI kd) 56 20 = nI kd := by rw [upr, if_pos ⟨rfl, rfl⟩]
        have w2 : up h2 56 20 (nI kd) 56 17 = nI p := by rw [up_k (by omega)]; exact hT2.2.1
        have fin : X8_asking_c35 F K (nI p) (nI kd) (up h2 56 20 (nI kd)) := by
          refine ak35_r (h0 := h) hb hFu hql hkd hq ⟨?_, ?_, fun i hi => ?_⟩ ?_ w1 (f8_tr g2 (f8_up (by omega))) kk
          · rw [up_k (by omega), up_k (by omega)]; exact hT2.1
          · rw [upr, if_pos ⟨rfl, rfl⟩]
          · rw [up_ne _ _ _ _ (by omega), up_ne _ _ _ _ (by omega)]; exact hT2.2.2 i hi
          · rw [up_k (by omega), i2 18 (by omega)]; exact h18
        unfold X8_asking_c15
        have : kd = 0 ∨ kd = 1 := by omega
        rcases this with e | e
        · subst e
          refine ⟨Or.inl rfl, ?_⟩
          refine ifp w1 ?_
          rw [w2]; exact fin
        · subst e
          refine ⟨Or.inr rfl, ?_⟩
          refine ifn (by rw [w1]; decide) ?_
          rw [w2]; exact fin
      by_cases e3 : t p = 103
      · rw [if_pos e3] at kk
        refine ifn (fun z => z (by rw [e3])) ?_
        exact c15 1 (p + 1) (by omega) rfl (by have := BY_p (p := p) hb (by omega); omega) kk
      · rw [if_neg e3] at kk
        refine ifp (by rw [neq (by omega) (by omega)]; exact e3) ?_
        exact c15 0 p (by omega) rfl hp kk
theorem thr0_l {K : Int32 → AH → Prop} (hb : BY l t) (hFu : 500 ≤ F) : ∀ (f N k p : Nat) (h : AH), p ≤ l → l + 1 ≤ p + f → f + 1 ≤ N → TR8 l t p h → (∀ h', f8 h h' → K (pav k (paS t l f p)) h') → X8_goesThrough_c7 F K N (nI 0) (nI k) h := by
  have l1 := hb.1
  have tl := hb.2.1
  intro f
  induction f with
  | zero => intro N k p h h1 h2; omega
  | succ f ih =>
    intro N k p h h1 h2 h3 hT kk
    obtain ⟨N, rfl⟩ : ∃ k, N = k + 1 := ⟨N - 1, by omega⟩
    have hs := stS_b hb h1
    rw [X8_goesThrough_c7_s]
    refine stm8_r hb hFu h1 (TR8_up (j := 18) (v := nI 0) hT (by omega)) (by rw [upr, if_pos ⟨rfl, rfl⟩]) (fun h5 q1 q2 q3 q4 => ?_)
    have g5 : f8 h h5 := f8_tr (f8_up (by omega)) q1
    unfold paS at kk
    cases e1 : (stS t p).1 with
    | false =>
      rw [e1] at kk q3
      simp only [Bool.false_eq_true, if_false] at kk
      refine ifn (by rw [q3]; decide) ?_
      rw [q2.2.1]
      exact kk h5 g5
    | true =>
      rw [e1, if_pos rfl] at kk
      rw [e1] at q3
      have s1 := (hs.2.2 e1).1
      refine ifp (by rw [q3]; rfl) (ifp rfl ?_)
      unfold X8_goesThrough_c54
      rw [q2.2.1, q2.1]
      by_cases e2 : l ≤ (stS t p).2.2
      · rw [if_pos e2] at kk
        refine ifn (fun z => z (by rw [show (stS t p).2.2 = l by omega])) ?_
        rw [nI_add]
        exact kk h5 g5
      · rw [if_neg e2] at kk
        refine ifp (by rw [neq (by omega) (by omega)]; omega) ?_
        refine here_r hb hs.2.1 q2 ?_
        have tq := tl (stS t p).2.2
        by_cases e3 : t (stS t p).2.2 = 59
        · rw [if_pos e3] at kk
          refine ifp (by rw [e3]) ?_
          rw [nI_add]
          refine ih N (k + 1) ((stS t p).2.2 + 1) _ (by omega) (by omega) (by omega) (TR8_nx q2) (fun h6 r1 => ?_)
          have v : pav (k + 1) (paS t l f ((stS t p).2.2 + 1)) = pav k ((p, (stS t p).2.1) :: (paS t l f ((stS t p).2.2 + 1)).1, (paS t l f ((stS t p).2.2 + 1)).2) := by
            unfold pav
            simp only [List.length_cons]
            rw [show k + 1 + (paS t l f ((stS t p).2.2 + 1)).1.length = k + ((paS t l f ((stS t p).2.2 + 1)).1.length + 1) by omega]
          rw [v]
          exact kk h6 (f8_tr g5 (f8_tr (f8_up (by omega)) r1))
        · rw [if_neg e3] at kk
          refine ifn (by rw [neq (by omega) (by omega)]; exact e3) ?_
          rw [q2.2.1]
          exact kk h5 g5
end CY
