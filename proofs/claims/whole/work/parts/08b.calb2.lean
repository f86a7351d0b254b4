/-! holds spelled -/
def dg (v : Nat) : List Nat :=
  if v < 10 then [48 + v / 1 % 10]
  else if v < 100 then [48 + v / 10 % 10, 48 + v / 1 % 10]
  else if v < 1000 then [48 + v / 100 % 10, 48 + v / 10 % 10, 48 + v / 1 % 10]
  else [48 + v / 1000 % 10, 48 + v / 100 % 10, 48 + v / 10 % 10, 48 + v / 1 % 10]
theorem dg_len (v : Nat) : (dg v).length ≤ 4 := by
  unfold dg
  split
  · simp
  · split
    · simp
    · split <;> simp
theorem dg_len2 {v : Nat} (h : v < 100) : (dg v).length ≤ 2 := by
  unfold dg
  split
  · simp
  · simp
theorem dg_1 {v : Nat} (h : v < 10) : dg v = [48 + v] := by
  unfold dg
  rw [if_pos h, show v / 1 % 10 = v by omega]
theorem dg_s {v : Nat} (h1 : 10 ≤ v) (h2 : v < 10000) : dg v = dg (v / 10) ++ [48 + v % 10] := by
  have e1 : v / 10 / 1 % 10 = v / 10 % 10 := by omega
  have e2 : v / 10 / 10 % 10 = v / 100 % 10 := by omega
  have e3 : v / 10 / 100 % 10 = v / 1000 % 10 := by omega
  have e4 : v / 1 % 10 = v % 10 := by omega
  unfold dg
  rw [e1, e2, e3, e4, if_neg (show ¬ v < 10 by omega)]
  by_cases h3 : v < 100
  · rw [if_pos h3, if_pos (show v / 10 < 10 by omega)]; rfl
  · rw [if_neg h3, if_neg (show ¬ v / 10 < 10 by omega)]
    by_cases h4 : v < 1000
    · rw [if_pos h4, if_pos (show v / 10 < 100 by omega)]; rfl
    · rw [if_neg h4, if_neg (show ¬ v / 10 < 100 by omega), if_pos (show v / 10 < 1000 by omega)]; rfl
def lt5 (m : Nat) : Nat := if m = 1 then 108 else if m = 2 then 115 else if m = 3 then 109 else if m = 4 then 117 else 111
theorem lt5_b (m : Nat) : lt5 m < 128 := by
  unfold lt5
  split
  · omega
  · split
    · omega
    · split
      · omega
      · split <;> omega
def hbS (t o m c : Nat) : List Nat := if c = 0 then [] else dg t ++ ([58] ++ ([48 + o] ++ ([lt5 m] ++ ((if c ≤ 1 then [] else [120] ++ dg c) ++ [32]))))
theorem hbS_len {t o m c : Nat} (ht : t < 100) : (hbS t o m c).length ≤ 11 := by
  unfold hbS
  have h1 := dg_len2 ht
  have h2 := dg_len c
  split
  · simp
  · split
    · simp; omega
    · simp; omega
def spM (C : CT) (t o : Nat) : Nat → Nat → List Nat
  | 0, _ => []
  | d + 1, m => hbS t o m (C t o m) ++ spM C t o d (m + 1)
def spO (C : CT) (t : Nat) : Nat → Nat → List Nat
  | 0, _ => []
  | d + 1, o => spM C t o 5 1 ++ spO C t d (o + 1)
def spT (C : CT) : Nat → Nat → List Nat
  | 0, _ => []
  | d + 1, t => spO C t 6 0 ++ spT C d (t + 1)
theorem app1 {bs : List Nat} {b i b' : Nat} (h : (bs ++ [b])[i]? = some b') : (i < bs.length ∧ bs[i]? = some b') ∨ (i = bs.length ∧ b' = b) := by
  by_cases e : i < bs.length
  · rw [List.getElem?_append_left e] at h
    exact Or.inl ⟨e, h⟩
  · rw [List.getElem?_append_right (by omega)] at h
    have l := (List.getElem?_eq_some_iff.mp h).1
    simp only [List.length_singleton] at l
    have e2 : i = bs.length := by omega
    subst e2
    rw [Nat.sub_self] at h
    simp only [List.getElem?_cons_zero, Option.some.injEq] at h
    exact Or.inr ⟨rfl, h.symm⟩
section CB2
variable {F : Nat} {h : AH} {K : AH → Prop} {bs : List Nat}
/-- the class -/
def PBc (bs : List Nat) (h : AH) : Prop := h 51 0 = nI bs.length ∧ ∀ i b, bs[i]? = some b → h 52 i = nI b
def fs (h h' : AH) : Prop := ∀ a, a ≠ 51 → a ≠ 52 → h' a = h a
theorem fs_rf (h : AH) : fs h h := fun _ _ _ => rfl
theorem fs_tr {h h1 h2 : AH} (a : fs h h1) (c : fs h1 h2) : fs h h2 := fun i p1 p2 => (c i p1 p2).trans (a i p1 p2)
theorem put_r {b : Nat} (hl : bs.length < 3960) (hb : b < 128) (hP : PBc bs h) (kk : ∀ h', PBc (bs ++ [b]) h' → fs h h' → K h') : P_X3_put F (nI b) h K := by
  obtain ⟨h1, h2⟩ := hP
  unfold P_X3_put
  rw [h1]
  refine ifp (by rw [nlt (by omega) (by omega)]; exact hl) ⟨vp_in_nI hl (by omega), ?_⟩
  rw [ncl (by omega), nar_d b hb]
  show K (up (up h 52 bs.length (nI b)) 51 0 (up h 52 bs.length (nI b) 51 0 + nI 1))
  have e : up h 52 bs.length (nI b) 51 0 = nI bs.length := by rw [up_ne _ _ _ _ (by omega)]; exact h1
  rw [e, nI_add]
  refine kk _ ⟨?_, fun i b' hi => ?_⟩ (fun a a1 a2 => by rw [up_ne _ _ _ _ a1, up_ne _ _ _ _ a2])
  · rw [upr, if_pos ⟨rfl, rfl⟩, List.length_append, List.length_singleton]
  · rw [up_ne _ _ _ _ (by omega), upr]
    rcases app1 hi with ⟨e1, e2⟩ | ⟨e1, e2⟩
    · rw [if_neg (by omega)]; exact h2 i b' e2
    · rw [if_pos ⟨rfl, e1⟩, e2]
theorem pn_0 {N v : Nat} (kk : K h) : X3_putNumber_c3 F K (N + 1) (nI v) (nI 0) h := by
  rw [X3_putNumber_c3_s]
  exact ifp (by rw [nle (by omega) (by omega)]; omega) kk
theorem nI_nz {u : Nat} (h : 0 < u) (h2 : u < 2147483648) : ¬ nI u = 0 := by
  intro z
  have z2 : nI u = nI 0 := z
  rw [neq h2 (by omega)] at z2
  omega
theorem pn_c30 {N v u w : Nat} (h2 : u < 2147483648) (hw : u / 10 = w) (kk : X3_putNumber_c3 F K N (nI v) (nI w) h) : X3_putNumber_c30 F (X3_putNumber_c3 F K N) K (nI v) (nI u) h := by
  unfold X3_putNumber_c30
  refine ⟨nI_nz (by omega) (by omega), ?_⟩
  rw [pk_div (by omega) (by omega) (by omega), hw]
  exact kk
theorem pn_sk {N v u w : Nat} (hu : 1 < u) (hu2 : u < 2147483648) (hv : v < u) (hw : u / 10 = w) (kk : X3_putNumber_c3 F K N (nI v) (nI w) h) : X3_putNumber_c3 F K (N + 1) (nI v) (nI u) h := by
  rw [X3_putNumber_c3_s]
  refine ifn (by rw [nle (by omega) (by omega)]; omega) (ifn (by rw [nle (by omega) (by omega)]; omega) (ifp (by rw [neq (by omega) (by omega)]; omega) ?_))
  exact pn_c30 hu2 hw kk
theorem pn_pt {N v u w : Nat} (hu : 0 < u) (hu2 : u < 2147483648) (hv2 : v < 10000) (hvu : u ≤ v ∨ u = 1) (hw : u / 10 = w) (hl : bs.length < 3960) (hP : PBc bs h) (kk : ∀ h', PBc (bs ++ [48 + v / u % 10]) h' → fs h h' → X3_putNumber_c3 F K N (nI v) (nI w) h') : X3_putNumber_c3 F K (N + 1) (nI v) (nI u) h := by
  have vu : v / u < 10000 := Nat.lt_of_le_of_lt (Nat.div_le_self _ _) hv2
  have core : X3_putNumber_c17 F (X3_putNumber_c3 F K N) K (nI v) (nI u) h := by
    unfold X3_putNumber_c17
    refine ⟨nI_nz hu hu2, nI_nz (by omega) (by omega), ?_⟩
    rw [pk_div (by omega) hu hu2, pk_rem (by omega) (by omega) (by omega), nI_add]
    exact put_r hl (by omega) hP (fun h' q1 q2 => pn_c30 hu2 hw (kk h' q1 q2))
  rw [X3_putNumber_c3_s]
  refine ifn (by rw [nle (by omega) (by omega)]; omega) ?_
  by_cases e : u ≤ v
  · exact ifp (by rw [nle (by omega) (by omega)]; exact e) core
  · refine ifn (by rw [nle (by omega) (by omega)]; exact e) (ifn (fun z => ?_) core)
    rcases hvu with q | q
    · exact e q
    · exact z (by rw [q])
theorem pnum_c {v : Nat} (hFu : 500 ≤ F) (hv : v < 10000) (hl : bs.length + 4 ≤ 3960) (hP : PBc bs h) (kk : ∀ h', PBc (bs ++ dg v) h' → fs h h' → K h') : P_X3_putNumber F (nI v) h K := by
  unfold P_X3_putNumber
  have gen : ∀ N, 11 ≤ N → X3_putNumber_c3 F K N (nI v) (nI 1000000000) h := fun N hN => by
    obtain ⟨f, rfl⟩ : ∃ f, N = f + 1 + 1 + 1 + 1 + 1 + 1 + 1 + 1 + 1 + 1 + 1 := ⟨N - 11, by omega⟩
    refine pn_sk (w := 100000000) (by omega) (by omega) (by omega) (by omega) ?_
    refine pn_sk (w := 10000000) (by omega) (by omega) (by omega) (by omega) ?_
    refine pn_sk (w := 1000000) (by omega) (by omega) (by omega) (by omega) ?_
    refine pn_sk (w := 100000) (by omega) (by omega) (by omega) (by omega) ?_
    refine pn_sk (w := 10000) (by omega) (by omega) (by omega) (by omega) ?_
    refine pn_sk (w := 1000) (by omega) (by omega) (by omega) (by omega) ?_
    unfold dg at kk
    by_cases e1 : v < 10
    · rw [if_pos e1] at kk
      refine pn_sk (w := 100) (by omega) (by omega) (by omega) (by omega) ?_
      refine pn_sk (w := 10) (by omega) (by omega) (by omega) (by omega) ?_
      refine pn_sk (w := 1) (by omega) (by omega) (by omega) (by omega) ?_
      refine pn_pt (w := 0) (by omega) (by omega) hv (Or.inr rfl) (by omega) (by omega) hP (fun h1 a1 b1 => ?_)
      exact pn_0 (kk h1 a1 b1)
    · rw [if_neg e1] at kk
      by_cases e2 : v < 100
      · rw [if_pos e2] at kk
        refine pn_sk (w := 100) (by omega) (by omega) (by omega) (by omega) ?_
        refine pn_sk (w := 10) (by omega) (by omega) (by omega) (by omega) ?_
        refine pn_pt (w := 1) (by omega) (by omega) hv (Or.inl (by omega)) (by omega) (by omega) hP (fun h1 a1 b1 => ?_)
        refine pn_pt (w := 0) (by omega) (by omega) hv (Or.inr rfl) (by omega) (by simp; omega) a1 (fun h2 a2 b2 => ?_)
        rw [List.append_assoc] at a2
        exact pn_0 (kk h2 a2 (fs_tr b1 b2))
      · rw [if_neg e2] at kk
        by_cases e3 : v < 1000
        · rw [if_pos e3] at kk
          refine pn_sk (w := 100) (by omega) (by omega) (by omega) (by omega) ?_
          refine pn_pt (w := 10) (by omega) (by omega) hv (Or.inl (by omega)) (by omega) (by omega) hP (fun h1 a1 b1 => ?_)
          refine pn_pt (w := 1) (by omega) (by omega) hv (Or.inl (by omega)) (by omega) (by simp; omega) a1 (fun h2 a2 b2 => ?_)
          refine pn_pt (w := 0) (by omega) (by omega) hv (Or.inr rfl) (by omega) (by simp; omega) a2 (fun h3 a3 b3 => ?_)
          rw [List.append_assoc, List.append_assoc] at a3
          exact pn_0 (kk h3 a3 (fs_tr b1 (fs_tr b2 b3)))
        · rw [if_neg e3] at kk
          refine pn_pt (w := 100) (by omega) (by omega) hv (Or.inl (by omega)) (by omega) (by omega) hP (fun h1 a1 b1 => ?_)
          refine pn_pt (w := 10) (by omega) (by omega) hv (Or.inl (by omega)) (by omega) (by simp; omega) a1 (fun h2 a2 b2 => ?_)
          refine pn_pt (w := 1) (by omega) (by omega) hv (Or.inl (by omega)) (by omega) (by simp; omega) a2 (fun h3 a3 b3 => ?_)
          refine pn_pt (w := 0) (by omega) (by omega) hv (Or.inr rfl) (by omega) (by simp; omega) a3 (fun h4 a4 b4 => ?_)
          rw [List.append_assoc, List.append_assoc, List.append_assoc] at a4
          exact pn_0 (kk h4 a4 (fs_tr b1 (fs_tr b2 (fs_tr b3 b4))))
  exact gen F (by omega)
theorem letC_r {m : Nat} {K : Int32 → AH → Prop} (hm : m < 100) (kk : K (nI (lt5 m)) h) : P_X3_letterOf F (nI m) h K := by
  unfold P_X3_letterOf
  unfold lt5 at kk
  by_cases h1 : m = 1
  · rw [if_pos h1] at kk
    exact ifp (by rw [h1]) kk
  · rw [if_neg h1] at kk
    refine ifn (by rw [neq (by omega) (by omega)]; exact h1) ?_
    by_cases h2 : m = 2
    · rw [if_pos h2] at kk
      exact ifp (by rw [h2]) kk
    · rw [if_neg h2] at kk
      refine ifn (by rw [neq (by omega) (by omega)]; exact h2) ?_
      by_cases h3 : m = 3
      · rw [if_pos h3] at kk
        exact ifp (by rw [h3]) kk
      · rw [if_neg h3] at kk
        refine ifn (by rw [neq (by omega) (by omega)]; exact h3) ?_
        by_cases h4 : m = 4
        · rw [if_pos h4] at kk
          exact ifp (by rw [h4]) kk
        · rw [if_neg h4] at kk
          exact ifn (by rw [neq (by omega) (by omega)]; exact h4) kk
theorem hold_c {t o m c : Nat} (hFu : 500 ≤ F) (ht : t < 12) (ho : o < 6) (hm : m < 100) (hc : c < 10000) (hl : bs.length + 11 ≤ 3960) (hP : PBc bs h) (kk : ∀ h', PBc (bs ++ hbS t o m c) h' → fs h h' → K h') : P_X3_putHold F (nI t) (nI o) (nI m) (nI c) h K := by
  unfold P_X3_putHold
  have lt := dg_len2 (v := t) (by omega)
  have lc := dg_len c
  by_cases e0 : c = 0
  · refine ifn (fun z => z (by rw [e0])) ?_
    refine kk h ?_ (fs_rf h)
    unfold hbS
    rw [if_pos e0, List.append_nil]
    exact hP
  · refine ifp (by rw [neq (by omega) (by omega)]; exact e0) ?_
    refine pnum_c hFu (by omega) (by omega) hP (fun h1 a1 b1 => ?_)
    refine put_r (by simp; omega) (by omega) a1 (fun h2 a2 b2 => ?_)
    refine pnum_c hFu (by omega) (by simp; omega) a2 (fun h3 a3 b3 => ?_)
    rw [dg_1 (v := o) (by omega)] at a3
    refine letC_r hm (put_r (by simp; omega) (lt5_b m) a3 (fun h4 a4 b4 => ?_))
    have b14 := fs_tr b1 (fs_tr b2 (fs_tr b3 b4))
    by_cases e1 : c ≤ 1
    · refine ifp (by rw [nle (by omega) (by omega)]; exact e1) ?_
      unfold X3_putHold_c48
      refine put_r (by simp; omega) (by omega) a4 (fun h5 a5 b5 => ?_)
      have e : bs ++ dg t ++ [58] ++ [48 + o] ++ [lt5 m] ++ [32] = bs ++ hbS t o m c := by
        unfold hbS
        rw [if_neg e0, if_pos e1]
        simp only [List.append_assoc, List.nil_append]
      rw [e] at a5
      exact kk h5 a5 (fs_tr b14 b5)
    · refine ifn (by rw [nle (by omega) (by omega)]; exact e1) ?_
      refine put_r (by simp; omega) (by omega) a4 (fun h5 a5 b5 => ?_)
      refine pnum_c hFu (by omega) (by simp; omega) a5 (fun h6 a6 b6 => ?_)
      unfold X3_putHold_c48
      refine put_r (by simp; omega) (by omega) a6 (fun h7 a7 b7 => ?_)
      have e : bs ++ dg t ++ [58] ++ [48 + o] ++ [lt5 m] ++ [120] ++ dg c ++ [32] = bs ++ hbS t o m c := by
        unfold hbS
        rw [if_neg e0, if_neg e1]
        simp only [List.append_assoc]
      rw [e] at a7
      exact kk h7 a7 (fs_tr b14 (fs_tr b5 (fs_tr b6 b7)))
/-- the reference -/
def PBr (bs : List Nat) (h : AH) : Prop := h 56 24 = nI bs.length ∧ ∀ i b, bs[i]? = some b → h 65 i = nI b
def fs8 (h h' : AH) : Prop := (∀ a, a ≠ 56 → a ≠ 65 → h' a = h a) ∧ ∀ j, j ≠ 24 → h' 56 j = h 56 j
theorem fs8_rf (h : AH) : fs8 h h := ⟨fun _ _ _ => rfl, fun _ _ => rfl⟩
theorem fs8_tr {h h1 h2 : AH} (a : fs8 h h1) (c : fs8 h1 h2) : fs8 h h2 := ⟨fun i p1 p2 => (c.1 i p1 p2).trans (a.1 i p1 p2), fun j p1 => (c.2 j p1).trans (a.2 j p1)⟩
theorem wr_r {b : Nat} (hl : bs.length < 6000) (hP : PBr bs h) (kk : ∀ h', PBr (bs ++ [b]) h' → fs8 h h' → K h') : P_X8_writes F (nI b) h K := by
  obtain ⟨h1, h2⟩ := hP
  unfold P_X8_writes
  rw [h1]
  refine ⟨vp_in_nI hl (by omega), ?_⟩
  rw [ncl (by omega)]
  show K (up (up h 65 bs.length (nI b)) 56 24 (up h 65 bs.length (nI b) 56 24 + nI 1))
  have e : up h 65 bs.length (nI b) 56 24 = nI bs.length := by rw [up_ne _ _ _ _ (by omega)]; exact h1
  rw [e, nI_add]
  refine kk _ ⟨?_, fun i b' hi => ?_⟩ ⟨fun a a1 a2 => by rw [up_ne _ _ _ _ a1, up_ne _ _ _ _ a2], fun j hj => by rw [upr, if_neg (by omega), up_ne _ _ _ _ (by omega)]⟩
  · rw [upr, if_pos ⟨rfl, rfl⟩, List.length_append, List.length_singleton]
  · rw [up_ne _ _ _ _ (by omega), upr]
    rcases app1 hi with ⟨e1, e2⟩ | ⟨e1, e2⟩
    · rw [if_neg (by omega)]; exact h2 i b' e2
    · rw [if_pos ⟨rfl, e1⟩, e2]
theorem wn_l : ∀ (n v : Nat) (bs : List Nat) (h : AH) (K : AH → Prop), v < 10000 → v < 10 ^ (n + 1) → bs.length + 4 ≤ 6000 → PBr bs h → (∀ h', PBr (bs ++ dg v) h' → fs8 h h' → K h') → PR_X8_writesNumber F (n + 1) (nI v) h K := by
  intro n
  induction n with
  | zero =>
    intro v bs h K hv hn hl hP kk
    rw [PR_X8_writesNumber_s]
    unfold Pb_X8_writesNumber
    have h10 : v < 10 := by simpa using hn
    refine ifp (by rw [nle (by omega) (by omega)]; omega) ?_
    unfold X8_writesNumber_c14
    refine ⟨nI_nz (by omega) (by omega), ?_⟩
    rw [pk_rem (by omega) (by omega) (by omega), nI_add]
    rw [dg_1 h10] at kk
    rw [show v % 10 = v by omega]
    exact wr_r (by omega) hP kk
  | succ n ih =>
    intro v bs h K hv hn hl hP kk
    rw [PR_X8_writesNumber_s]
    unfold Pb_X8_writesNumber
    by_cases h10 : v < 10
    · refine ifp (by rw [nle (by omega) (by omega)]; omega) ?_
      unfold X8_writesNumber_c14
      refine ⟨nI_nz (by omega) (by omega), ?_⟩
      rw [pk_rem (by omega) (by omega) (by omega), nI_add]
      rw [dg_1 h10] at kk
      rw [show v % 10 = v by omega]
      exact wr_r (by omega) hP kk
    · refine ifn (by rw [nle (by omega) (by omega)]; omega) ⟨nI_nz (by omega) (by omega), ?_⟩
      rw [pk_div (by omega) (by omega) (by omega)]
      have hn2 : v / 10 < 10 ^ (n + 1) := by
        rw [Nat.pow_succ] at hn
        exact Nat.div_lt_of_lt_mul (by rw [Nat.mul_comm]; exact hn)
      have ld := dg_len v
      have ld2 : (dg (v / 10)).length + 1 ≤ 4 := by
        rw [dg_s (by omega) hv, List.length_append, List.length_singleton] at ld
        exact ld
      refine ih (v / 10) bs h _ (by omega) hn2 hl hP (fun h1 a1 b1 => ?_)
      unfold X8_writesNumber_c14
      refine ⟨nI_nz (by omega) (by omega), ?_⟩
      rw [pk_rem (by omega) (by omega) (by omega), nI_add]
      refine wr_r (by rw [List.length_append]; omega) a1 (fun h2 a2 b2 => ?_)
      rw [List.append_assoc, ← dg_s (by omega) hv] at a2
      exact kk h2 a2 (fs8_tr b1 b2)
theorem wn_r {v : Nat} (hv : v < 10000) (hl : bs.length + 4 ≤ 6000) (hP : PBr bs h) (kk : ∀ h', PBr (bs ++ dg v) h' → fs8 h h' → K h') : P_X8_writesNumber F (nI v) h K := by
  unfold P_X8_writesNumber
  exact wn_l 15 v bs h K hv (Nat.lt_trans hv (by decide)) hl hP kk
theorem letR_r {m : Nat} {K : Int32 → AH → Prop} (hm : m < 100) (kk : K (nI (lt5 m)) h) : P_X8_letterOf F (nI m) h K := by
  unfold P_X8_letterOf
  unfold lt5 at kk
  by_cases h1 : m = 1
  · rw [if_pos h1] at kk
    exact ifn (fun z => z (by rw [h1])) kk
  · rw [if_neg h1] at kk
    refine ifp (by rw [neq (by omega) (by omega)]; exact h1) ?_
    by_cases h2 : m = 2
    · rw [if_pos h2] at kk
      exact ifn (fun z => z (by rw [h2])) kk
    · rw [if_neg h2] at kk
      refine ifp (by rw [neq (by omega) (by omega)]; exact h2) ?_
      by_cases h3 : m = 3
      · rw [if_pos h3] at kk
        exact ifn (fun z => z (by rw [h3])) kk
      · rw [if_neg h3] at kk
        refine ifp (by rw [neq (by omega) (by omega)]; exact h3) ?_
        by_cases h4 : m = 4
        · rw [if_pos h4] at kk
          exact ifn (fun z => z (by rw [h4])) kk
        · rw [if_neg h4] at kk
          exact ifp (by rw [neq (by omega) (by omega)]; exact h4) kk
theorem hold_r {t o m c : Nat} (ht : t < 12) (ho : o < 6) (hm : m < 100) (hc0 : c ≠ 0) (hc : c < 10000) (hl : bs.length + 11 ≤ 3960) (hP : PBr bs h) (kk : ∀ h', PBr (bs ++ hbS t o m c) h' → fs8 h h' → K h') : P_X8_writesHold F (nI t) (nI o) (nI m) (nI c) h K := by
  unfold P_X8_writesHold
  have lt := dg_len2 (v := t) (by omega)
  have lc := dg_len c
  refine wn_r (by omega) (by omega) hP (fun h1 a1 b1 => ?_)
  refine wr_r (by simp; omega) a1 (fun h2 a2 b2 => ?_)
  rw [nI_add]
  refine wr_r (by simp; omega) a2 (fun h3 a3 b3 => ?_)
  refine letR_r hm (wr_r (by simp; omega) a3 (fun h4 a4 b4 => ?_))
  have b14 := fs8_tr b1 (fs8_tr b2 (fs8_tr b3 b4))
  by_cases e1 : c ≤ 1
  · refine ifp (by rw [nle (by omega) (by omega)]; exact e1) ?_
    unfold X8_writesHold_c45
    refine wr_r (by simp; omega) a4 (fun h5 a5 b5 => ?_)
    have e : bs ++ dg t ++ [58] ++ [48 + o] ++ [lt5 m] ++ [32] = bs ++ hbS t o m c := by
      unfold hbS
      rw [if_neg hc0, if_pos e1]
      simp only [List.append_assoc, List.nil_append]
    rw [e] at a5
    exact kk h5 a5 (fs8_tr b14 b5)
  · refine ifn (by rw [nle (by omega) (by omega)]; exact e1) ?_
    refine wr_r (by simp; omega) a4 (fun h5 a5 b5 => ?_)
    refine wn_r (by omega) (by simp; omega) a5 (fun h6 a6 b6 => ?_)
    unfold X8_writesHold_c45
    refine wr_r (by simp; omega) a6 (fun h7 a7 b7 => ?_)
    have e : bs ++ dg t ++ [58] ++ [48 + o] ++ [lt5 m] ++ [120] ++ dg c ++ [32] = bs ++ hbS t o m c := by
      unfold hbS
      rw [if_neg hc0, if_neg e1]
      simp only [List.append_assoc]
    rw [e] at a7
    exact kk h7 a7 (fs8_tr b14 (fs8_tr b5 (fs8_tr b6 b7)))
end CB2
/-! the loops -/
section CB3
variable {F n : Nat} {h h0 : AH} {C : CT}
theorem spellM_c {t o : Nat} {K : Int32 → AH → Prop} {rc10 : Int32 → AH → Prop} {rc23 : Int32 → Int32 → AH → Prop} (hFu : 500 ≤ F) (ht : t < 12) (ho : o < 6) (hcc : ∀ t o m, C t o m < 10000) (hC : ∀ t o m, t < 12 → o < 6 → 1 ≤ m → m ≤ 5 → h0 4 ((t * 6 + o) * 5 + m - 1) = nI (C t o m)) : ∀ (d N m : Nat) (bs : List Nat) (h : AH), m + d = 6 → 1 ≤ m → d + 1 ≤ N → bs.length + 11 * d ≤ 3960 → PBc bs h → fs h0 h → (∀ h', PBc (bs ++ spM C t o d m) h' → fs h0 h' → rc23 (nI t) (nI (o + 1)) h') → X7_spells_c31 F rc10 rc23 K N (nI t) (nI o) (nI m) h := by
  intro d
  induction d with
  | zero =>
    intro N m bs h h1 h2 h3 h4 hP hf kk
    obtain ⟨N, rfl⟩ : ∃ k, N = k + 1 := ⟨N - 1, by omega⟩
    rw [X7_spells_c31_s]
    refine ifp (by rw [nlt (by omega) (by omega)]; omega) ?_
    rw [nI_add]
    refine kk h ?_ hf
    show PBc (bs ++ []) h
    rw [List.append_nil]
    exact hP
  | succ d ih =>
    intro N m bs h h1 h2 h3 h4 hP hf kk
    obtain ⟨N, rfl⟩ : ∃ k, N = k + 1 := ⟨N - 1, by omega⟩
    rw [X7_spells_c31_s]
    refine ifn (by rw [nlt (by omega) (by omega)]; omega) ?_
    unfold P_X5_cell
    simp only [pk_mul, nI_add]
    rw [nsub (by omega)]
    refine ⟨vp_in_nI (by omega) (by omega), ?_⟩
    have e : h 4 ((t * 6 + o) * 5 + m - 1) = nI (C t o m) := by rw [hf 4 (by omega) (by omega)]; exact hC t o m ht ho h2 (by omega)
    rw [ncl (by omega), e]
    have lh := hbS_len (t := t) (o := o) (m := m) (c := C t o m) (by omega)
    refine hold_c hFu ht ho (by omega) (hcc t o m) (by omega) hP (fun h5 a1 a2 => ?_)
    refine ih N (m + 1) _ h5 (by omega) (by omega) (by omega) (by rw [List.length_append]; omega) a1 (fs_tr hf a2) (fun h6 b1 b2 => ?_)
    rw [List.append_assoc] at b1
    exact kk h6 b1 b2
theorem spM_len {t o : Nat} (ht : t < 12) : ∀ d m, (spM C t o d m).length ≤ 11 * d
  | 0, m => Nat.le_refl _
  | d + 1, m => by
    have := spM_len (o := o) ht d (m + 1)
    have h2 := hbS_len (t := t) (o := o) (m := m) (c := C t o m) (by omega)
    show (hbS t o m (C t o m) ++ spM C t o d (m + 1)).length ≤ _
    rw [List.length_append]
    omega
theorem spO_len {t : Nat} (ht : t < 12) : ∀ d o, (spO C t d o).length ≤ 55 * d
  | 0, o => Nat.le_refl _
  | d + 1, o => by
    have := spO_len ht d (o + 1)
    have h2 := spM_len (C := C) (o := o) ht 5 1
    show (spM C t o 5 1 ++ spO C t d (o + 1)).length ≤ _
    rw [List.length_append]
    omega
theorem spT_len : ∀ d t, t + d ≤ 12 → (spT C d t).length ≤ 330 * d
  | 0, t, _ => Nat.le_refl _
  | d + 1, t, h => by
    have := spT_len d (t + 1) (by omega)
    have h2 := spO_len (C := C) (t := t) (by omega) 6 0
    show (spO C t 6 0 ++ spT C d (t + 1)).length ≤ _
    rw [List.length_append]
    omega
theorem spellO_c {t : Nat} {K : Int32 → AH → Prop} {rc10 : Int32 → AH → Prop} (hFu : 500 ≤ F) (ht : t < 12) (hcc : ∀ t o m, C t o m < 10000) (hC : ∀ t o m, t < 12 → o < 6 → 1 ≤ m → m ≤ 5 → h0 4 ((t * 6 + o) * 5 + m - 1) = nI (C t o m)) : ∀ (d N o : Nat) (bs : List Nat) (h : AH), o + d = 6 → d + 1 ≤ N → bs.length + 55 * d ≤ 3960 → PBc bs h → fs h0 h → (∀ h', PBc (bs ++ spO C t d o) h' → fs h0 h' → rc10 (nI (t + 1)) h') → X7_spells_c23 F rc10 K N (nI t) (nI o) h := by
  intro d
  induction d with
  | zero =>
    intro N o bs h h1 h3 h4 hP hf kk
    obtain ⟨N, rfl⟩ : ∃ k, N = k + 1 := ⟨N - 1, by omega⟩
    rw [X7_spells_c23_s]
    refine ifp (by rw [nle (by omega) (by omega)]; omega) ?_
    rw [nI_add]
    refine kk h ?_ hf
    show PBc (bs ++ []) h
    rw [List.append_nil]
    exact hP
  | succ d ih =>
    intro N o bs h h1 h3 h4 hP hf kk
    obtain ⟨N, rfl⟩ : ∃ k, N = k + 1 := ⟨N - 1, by omega⟩
    rw [X7_spells_c23_s]
    refine ifn (by rw [nle (by omega) (by omega)]; omega) ?_
    have l2 := spM_len (C := C) (o := o) ht 5 1
    refine spellM_c hFu ht (by omega) hcc hC 5 F 1 bs h (by omega) (by omega) (by omega) (by omega) hP hf (fun h5 a1 a2 => ?_)
    refine ih N (o + 1) _ h5 (by omega) (by omega) (by rw [List.length_append]; omega) a1 a2 (fun h6 b1 b2 => ?_)
    rw [List.append_assoc] at b1
    exact kk h6 b1 b2
theorem spellT_c {K : Int32 → AH → Prop} (hFu : 500 ≤ F) (hn : n ≤ 12) (h10 : h0 1 0 = nI n) (hcc : ∀ t o m, C t o m < 10000) (hC : ∀ t o m, t < 12 → o < 6 → 1 ≤ m → m ≤ 5 → h0 4 ((t * 6 + o) * 5 + m - 1) = nI (C t o m)) : ∀ (d N t : Nat) (bs : List Nat) (h : AH), t + d = n → d + 1 ≤ N → bs.length + 330 * d ≤ 3960 → PBc bs h → fs h0 h → (∀ h', PBc (bs ++ spT C d t) h' → fs h0 h' → K (nI (bs ++ spT C d t).length) h') → X7_spells_c10 F K N (nI t) h := by
  intro d
  induction d with
  | zero =>
    intro N t bs h h1 h3 h4 hP hf kk
    obtain ⟨N, rfl⟩ : ∃ k, N = k + 1 := ⟨N - 1, by omega⟩
    have e1 : h 1 0 = nI n := by rw [hf 1 (by omega) (by omega)]; exact h10
    rw [X7_spells_c10_s, e1]
    refine ifp (by rw [nle (by omega) (by omega)]; omega) ?_
    rw [hP.1]
    have := kk h
    rw [show bs ++ spT C 0 t = bs from List.append_nil bs] at this
    exact this hP hf
  | succ d ih =>
    intro N t bs h h1 h3 h4 hP hf kk
    obtain ⟨N, rfl⟩ : ∃ k, N = k + 1 := ⟨N - 1, by omega⟩
    have e1 : h 1 0 = nI n := by rw [hf 1 (by omega) (by omega)]; exact h10
    rw [X7_spells_c10_s, e1]
    refine ifn (by rw [nle (by omega) (by omega)]; omega) ?_
    have ht12 : t < 12 := by omega
    have h4' : bs.length + 55 * 6 + 330 * d ≤ 3960 := by omega
    have h4'' : bs.length + 55 * 6 ≤ 3960 := Nat.le_trans (Nat.le_add_right _ _) h4'
    refine spellO_c hFu (by omega) hcc hC 6 F 0 bs h (by omega) (by omega) h4'' hP hf (fun h5 a1 a2 => ?_)
    refine ih N (t + 1) _ h5 (by omega) (by omega) (by rw [List.length_append]; exact Nat.le_trans (Nat.add_le_add_right (Nat.add_le_add_left (spO_len (C := C) ht12 6 0) _) _) h4') a1 a2 (fun h6 b1 b2 => ?_)
    rw [List.append_assoc] at b1
    rw [List.append_assoc]
    exact kk h6 b1 b2
theorem spellM_r {t o : Nat} {K : Int32 → AH → Prop} {rc7 : Int32 → AH → Prop} {rc19 : Int32 → Int32 → AH → Prop} (ht : t < n) (hn : n ≤ 12) (ho : o < 6) (hcc : ∀ t o m, C t o m < 10000) (hC : ∀ t o m, t < n → o < 6 → 1 ≤ m → m ≤ 5 → h0 57 (81 + (o * 12 + t) * 5 + m - 1) = nI (C t o m)) : ∀ (d N m : Nat) (bs : List Nat) (h : AH), m + d = 6 → 1 ≤ m → d + 1 ≤ N → bs.length + 11 * d ≤ 3960 → PBr bs h → fs8 h0 h → (∀ h', PBr (bs ++ spM C t o d m) h' → fs8 h0 h' → rc19 (nI t) (nI (o + 1)) h') → X8_spells_c27 F rc7 rc19 K N (nI t) (nI o) (nI m) h := by
  intro d
  induction d with
  | zero =>
    intro N m bs h h1 h2 h3 h4 hP hf kk
    obtain ⟨N, rfl⟩ : ∃ k, N = k + 1 := ⟨N - 1, by omega⟩
    rw [X8_spells_c27_s]
    refine ifp (by rw [nlt (by omega) (by omega)]; omega) ?_
    rw [nI_add]
    refine kk h ?_ hf
    show PBr (bs ++ []) h
    rw [List.append_nil]
    exact hP
  | succ d ih =>
    intro N m bs h h1 h2 h3 h4 hP hf kk
    obtain ⟨N, rfl⟩ : ∃ k, N = k + 1 := ⟨N - 1, by omega⟩
    rw [X8_spells_c27_s]
    refine ifn (by rw [nlt (by omega) (by omega)]; omega) ?_
    unfold P_X8_at
    rw [pk_mul, nI_add, pk_mul, nI_add, nI_add, nsub (by omega)]
    refine ⟨vp_in_nI (by omega) (by omega), ?_⟩
    have e : h 57 (81 + (o * 12 + t) * 5 + m - 1) = nI (C t o m) := by rw [hf.1 57 (by omega) (by omega)]; exact hC t o m ht ho h2 (by omega)
    rw [ncl (by omega), e]
    have lh := hbS_len (t := t) (o := o) (m := m) (c := C t o m) (by omega)
    have cl := hcc t o m
    by_cases e0 : C t o m = 0
    · refine ifp (by rw [nle (by omega) (by omega)]; omega) ?_
      unfold X8_spells_c59
      rw [nI_add]
      refine ih N (m + 1) bs h (by omega) (by omega) (by omega) (by omega) hP hf (fun h6 b1 b2 => ?_)
      refine kk h6 ?_ b2
      show PBr (bs ++ (hbS t o m (C t o m) ++ spM C t o d (m + 1))) h6
      have : hbS t o m (C t o m) = [] := by unfold hbS; rw [if_pos e0]
      rw [this]
      exact b1
    · refine ifn (by rw [nle (by omega) (by omega)]; omega) ?_
      refine hold_r (by omega) ho (by omega) e0 cl (by omega) hP (fun h5 a1 a2 => ?_)
      unfold X8_spells_c59
      rw [nI_add]
      refine ih N (m + 1) _ h5 (by omega) (by omega) (by omega) (by rw [List.length_append]; omega) a1 (fs8_tr hf a2) (fun h6 b1 b2 => ?_)
      rw [List.append_assoc] at b1
      exact kk h6 b1 b2
theorem spellO_r {t : Nat} {K : Int32 → AH → Prop} {rc7 : Int32 → AH → Prop} (hFu : 500 ≤ F) (ht : t < n) (hn : n ≤ 12) (hcc : ∀ t o m, C t o m < 10000) (hC : ∀ t o m, t < n → o < 6 → 1 ≤ m → m ≤ 5 → h0 57 (81 + (o * 12 + t) * 5 + m - 1) = nI (C t o m)) : ∀ (d N o : Nat) (bs : List Nat) (h : AH), o + d = 6 → d + 1 ≤ N → bs.length + 55 * d ≤ 3960 → PBr bs h → fs8 h0 h → (∀ h', PBr (bs ++ spO C t d o) h' → fs8 h0 h' → rc7 (nI (t + 1)) h') → X8_spells_c19 F rc7 K N (nI t) (nI o) h := by
  intro d
  induction d with
  | zero =>
    intro N o bs h h1 h3 h4 hP hf kk
    obtain ⟨N, rfl⟩ : ∃ k, N = k + 1 := ⟨N - 1, by omega⟩
    rw [X8_spells_c19_s]
    refine ifp (by rw [nle (by omega) (by omega)]; omega) ?_
    rw [nI_add]
    refine kk h ?_ hf
    show PBr (bs ++ []) h
    rw [List.append_nil]
    exact hP
  | succ d ih =>
    intro N o bs h h1 h3 h4 hP hf kk
    obtain ⟨N, rfl⟩ : ∃ k, N = k + 1 := ⟨N - 1, by omega⟩
    rw [X8_spells_c19_s]
    refine ifn (by rw [nle (by omega) (by omega)]; omega) ?_
    have l2 := spM_len (C := C) (t := t) (o := o) (by omega) 5 1
    refine spellM_r ht hn (by omega) hcc hC 5 F 1 bs h (by omega) (by omega) (by omega) (by omega) hP hf (fun h5 a1 a2 => ?_)
    refine ih N (o + 1) _ h5 (by omega) (by omega) (by rw [List.length_append]; omega) a1 a2 (fun h6 b1 b2 => ?_)
    rw [List.append_assoc] at b1
    exact kk h6 b1 b2
theorem spellT_r {K : Int32 → AH → Prop} (hFu : 500 ≤ F) (hn : n ≤ 12) (h10 : h0 57 0 = nI n) (hcc : ∀ t o m, C t o m < 10000) (hC : ∀ t o m, t < n → o < 6 → 1 ≤ m → m ≤ 5 → h0 57 (81 + (o * 12 + t) * 5 + m - 1) = nI (C t o m)) : ∀ (d N t : Nat) (bs : List Nat) (h : AH), t + d = n → d + 1 ≤ N → bs.length + 330 * d ≤ 3960 → PBr bs h → fs8 h0 h → (∀ h', PBr (bs ++ spT C d t) h' → fs8 h0 h' → K (nI (bs ++ spT C d t).length) h') → X8_spells_c7 F K N (nI t) h := by
  have v0 : vp_in (nI 0) 441 := vp_in_nI (by omega) (by omega)
  intro d
  induction d with
  | zero =>
    intro N t bs h h1 h3 h4 hP hf kk
    obtain ⟨N, rfl⟩ : ∃ k, N = k + 1 := ⟨N - 1, by omega⟩
    have e1 : h 57 0 = nI n := by rw [hf.1 57 (by omega) (by omega)]; exact h10
    rw [X8_spells_c7_s]
    refine ⟨v0, ?_⟩
    rw [ncl (by omega), e1]
    refine ifp (by rw [nle (by omega) (by omega)]; omega) ?_
    rw [hP.1]
    have := kk h
    rw [show bs ++ spT C 0 t = bs from List.append_nil bs] at this
    exact this hP hf
  | succ d ih =>
    intro N t bs h h1 h3 h4 hP hf kk
    obtain ⟨N, rfl⟩ : ∃ k, N = k + 1 := ⟨N - 1, by omega⟩
    have e1 : h 57 0 = nI n := by rw [hf.1 57 (by omega) (by omega)]; exact h10
    rw [X8_spells_c7_s]
    refine ⟨v0, ?_⟩
    rw [ncl (by omega), e1]
    refine ifn (by rw [nle (by omega) (by omega)]; omega) ?_
    have ht12 : t < 12 := by omega
    have h4' : bs.length + 55 * 6 + 330 * d ≤ 3960 := by omega
    have h4'' : bs.length + 55 * 6 ≤ 3960 := Nat.le_trans (Nat.le_add_right _ _) h4'
    refine spellO_r hFu (by omega) hn hcc hC 6 F 0 bs h (by omega) (by omega) h4'' hP hf (fun h5 a1 a2 => ?_)
    refine ih N (t + 1) _ h5 (by omega) (by omega) (by rw [List.length_append]; exact Nat.le_trans (Nat.add_le_add_right (Nat.add_le_add_left (spO_len (C := C) ht12 6 0) _) _) h4') a1 a2 (fun h6 b1 b2 => ?_)
    rw [List.append_assoc] at b1
    rw [List.append_assoc]
    exact kk h6 b1 b2
end CB3
section CB4
variable {m F : Nat} {h : AH} {G Z : AH → Prop}
theorem call_spells (hFu : 500 ≤ F) (hI : INV m h) (hm : m < 513) (kk : ∀ h', INV (m + 1) h' → G h') : P_X7_spells F h (fun r h1 => P_X8_spells F h1 (fun r' h3 => if r = r' then G h3 else Z h3)) := by
  obtain ⟨c, l, n, W, B, C, ln, pl, g, hs⟩ := hI
  have hc := ST_c hs
  have hF := hs.2.2.1
  have hn := hF.1
  have hcc : ∀ t o m, C t o m < 10000 := fun t o m => Nat.lt_of_le_of_lt (hF.2.2.2.2.1 t o m) hc
  have hC1 := hs.1.2.2.2.1
  have hC8 := hs.2.1.1.2.2.2.1
  have lT := spT_len (C := C) n 0 (by omega)
  unfold P_X7_spells
  refine spellT_c (h0 := h) hFu hn hs.1.1 hcc hC1 n F 0 [] _ (by omega) (by omega) (by simp; omega) ⟨by rw [upr, if_pos ⟨rfl, rfl⟩]; rfl, fun i b hi => by simp at hi⟩ (fun a a1 a2 => up_ne _ _ _ _ a1) (fun h1 a1 a2 => ?_)
  unfold P_X8_spells
  have f57 : h1 57 = h 57 := a2 57 (by omega) (by omega)
  refine spellT_r (h0 := h1) hFu hn (by rw [f57]; exact hs.2.1.1.1) hcc (fun t o m p1 p2 p3 p4 => by rw [f57]; exact hC8 t o m p1 p2 p3 p4) n F 0 [] _ (by omega) (by omega) (by simp; omega) ⟨by rw [upr, if_pos ⟨rfl, rfl⟩]; rfl, fun i b hi => by simp at hi⟩ ⟨fun a a1 a2 => up_ne _ _ _ _ a1, fun j hj => up_k hj⟩ (fun h2 b1 b2 => ?_)
  rw [if_pos rfl]
  have e : ∀ a, a ≠ 51 → a ≠ 52 → a ≠ 56 → a ≠ 65 → h2 a = h a := fun a p1 p2 p3 p4 => (b2.1 a p3 p4).trans (a2 a p1 p2)
  have e56 : ∀ j, j ≠ 24 → h2 56 j = h 56 j := fun j hj => by rw [b2.2 j hj, a2 56 (by omega) (by omega)]
  obtain ⟨k1, k2, k3, k4, k5⟩ := hs.2.2.2.1
  refine kk _ (INV_o (l' := l) hs hm (fun a ha => e a (by omega) (by omega) (by omega) (by omega)) (e56 4 (by omega)) (e56 28 (by omega)) ⟨?_, ?_, ?_, ?_⟩ (by omega))
  · exact GT_e k2 (fun a ha => e a (by omega) (by omega) (by omega) (by omega))
  · unfold TP
    rw [e 44 (by omega) (by omega) (by omega) (by omega), e 45 (by omega) (by omega) (by omega) (by omega), e56 16 (by omega), e 64 (by omega) (by omega) (by omega) (by omega)]
    exact k3
  · refine ⟨([] ++ spT C n 0).length, by simp; omega, ?_, b1.1, fun i hi => ?_⟩
    · rw [b2.1 51 (by omega) (by omega)]; exact a1.1
    · have hg : ([] ++ spT C n 0)[i]? = some (([] ++ spT C n 0)[i]) := List.getElem?_eq_getElem hi
      rw [b2.1 52 (by omega) (by omega), a1.2 i _ hg, b1.2 i _ hg]
  · unfold LSI
    rw [e 54 (by omega) (by omega) (by omega) (by omega), e 55 (by omega) (by omega) (by omega) (by omega), e 66 (by omega) (by omega) (by omega) (by omega), e 67 (by omega) (by omega) (by omega) (by omega)]
    exact k5
end CB4
