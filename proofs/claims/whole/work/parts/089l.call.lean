/-! weighs -/
abbrev WR : Type := Option Nat × (Nat → Int32) × (Nat → Int32)
def wl (W B : Nat → Nat) (rec : (Nat → Int32) → (Nat → Int32) → (Nat → Int32) → Nat → WR) (wh th : Nat) (I : Nat → Int32) : Nat → Nat → Nat → (Nat → Int32) → (Nat → Int32) → WR
  | 0, _, acc, E, D => (some acc, E, D)
  | d + 1, p, acc, E, D => if W p = th + 1 then (if B p = 1 then (none, E, D) else
      match rec (eE (eE E p) wh) (eD (eD D I p) (eI I p) wh) (eI (eI I p) wh) p with
      | (none, E', D') => (none, E', D')
      | (some v, E', D') => wl W B rec wh th I d (p + 1) (acc + v) E' D')
    else wl W B rec wh th I d (p + 1) acc E D
def wg (n : Nat) (W B : Nat → Nat) (C : CT) (wh : Nat) : Nat → (Nat → Int32) → (Nat → Int32) → (Nat → Int32) → Nat → WR
  | 0, E, D, _, _ => (none, E, D)
  | f + 1, E, D, I, th => wl W B (wg n W B C wh f) wh th I (n - (th + 1)) (th + 1) (csum C th 30) E D
theorem csum_lt {C : CT} {c t : Nat} (h : ∀ t o m, C t o m ≤ c) : ∀ i, csum C t i ≤ i * c := fun i => sumTo_b (fun p => h _ _ _) i
def bw (W : WR) : Prop := ∀ v, W.1 = some v → v < 1000000000
section WG
variable {n b F : Nat} {W B : Nat → Nat} {C : CT} {ln pl : LN} {g wh : Nat}
theorem lI_2 (I : Nat → Int32) {p wh : Nat} (h : p ≠ wh) : lI (lI (eI (eI I p) wh) wh) p = I := by
  rw [lI_e, lI_e]
theorem lI_3 (I : Nat → Int32) {p wh : Nat} (h : p ≠ wh) : lI (lI (eI (eI I p) wh) p) wh = I := by
  have h2 : wh ≠ p := fun e => h e.symm
  funext j
  unfold lI eI uI
  by_cases e1 : j = wh
  · subst e1
    simp [h, h2]
  · by_cases e2 : j = p
    · subst e2
      simp [h, h2]
    · simp [e1, e2]
theorem RC_gs {n' : Nat} {E D I : Nat → Int32} {X : Int32} {h0 h : AH} (hR : RC 1 n W B C ln pl g h0) (hs : gs 41 n' E D I X h0 h) : RC 1 n W B C ln pl g h := by
  refine RC_c hR (fun a h1 h2 _ => hs.2.2.1 a (by omega) (by omega) (by omega) (by omega)) ?_
  rw [hs.2.2.1 1 (by omega) (by omega) (by omega) (by omega)]
  exact hR.2.2.2.2.2.2.2.2.2.2.2
/-- a bound on what is weighed: c a bound on a count, w on what is still to come -/
theorem wl_b {rec : (Nat → Int32) → (Nat → Int32) → (Nat → Int32) → Nat → WR} {th : Nat} {I : Nat → Int32} {M : Nat} (hr : ∀ E D I p v E' D', rec E D I p = (some v, E', D') → v ≤ M) : ∀ (d p acc : Nat) (E D : Nat → Int32) (v : Nat) (E' D' : Nat → Int32), wl W B rec wh th I d p acc E D = (some v, E', D') → v ≤ acc + d * M
  | 0, p, acc, E, D, v, E', D', h => by
    unfold wl at h
    have := congrArg Prod.fst h
    simp at this
    omega
  | d + 1, p, acc, E, D, v, E', D', h => by
    unfold wl at h
    have hm : (d + 1) * M = d * M + M := Nat.succ_mul d M
    split at h
    · split at h
      · have := congrArg Prod.fst h
        simp at this
      · split at h
        · have := congrArg Prod.fst h
          simp at this
        · rename_i v2 E2 D2 h2
          have h3 := hr _ _ _ _ _ _ _ h2
          have := wl_b hr d (p + 1) _ _ _ _ _ _ h
          omega
    · have := wl_b hr d (p + 1) _ _ _ _ _ _ h
      omega
theorem wc_l {c : Nat} {h0 : AH} {X : Int32} {f th dep : Nat} {K : Int32 → AH → Prop} (hR0 : RC 1 n W B C ln pl g h0) (hF : WF c n W B C ln pl) (hFu : 500 ≤ F) (hth : th < n) (hwh : wh ≤ th) (hdep : dep ≤ 11) {I : Nat → Int32}
    (ih : ∀ (p : Nat) (E D I : Nat → Int32) (h : AH) (K : Int32 → AH → Prop), th < p → p < n → gs 41 n E D I X h0 h → (∀ h', (match wg n W B C wh f E D I p with | (none, E', D') => gs 41 n E' D' I X h0 h' ∧ K (-11) h' = K (-11) h' | (some v, E', D') => gs 41 n E' D' I X h0 h' ∧ v < 1000000000) → (match wg n W B C wh f E D I p with | (none, _, _) => K (-11) h' | (some v, _, _) => K (nI v) h')) → PR_X7_weighInside F f 1 (nI wh) (nI p) (nI (dep + 1)) h K) :
    ∀ (d N p acc : Nat) (E D : Nat → Int32) (h : AH), p + d = n → th < p → d + 1 ≤ N → gs 41 n E D I X h0 h → acc < 1000000000 →
    (∀ h', (match wl W B (wg n W B C wh f) wh th I d p acc E D with | (none, E', D') => gs 41 n E' D' I X h0 h' | (some v, E', D') => gs 41 n E' D' I X h0 h') → (match wl W B (wg n W B C wh f) wh th I d p acc E D with | (none, _, _) => K (-11) h' | (some v, _, _) => K (nI v) h')) →
    X7_weighInside_c22 F 1 (PR_X7_weighInside F f) K N (nI wh) (nI th) (nI dep) (nI acc) (nI p) h := by
  sorry
end WG
