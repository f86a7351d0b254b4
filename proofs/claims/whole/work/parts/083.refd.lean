/-! the reference: serving, asking, giving up -/
theorem nx_nil (W : Nat → Nat) (C : CT) : nx W C [] = none := rfl
section RD
variable {n : Nat} {W B : Nat → Nat} {pl : LN}
theorem split_at {ln : LN} {j : Nat} {p : Nat × Nat × Nat} (h : ln[j]? = some p) : ∃ pre rest, ln = pre ++ p :: rest ∧ pre.length = j := by
  have hj := (List.getElem?_eq_some_iff.mp h).1
  have he := (List.getElem?_eq_some_iff.mp h).2
  refine ⟨ln.take j, ln.drop (j + 1), ?_, by rw [List.length_take]; omega⟩
  rw [← he, List.getElem_cons_drop, List.take_append_drop]
/-- one after another served: the next one's place is at hand -/
theorem servR_l {F : Nat} {K : Int32 → AH → Prop} (hFu : 40 ≤ F) : ∀ (f c N k g : Nat) (C : CT) (ln : LN) (h : AH) (r : Int32), ln.length ≤ f → f + 1 ≤ N → c + f < 1900000000 → RM n W B C ln pl g h → WF c n W B C ln pl → (match nx W C ln with | none => r = -1 | some p => ∃ j : Nat, j < ln.length ∧ ln[j]? = some p ∧ r = nI j) →
    (∀ h', RM n W B (svS W f C ln k).1 (svS W f C ln k).2.1 pl (g + (svS W f C ln k).2.2 - k) h' → fm h h' → K (nI (svS W f C ln k).2.2) h') → X8_serves_c7 F K N (nI k) r h := by
  intro f
  induction f with
  | zero =>
    intro c N k g C ln h r h1 h3 h4 hR hF hr kk
    obtain ⟨N, rfl⟩ : ∃ k, N = k + 1 := ⟨N - 1, by omega⟩
    have : ln = [] := List.length_eq_zero_iff.mp (by omega)
    subst this
    rw [nx_nil] at hr
    simp only at hr
    subst hr
    rw [X8_serves_c7_s, if_pos rfl]
    exact kk h (by simpa [svS] using hR) (fm_rf h)
  | succ f ih =>
    intro c N k g C ln h r h1 h3 h4 hR hF hr kk
    obtain ⟨N, rfl⟩ : ∃ k, N = k + 1 := ⟨N - 1, by omega⟩
    rw [X8_serves_c7_s]
    unfold svS at kk
    cases e : nx W C ln with
    | none =>
      simp only [e] at kk hr
      subst hr
      rw [if_pos rfl]
      exact kk h (by simpa using hR) (fm_rf h)
    | some q =>
      simp only [e] at kk hr
      obtain ⟨j, hj, hjp, rfl⟩ := hr
      obtain ⟨pre, rest, hl, rfl⟩ := split_at hjp
      have hlen := WF_6 hF
      have hq := nx_mem e
      have hv := WF_v hF q hq
      have rq := hR.1.2.2.2.2.2.1 pre.length q hjp
      have hrm : rm ln q.1 = pre ++ rest := by
        have := hF.2.2.2.2.2.2.2.1
        rw [hl] at this ⊢
        exact rm_split this
      have hl2 : (pre ++ rest).length ≤ f := by
        rw [hl] at h1
        simp at h1 ⊢
        omega
      have hF2 := WF_rm (o := q.1) hF
      rw [hrm] at hF2 kk
      simp (disch := omega) only [Nat.not_lt_zero, nneg, nneg2, nlt, nle, neq, nI_add, pk_mul, nsub, ncl, nin, and_true, true_and, not_true_eq_false, not_false_eq_true, ↓reduceIte, Nat.reduceAdd, rq.1, rq.2.1, rq.2.2]
      refine lvL_e hR hF.1 hl hlen hF.2.2.2.2.2.2.2.2.1 hFu (fun h1 hR1 hf1 => ?_)
      refine rgrant_e (o := q.1) (t := q.2.1) (m := q.2.2) hR1 hF.2.1 hF.1 (WF_6 hF2) hF.2.2.2.2.2.2.2.2.1 (by omega) hv (okA_up hF.2.1 hF.2.2.2.2.1 (by omega) hv.2.1 hv.2.2) (fun h2 hR2 hf2 => ?_)
      have hF3 := WF_up hF2 hv
      refine nextR_e hR2.1 hF3 (by omega) (by omega) (fun r hr => ?_)
      refine ih (c + 1) N (k + 1) (g + 1) _ _ h2 r hl2 (by omega) (by omega) hR2 hF3 hr (fun h3 hR3 hf3 => kk h3 ?_ (fm_tr hf1 (fm_tr hf2 hf3)))
      rw [show g + (svS W f (sft W C q.1 q.2.1 q.2.2 (· + 1)) (pre ++ rest) (k + 1)).2.2 - k = g + 1 + (svS W f (sft W C q.1 q.2.1 q.2.2 (· + 1)) (pre ++ rest) (k + 1)).2.2 - (k + 1) by omega]
      exact hR3
theorem serves_e {c F g : Nat} {C : CT} {ln : LN} {h : AH} {K : Int32 → AH → Prop} (hR : RM n W B C ln pl g h) (hF : WF c n W B C ln pl) (hFu : 40 ≤ F) (hc : c < 1800000000)
    (kk : ∀ h', RM n W B (sv W C ln).1 (sv W C ln).2.1 pl (g + (sv W C ln).2.2) h' → fm h h' → K (nI (sv W C ln).2.2) h') : P_X8_serves F h K := by
  unfold P_X8_serves
  refine nextR_e hR.1 hF (by omega) (by omega) (fun r hr => ?_)
  exact servR_l hFu 6 c F 0 g C ln h r (WF_6 hF) (by omega) (by omega) hR hF hr kk
theorem joinR_e {C : CT} {ln : LN} {h : AH} {g F o t m : Nat} {K : Int32 → AH → Prop} (hR : RM n W B C ln pl g h) (hv : vq n (o, t, m)) (hn : n ≤ 12) (hlen : ln.length < 6)
    (kk : ∀ h', RM n W B C (ln ++ [(o, t, m)]) pl g h' → fm h h' → K (nI 0) h') : X8_ask_c63 F K (nI o) (nI t) (nI m) h := by
  obtain ⟨⟨r0, rW, rB, rC, rL, rk, rP, rp⟩, rg⟩ := hR
  unfold X8_ask_c63
  have e1 : ∀ x y z, (up (up (up h 57 (26 + 3 * ln.length) x) 57 (26 + 3 * ln.length + 1) y) 57 (26 + 3 * ln.length + 2) z) 57 25 = nI ln.length := fun x y z => by rw [ucc (by omega), ucc (by omega), ucc (by omega)]; exact rL
  simp (disch := omega) only [rL, Nat.not_lt_zero, nneg, nneg2, nlt, nle, neq, nI_add, pk_mul, nsub, ncl, nin, and_true, true_and, not_true_eq_false, not_false_eq_true, ↓reduceIte, Nat.reduceAdd, e1]
  have fr' : fm h (up (up (up (up h 57 (26 + 3 * ln.length) (nI o)) 57 (26 + 3 * ln.length + 1) (nI t)) 57 (26 + 3 * ln.length + 2) (nI m)) 57 25 (nI (ln.length + 1))) := fm_tr (fm_tr (fm_tr fm_57 fm_57) fm_57) fm_57
  have oth : ∀ j, j ≠ 25 → (j < 26 + 3 * ln.length ∨ 26 + 3 * ln.length + 3 ≤ j) → (up (up (up (up h 57 (26 + 3 * ln.length) (nI o)) 57 (26 + 3 * ln.length + 1) (nI t)) 57 (26 + 3 * ln.length + 2) (nI m)) 57 25 (nI (ln.length + 1))) 57 j = h 57 j := fun j h1 h2 => by rw [ucc h1, ucc (by omega), ucc (by omega), ucc (by omega)]
  refine kk _ ⟨⟨?_, ?_, ?_, ?_, ?_, ?_, ?_, ?_⟩, by rw [fr'.2 4 |>.trans] <;> sorry⟩ fr'
  all_goals sorry
end RD
