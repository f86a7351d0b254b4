/-! the law: all calls of a script, one by one -/
theorem INV_m {m : Nat} {h : AH} (hI : INV m h) (hm : m < 513) : INV (m + 1) h := by
  obtain ⟨c, l, n, W, B, C, ln, pl, g, hs⟩ := hI
  exact INV_s hs hm
theorem INV_0 : INV 0 hI := by
  have z : ∀ a, a ≠ 55 → a ≠ 66 → hI a = fun _ => 0 := fun a h1 h2 => by
    unfold hI
    exact if_neg (by omega)
  have zk : ∀ a k, a ≠ 55 → a ≠ 66 → hI a k = nI 0 := fun a k h1 h2 => by rw [z a h1 h2]; rfl
  have e5 : hI 55 = szI := if_pos (Or.inl rfl)
  have e6 : hI 66 = szI := if_pos (Or.inr rfl)
  refine ⟨0, 0, 0, fun _ => 0, fun _ => 0, fun _ _ _ => 0, [], [], 0, ⟨zk 1 0 (by omega) (by omega), fun t ht => by omega, fun t ht => by omega, fun t o m _ _ _ _ => zk 4 _ (by omega) (by omega), fun t m _ _ _ => ?_, zk 1 5 (by omega) (by omega), (fun k q hq => by simp at hq), (fun q hq => by cases hq), fun o _ _ => zk 8 o (by omega) (by omega), zk 1 9 (by omega) (by omega), (fun k q hq => by simp at hq), zk 1 13 (by omega) (by omega)⟩, ⟨⟨zk 57 0 (by omega) (by omega), fun t ht => by omega, fun t ht => by omega, fun t o m ht _ _ _ => by omega, zk 57 25 (by omega) (by omega), (fun k q hq => by simp at hq), zk 57 44 (by omega) (by omega), (fun k q hq => by simp at hq)⟩, zk 56 4 (by omega) (by omega)⟩, ⟨by omega, fun t ht => by omega, fun t ht => by omega, fun _ _ _ _ => rfl, fun _ _ _ => Nat.le_refl _, fun t o ht => by omega, (fun q hq => by cases hq), List.nodup_nil, Nat.zero_le _, (fun q hq => by cases hq)⟩, ⟨⟨?_, Or.inl (zk 0 3 (by omega) (by omega))⟩, fun t ht => ⟨fun h => by omega, fun _ => ⟨zk 41 t (by omega) (by omega), zk 42 t (by omega) (by omega)⟩, zk 43 t (by omega) (by omega), zk 62 t (by omega) (by omega)⟩, ⟨by omega, zk 44 0 (by omega) (by omega), zk 56 16 (by omega) (by omega), fun i hi => by omega⟩, ⟨0, by omega, zk 51 0 (by omega) (by omega), zk 56 24 (by omega) (by omega), fun i hi => by omega⟩, fun a ha => ?_⟩, by omega, by omega⟩
  · rw [zk 5 _ (by omega) (by omega)]
    rw [show mk6 (fun o => decide (0 < (fun _ _ _ => 0 : CT) t o m)) = 0 from mk6_z.mpr (fun _ _ => rfl)]
  · rw [zk 0 3 (by omega) (by omega), zk 56 28 (by omega) (by omega)]
  · rw [e5, e6]
    have : szI a = -1 := by
      rcases (show a = 0 ∨ a = 1 ∨ a = 2 by omega) with rfl | rfl | rfl <;> rfl
    exact ⟨rfl, Or.inl this⟩
theorem law_out : ∀ L, L < 4 → (Int32.ofNat L - nI 4 < nI 0) := by decide
theorem law_l {F L : Nat} {xs : Nat → Int32} {K : Int32 → AH → Prop} (hFu : 500 ≤ F) (hL : L ≤ 2048) (kk : ∀ h, K (nI 1) h) : ∀ (d N i : Nat) (h : AH), i + d = 513 → d + 1 ≤ N → INV i h → (i = 0 ∨ 4 * i ≤ L) → L_law_c18 F L xs K N (nI (4 * i)) h := by
  intro d
  induction d with
  | zero => intro N i h h1 h2 h3 h4; omega
  | succ d ih =>
    intro N i h h1 h2 h3 h4
    obtain ⟨N, rfl⟩ : ∃ k, N = k + 1 := ⟨N - 1, by omega⟩
    have hm : i < 513 := by omega
    rw [L_law_c18_s]
    by_cases hx : L < 4 * i + 4
    · refine ifp ?_ (kk h)
      by_cases h5 : L < 4
      · have h0 : i = 0 := by omega
        subst h0
        exact law_out L h5
      · show nI L - nI 4 < nI (4 * i)
        rw [nsub (by omega), nlt (by omega) (by omega)]
        omega
    · refine ifn (by show ¬ nI L - nI 4 < nI (4 * i); rw [nsub (by omega), nlt (by omega) (by omega)]; omega) ?_
      have v1 : vp_in (nI (4 * i) + nI 1) L = True := by rw [nI_add]; exact nin (by omega) (by omega)
      have v2 : vp_in (nI (4 * i) + nI 2) L = True := by rw [nI_add]; exact nin (by omega) (by omega)
      have v3 : vp_in (nI (4 * i) + nI 3) L = True := by rw [nI_add]; exact nin (by omega) (by omega)
      refine ⟨vp_in_nI (by omega) (by omega), ?_⟩
      have go : ∀ h', INV (i + 1) h' → L_law_c1234 F L xs (L_law_c18 F L xs K N) K (nI (4 * i)) h' := fun h' hI => by
        unfold L_law_c1234
        rw [nI_add, show 4 * i + 4 = 4 * (i + 1) by omega]
        exact ih N (i + 1) h' (by omega) (by omega) hI (Or.inr (by omega))
      revert go
      generalize L_law_c18 F L xs K N = rc
      intro go
      generalize xs (nI (4 * i)).toNatClampNeg &&& nI 63 = w
      by_cases e0 : w = nI 0
      · refine ifp e0 ?_
        simp only [v1, v2, v3, true_and]
        exact call_thing (G := fun h3 => L_law_c1234 F L xs rc K (nI (4 * i)) h3) (Z := fun h3 => K (nI 0) h3) hFu h3 hm go
      refine ifn e0 ?_
      by_cases e1 : w = nI 1
      · refine ifp e1 ?_
        simp only [v1, v2, v3, true_and]
        exact call_thingOf (G := fun h3 => L_law_c1234 F L xs rc K (nI (4 * i)) h3) (Z := fun h3 => K (nI 0) h3) hFu h3 hm go
      refine ifn e1 ?_
      by_cases e2 : w = nI 2
      · refine ifp e2 ?_
        simp only [v1, v2, v3, true_and]
        exact call_ask (G := fun h3 => L_law_c1234 F L xs rc K (nI (4 * i)) h3) (Z := fun h3 => K (nI 0) h3) hFu h3 hm go
      refine ifn e2 ?_
      by_cases e3 : w = nI 3
      · refine ifp e3 ?_
        simp only [v1, v2, v3, true_and]
        exact call_give (G := fun h3 => L_law_c1234 F L xs rc K (nI (4 * i)) h3) (Z := fun h3 => K (nI 0) h3) hFu h3 hm go
      refine ifn e3 ?_
      by_cases e4 : w = nI 4
      · refine ifp e4 ?_
        simp only [v1, v2, v3, true_and]
        exact call_leaves (G := fun h3 => L_law_c1234 F L xs rc K (nI (4 * i)) h3) (Z := fun h3 => K (nI 0) h3) hFu h3 hm go
      refine ifn e4 ?_
      by_cases e5 : w = nI 5
      · refine ifp e5 ?_
        simp only [v1, v2, v3, true_and]
        exact call_forgets (G := fun h3 => L_law_c1234 F L xs rc K (nI (4 * i)) h3) (Z := fun h3 => K (nI 0) h3) hFu h3 hm go
      refine ifn e5 ?_
      by_cases e6 : w = nI 6
      · refine ifp e6 ?_
        exact call_breaks (G := fun h3 => L_law_c1234 F L xs rc K (nI (4 * i)) h3) (Z := fun h3 => K (nI 0) h3) hFu h3 hm go
      refine ifn e6 ?_
      by_cases e7 : w = nI 7
      · refine ifp e7 ?_
        simp only [v1, v2, v3, true_and]
        exact call_held (G := fun h3 => L_law_c1234 F L xs rc K (nI (4 * i)) h3) (Z := fun h3 => K (nI 0) h3) h3 hm go
      refine ifn e7 ?_
      by_cases e8 : w = nI 8
      · refine ifp e8 ?_
        simp only [v1, v2, v3, true_and]
        exact call_holders (G := fun h3 => L_law_c1234 F L xs rc K (nI (4 * i)) h3) (Z := fun h3 => K (nI 0) h3) hFu h3 hm go
      refine ifn e8 ?_
      by_cases e9 : w = nI 9
      · refine ifp e9 ?_
        simp only [v1, v2, v3, true_and]
        exact call_waits (G := fun h3 => L_law_c1234 F L xs rc K (nI (4 * i)) h3) (Z := fun h3 => K (nI 0) h3) hFu h3 hm go
      refine ifn e9 ?_
      by_cases e10 : w = nI 10
      · refine ifp e10 ?_
        simp only [v1, v2, v3, true_and]
        exact call_line (G := fun h3 => L_law_c1234 F L xs rc K (nI (4 * i)) h3) (Z := fun h3 => K (nI 0) h3) h3 hm go
      refine ifn e10 ?_
      by_cases e11 : w = nI 11
      · refine ifp e11 ?_
        simp only [v1, v2, v3, true_and]
        exact call_waitsFor (G := fun h3 => L_law_c1234 F L xs rc K (nI (4 * i)) h3) (Z := fun h3 => K (nI 0) h3) hFu h3 hm go
      refine ifn e11 ?_
      by_cases e12 : w = nI 12
      · refine ifp e12 ?_
        simp only [v1, v2, v3, true_and]
        exact call_ring (G := fun h3 => L_law_c1234 F L xs rc K (nI (4 * i)) h3) (Z := fun h3 => K (nI 0) h3) hFu h3 hm go
      refine ifn e12 ?_
      by_cases e13 : w = nI 13
      · refine ifp e13 ?_
        simp only [v1, v2, v3, true_and]
        exact call_count (G := fun h3 => L_law_c1234 F L xs rc K (nI (4 * i)) h3) (Z := fun h3 => K (nI 0) h3) hFu h3 hm go
      refine ifn e13 ?_
      by_cases e14 : w = nI 14
      · refine ifp e14 ?_
        simp only [v1, v2, v3, true_and]
        exact call_would (G := fun h3 => L_law_c1234 F L xs rc K (nI (4 * i)) h3) (Z := fun h3 => K (nI 0) h3) hFu h3 hm go
      refine ifn e14 ?_
      by_cases e15 : w = nI 15
      · refine ifp e15 ?_
        simp only [v1, v2, v3, true_and]
        exact call_needs (G := fun h3 => L_law_c1234 F L xs rc K (nI (4 * i)) h3) (Z := fun h3 => K (nI 0) h3) hFu h3 hm go
      refine ifn e15 ?_
      by_cases e16 : w = nI 16
      · refine ifp e16 ?_
        simp only [v1, v2, v3, true_and]
        exact call_strongest (G := fun h3 => L_law_c1234 F L xs rc K (nI (4 * i)) h3) (Z := fun h3 => K (nI 0) h3) hFu h3 hm go
      refine ifn e16 ?_
      by_cases e17 : w = nI 17
      · refine ifp e17 ?_
        simp only [v1, v2, v3, true_and]
        exact call_plan (G := fun h3 => L_law_c1234 F L xs rc K (nI (4 * i)) h3) (Z := fun h3 => K (nI 0) h3) hFu h3 hm go
      refine ifn e17 ?_
      by_cases e18 : w = nI 18
      · refine ifp e18 ?_
        simp only [v1, v2, v3, true_and]
        exact call_plays (G := fun h3 => L_law_c1234 F L xs rc K (nI (4 * i)) h3) (Z := fun h3 => K (nI 0) h3) hFu h3 hm go
      refine ifn e18 ?_
      by_cases e19 : w = nI 19
      · refine ifp e19 ?_
        simp only [v1, v2, v3, true_and]
        exact call_lots (G := fun h3 => L_law_c1234 F L xs rc K (nI (4 * i)) h3) (Z := fun h3 => K (nI 0) h3) hFu h3 hm go
      refine ifn e19 ?_
      by_cases e20 : w = nI 20
      · refine ifp e20 ?_
        simp only [v1, v2, v3, true_and]
        exact call_weighs (G := fun h3 => L_law_c1234 F L xs rc K (nI (4 * i)) h3) (Z := fun h3 => K (nI 0) h3) hFu h3 hm go
      refine ifn e20 ?_
      by_cases e21 : w = nI 21
      · refine ifp e21 ?_
        simp only [v1, v2, v3, true_and]
        exact call_plunges (G := fun h3 => L_law_c1234 F L xs rc K (nI (4 * i)) h3) (Z := fun h3 => K (nI 0) h3) hFu h3 hm go
      refine ifn e21 ?_
      by_cases e22 : w = nI 22
      · refine ifp e22 ?_
        simp only [v1, v2, v3, true_and]
        exact call_bell (G := fun h3 => L_law_c1234 F L xs rc K (nI (4 * i)) h3) (Z := fun h3 => K (nI 0) h3) h3 hm go
      refine ifn e22 ?_
      by_cases e23 : w = nI 23
      · refine ifp e23 ?_
        simp only [v1, v2, v3, true_and]
        exact call_gate (G := fun h3 => L_law_c1234 F L xs rc K (nI (4 * i)) h3) (Z := fun h3 => K (nI 0) h3) h3 hm go
      refine ifn e23 ?_
      by_cases e24 : w = nI 24
      · refine ifp e24 ?_
        simp only [v1, v2, v3, true_and]
        exact call_feed (G := fun h3 => L_law_c1234 F L xs rc K (nI (4 * i)) h3) (Z := fun h3 => K (nI 0) h3) h3 hm go
      refine ifn e24 ?_
      by_cases e25 : w = nI 25
      · refine ifp e25 ?_
        exact call_reads (G := fun h3 => L_law_c1234 F L xs rc K (nI (4 * i)) h3) (Z := fun h3 => K (nI 0) h3) hFu h3 hm go
      refine ifn e25 ?_
      by_cases e26 : w = nI 26
      · refine ifp e26 ?_
        exact call_spells (G := fun h3 => L_law_c1234 F L xs rc K (nI (4 * i)) h3) (Z := fun h3 => K (nI 0) h3) hFu h3 hm go
      refine ifn e26 ?_
      by_cases e27 : w = nI 27
      · refine ifp e27 ?_
        simp only [v1, v2, v3, true_and]
        exact call_paper (G := fun h3 => L_law_c1234 F L xs rc K (nI (4 * i)) h3) (Z := fun h3 => K (nI 0) h3) h3 hm go
      refine ifn e27 ?_
      by_cases e28 : w = nI 28
      · refine ifp e28 ?_
        simp only [v1, v2, v3, true_and]
        exact call_list (G := fun h3 => L_law_c1234 F L xs rc K (nI (4 * i)) h3) (Z := fun h3 => K (nI 0) h3) hFu h3 hm go
      refine ifn e28 ?_
      by_cases e29 : w = nI 29
      · refine ifp e29 ?_
        simp only [v1, v2, v3, true_and]
        exact call_set (G := fun h3 => L_law_c1234 F L xs rc K (nI (4 * i)) h3) (Z := fun h3 => K (nI 0) h3) h3 hm go
      refine ifn e29 ?_
      by_cases e30 : w = nI 30
      · refine ifp e30 ?_
        simp only [v1, v2, v3, true_and]
        exact call_get (G := fun h3 => L_law_c1234 F L xs rc K (nI (4 * i)) h3) (Z := fun h3 => K (nI 0) h3) h3 hm go
      refine ifn e30 ?_
      by_cases e31 : w = nI 31
      · refine ifp e31 ?_
        simp only [v1, v2, v3, true_and]
        exact call_does (G := fun h3 => L_law_c1234 F L xs rc K (nI (4 * i)) h3) (Z := fun h3 => K (nI 0) h3) hFu h3 hm go
      refine ifn e31 ?_
      by_cases e32 : w = nI 32
      · refine ifp e32 ?_
        simp only [v1, v2, v3, true_and]
        exact call_into (G := fun h3 => L_law_c1234 F L xs rc K (nI (4 * i)) h3) (Z := fun h3 => K (nI 0) h3) hFu h3 hm go
      refine ifn e32 ?_
      by_cases e33 : w = nI 33
      · refine ifp e33 ?_
        exact call_image (G := fun h3 => L_law_c1234 F L xs rc K (nI (4 * i)) h3) (Z := fun h3 => K (nI 0) h3) hFu h3 hm go
      refine ifn e33 ?_
      by_cases e34 : w = nI 34
      · refine ifp e34 ?_
        exact call_back (G := fun h3 => L_law_c1234 F L xs rc K (nI (4 * i)) h3) (Z := fun h3 => K (nI 0) h3) hFu h3 hm go
      refine ifn e34 ?_
      exact go h (INV_m h3 hm)
theorem law_math (L : Nat) (hL : L ≤ 2048) (xs : Nat → Int32) : P_L_law 2000 L xs hI (fun r _ => r = 1) := by
  unfold P_L_law
  exact law_l (by omega) hL (fun _ => rfl) 513 2000 0 hI (by omega) (by omega) INV_0 (Or.inl rfl)
