/-! what holds between two calls -/
theorem RC_c {b n : Nat} {W B : Nat → Nat} {C : CT} {ln pl : LN} {g : Nat} {h h' : AH} (hR : RC b n W B C ln pl g h) (e : ∀ a, b ≤ a → a < b + 12 → a ≠ b + 11 → h' a = h a) (e0 : h' b 13 = nI g) : RC b n W B C ln pl g h' := by
  obtain ⟨r0, rW, rB, rC, rH, rL, rk, ra, rz, rP, rp, rg⟩ := hR
  unfold RC
  rw [e b (by omega) (by omega) (by omega)] at e0 ⊢
  rw [e (b + 1) (by omega) (by omega) (by omega), e (b + 2) (by omega) (by omega) (by omega), e (b + 3) (by omega) (by omega) (by omega), e (b + 4) (by omega) (by omega) (by omega), e (b + 5) (by omega) (by omega) (by omega), e (b + 6) (by omega) (by omega) (by omega), e (b + 7) (by omega) (by omega) (by omega), e (b + 8) (by omega) (by omega) (by omega), e (b + 9) (by omega) (by omega) (by omega), e (b + 10) (by omega) (by omega) (by omega)]
  exact ⟨r0, rW, rB, rC, rH, rL, rk, ra, rz, rP, rp, e0⟩
theorem RG_c {c n : Nat} {W B : Nat → Nat} {C : CT} {ln pl : LN} {h h' : AH} (hR : RG c n W B C ln pl h) (e : h' c = h c) : RG c n W B C ln pl h' := by
  unfold RG
  rw [e]
  exact hR
theorem RM_fr {b n : Nat} {W B : Nat → Nat} {C : CT} {ln pl : LN} {g : Nat} {h h' : AH} (hR : RM n W B C ln pl g h) (hf : fr b h h') (hb : b ≤ 25) : RM n W B C ln pl g h' :=
  ⟨RG_c hR.1 (hf 57 (by omega)), by rw [hf 56 (by omega)]; exact hR.2⟩
theorem RC_fm {b n : Nat} {W B : Nat → Nat} {C : CT} {ln pl : LN} {g : Nat} {h h' : AH} (hR : RC b n W B C ln pl g h) (hf : fm h h') (hb : b ≤ 25) : RC b n W B C ln pl g h' :=
  RC_c hR (fun a h1 h2 _ => hf.1 a (by omega) (by omega)) (by rw [hf.1 b (by omega) (by omega)]; exact hR.2.2.2.2.2.2.2.2.2.2.2)
theorem RC_fr {b b' n : Nat} {W B : Nat → Nat} {C : CT} {ln pl : LN} {g : Nat} {h h' : AH} (hR : RC b n W B C ln pl g h) (hf : fr b' h h') (hb : b + 12 ≤ b' ∨ b' + 12 ≤ b) : RC b n W B C ln pl g h' :=
  RC_c hR (fun a h1 h2 _ => hf a (by omega)) (by rw [hf b (by omega)]; exact hR.2.2.2.2.2.2.2.2.2.2.2)
/-- cells of the state that no work on the tables moves -/
def fcl (a : Nat) : Prop := a = 0 ∨ (25 ≤ a ∧ a < 37) ∨ (41 ≤ a ∧ a < 44) ∨ a = 45 ∨ a = 51 ∨ a = 52 ∨ a = 54 ∨ a = 55 ∨ (60 ≤ a ∧ a ≤ 62) ∨ (64 ≤ a ∧ a ≤ 68)
def fa (h h' : AH) : Prop := (∀ a, fcl a → h' a = h a) ∧ h' 44 0 = h 44 0 ∧ h' 56 16 = h 56 16 ∧ h' 56 24 = h 56 24 ∧ h' 56 28 = h 56 28
theorem fa_rf (h : AH) : fa h h := ⟨fun _ _ => rfl, rfl, rfl, rfl, rfl⟩
theorem fa_tr {h h1 h2 : AH} (a : fa h h1) (c : fa h1 h2) : fa h h2 :=
  ⟨fun i hi => (c.1 i hi).trans (a.1 i hi), c.2.1.trans a.2.1, c.2.2.1.trans a.2.2.1, c.2.2.2.1.trans a.2.2.2.1, c.2.2.2.2.trans a.2.2.2.2⟩
theorem fa_fr {b : Nat} {h h' : AH} (hf : fr b h h') (hb : 1 ≤ b) (hb2 : b ≤ 13) : fa h h' :=
  ⟨fun a ha => hf a (by unfold fcl at ha; omega), by rw [hf 44 (by omega)], by rw [hf 56 (by omega)], by rw [hf 56 (by omega)], by rw [hf 56 (by omega)]⟩
theorem fa_fm {h h' : AH} (hf : fm h h') : fa h h' :=
  ⟨fun a ha => hf.1 a (by unfold fcl at ha; omega) (by unfold fcl at ha; omega), by rw [hf.1 44 (by omega) (by omega)], hf.2 16 (by omega), hf.2 24 (by omega), hf.2 28 (by omega)⟩
theorem fa_up {i k : Nat} {x : Int32} {h : AH} (h1 : ¬ fcl i) (h2 : ¬ (i = 44 ∧ k = 0)) (h3 : i = 56 → k ≠ 16 ∧ k ≠ 24 ∧ k ≠ 28) : fa h (up h i k x) := by
  refine ⟨fun a ha => up_ne h i k x (fun e => h1 (e ▸ ha)), ?_, ?_, ?_, ?_⟩ <;> (rw [upr, if_neg]; intro e; omega)
/-- the kept state -/
def KP (n0 c : Nat) (h : AH) : Prop := h 0 3 = h 56 28 ∧ (h 0 3 = nI 0 ∨ (h 0 3 = nI 1 ∧ ∃ (n : Nat) (W B : Nat → Nat) (C : CT) (ln pl : LN) (g : Nat), n ≤ n0 ∧ RC 25 n W B C ln pl g h ∧ RG 68 n W B C ln pl h ∧ WF c n W B C ln pl))
def GT (n : Nat) (h : AH) : Prop := ∀ t, t < 12 → (t < n → h 41 t = h 60 t ∧ h 42 t = h 61 t) ∧ (n ≤ t → h 41 t = nI 0 ∧ h 42 t = nI 0) ∧ h 43 t = nI 0 ∧ h 62 t = nI 0
def TP (l : Nat) (h : AH) : Prop := l ≤ 120 ∧ h 44 0 = nI l ∧ h 56 16 = nI l ∧ ∀ i, i < l → h 45 i = h 64 i ∧ ∃ a, 1 ≤ a ∧ a ≤ 127 ∧ h 64 i = nI a
def PP (h : AH) : Prop := ∃ l, l ≤ 3960 ∧ h 51 0 = nI l ∧ h 56 24 = nI l ∧ ∀ i, i < l → h 52 i = h 65 i
def LSI (h : AH) : Prop := ∀ a, a < 3 → h 55 a = h 66 a ∧ (h 55 a = -1 ∨ ∃ s, s ≤ 36 ∧ h 55 a = nI s ∧ ∀ i, i < s → h 54 (a * 36 + i) = h 67 (36 * a + i))
def AX (n l c : Nat) (h : AH) : Prop := KP n c h ∧ GT n h ∧ TP l h ∧ PP h ∧ LSI h
theorem KP_fa {n0 c c' : Nat} {h h' : AH} (hk : KP n0 c h) (hf : fa h h') (hc : c ≤ c') : KP n0 c' h' := by
  obtain ⟨k1, k2⟩ := hk
  have e0 := hf.1 0 (Or.inl rfl)
  unfold KP
  rw [e0, hf.2.2.2.2]
  refine ⟨k1, ?_⟩
  rcases k2 with k2 | ⟨k2, n, W, B, C, ln, pl, g, hn, a, b, c⟩
  · exact Or.inl k2
  · refine Or.inr ⟨k2, n, W, B, C, ln, pl, g, hn, RC_c a (fun a h1 h2 _ => hf.1 a (by unfold fcl; omega)) ?_, RG_c b (hf.1 68 (by unfold fcl; omega)), WF_le c hc⟩
    rw [hf.1 25 (by unfold fcl; omega)]
    exact a.2.2.2.2.2.2.2.2.2.2.2
theorem GT_e {n : Nat} {h h' : AH} (hk : GT n h) (e : ∀ a, a = 41 ∨ a = 42 ∨ a = 43 ∨ a = 60 ∨ a = 61 ∨ a = 62 → h' a = h a) : GT n h' := by
  unfold GT
  rw [e 41 (by omega), e 42 (by omega), e 43 (by omega), e 60 (by omega), e 61 (by omega), e 62 (by omega)]
  exact hk
theorem AX_fa {n l c c' : Nat} {h h' : AH} (hk : AX n l c h) (hf : fa h h') (hc : c ≤ c') : AX n l c' h' := by
  obtain ⟨k1, k2, k3, k4, k5⟩ := hk
  refine ⟨KP_fa k1 hf hc, GT_e k2 (fun a ha => hf.1 a (by unfold fcl; omega)), ?_, ?_, ?_⟩
  · unfold TP
    rw [hf.2.1, hf.2.2.1, hf.1 45 (by unfold fcl; omega), hf.1 64 (by unfold fcl; omega)]
    exact k3
  · unfold PP
    rw [hf.2.2.2.1, hf.1 51 (by unfold fcl; omega), hf.1 52 (by unfold fcl; omega), hf.1 65 (by unfold fcl; omega)]
    exact k4
  · unfold LSI
    rw [hf.1 54 (by unfold fcl; omega), hf.1 55 (by unfold fcl; omega), hf.1 66 (by unfold fcl; omega), hf.1 67 (by unfold fcl; omega)]
    exact k5
def ST (m c l n : Nat) (W B : Nat → Nat) (C : CT) (ln pl : LN) (g : Nat) (h : AH) : Prop := RC 1 n W B C ln pl g h ∧ RM n W B C ln pl g h ∧ WF c n W B C ln pl ∧ AX n l c h ∧ c + 6 * l ≤ 12 * m ∧ m ≤ 513
def INV (m : Nat) (h : AH) : Prop := ∃ (c l n : Nat) (W B : Nat → Nat) (C : CT) (ln pl : LN) (g : Nat), ST m c l n W B C ln pl g h
theorem INV_s {m c l n : Nat} {W B : Nat → Nat} {C : CT} {ln pl : LN} {g : Nat} {h : AH} (hs : ST m c l n W B C ln pl g h) (hm : m < 513) : INV (m + 1) h :=
  ⟨c, l, n, W, B, C, ln, pl, g, hs.1, hs.2.1, hs.2.2.1, hs.2.2.2.1, by have := hs.2.2.2.2.1; omega, by omega⟩
/-- what a call that moves nothing of the state leaves -/
theorem ST_fa {m c l n : Nat} {W B : Nat → Nat} {C : CT} {ln pl : LN} {g : Nat} {h h' : AH} (hs : ST m c l n W B C ln pl g h) (h1 : RC 1 n W B C ln pl g h') (h2 : RM n W B C ln pl g h') (hf : fa h h') : ST m c l n W B C ln pl g h' :=
  ⟨h1, h2, hs.2.2.1, AX_fa hs.2.2.2.1 hf (Nat.le_refl _), hs.2.2.2.2⟩
/-- a step of both tables -/
theorem INV_t {m c l n : Nat} {W B : Nat → Nat} {C C' : CT} {ln ln' pl pl' : LN} {g g' : Nat} {h h1 h2 : AH} (hs : ST m c l n W B C ln pl g h) (hm : m < 513) (h3 : RC 1 n W B C' ln' pl' g' h1) (h4 : fr 1 h h1) (h5 : RM n W B C' ln' pl' g' h2) (h6 : fm h1 h2) (hF : WF (c + 12) n W B C' ln' pl') : INV (m + 1) h2 :=
  ⟨c + 12, l, n, W, B, C', ln', pl', g', RC_fm h3 h6 (by omega), h5, hF, AX_fa hs.2.2.2.1 (fa_tr (fa_fr h4 (by omega) (by omega)) (fa_fm h6)) (by omega), by have := hs.2.2.2.2.1; omega, by omega⟩
theorem ST_c {m c l n : Nat} {W B : Nat → Nat} {C : CT} {ln pl : LN} {g : Nat} {h : AH} (hs : ST m c l n W B C ln pl g h) : c < 10000 := by
  have h1 := hs.2.2.2.2.1
  have h2 := hs.2.2.2.2.2
  omega
def fcl2 (a : Nat) : Prop := (41 ≤ a ∧ a < 44) ∨ a = 45 ∨ a = 51 ∨ a = 52 ∨ a = 54 ∨ a = 55 ∨ (60 ≤ a ∧ a ≤ 62) ∨ (64 ≤ a ∧ a ≤ 67)
def fb (h h' : AH) : Prop := (∀ a, fcl2 a → h' a = h a) ∧ h' 44 0 = h 44 0 ∧ h' 56 16 = h 56 16 ∧ h' 56 24 = h 56 24
theorem fb_tr {h h1 h2 : AH} (a : fb h h1) (c : fb h1 h2) : fb h h2 :=
  ⟨fun i hi => (c.1 i hi).trans (a.1 i hi), c.2.1.trans a.2.1, c.2.2.1.trans a.2.2.1, c.2.2.2.trans a.2.2.2⟩
theorem fb_fr {b : Nat} {h h' : AH} (hf : fr b h h') (hb2 : b ≤ 25) : fb h h' :=
  ⟨fun a ha => hf a (by unfold fcl2 at ha; omega), by rw [hf 44 (by omega)], by rw [hf 56 (by omega)], by rw [hf 56 (by omega)]⟩
theorem fb_ne {p : Nat} {h h' : AH} (hf : ∀ a, a ≠ p → h' a = h a) (hp : p = 57 ∨ p = 58 ∨ p = 59 ∨ p = 68) : fb h h' :=
  ⟨fun a ha => hf a (by unfold fcl2 at ha; omega), by rw [hf 44 (by omega)], by rw [hf 56 (by omega)], by rw [hf 56 (by omega)]⟩
theorem fb_up {i k : Nat} {x : Int32} {h : AH} (h1 : ¬ fcl2 i) (h2 : ¬ (i = 44 ∧ k = 0)) (h3 : i = 56 → k ≠ 16 ∧ k ≠ 24) : fb h (up h i k x) := by
  refine ⟨fun a ha => up_ne h i k x (fun e => h1 (e ▸ ha)), ?_, ?_, ?_⟩ <;> (rw [upr, if_neg]; intro e; omega)
def AY (n l : Nat) (h : AH) : Prop := GT n h ∧ TP l h ∧ PP h ∧ LSI h
theorem AY_fb {n l : Nat} {h h' : AH} (hk : AY n l h) (hf : fb h h') : AY n l h' := by
  obtain ⟨k2, k3, k4, k5⟩ := hk
  refine ⟨GT_e k2 (fun a ha => hf.1 a (by unfold fcl2; omega)), ?_, ?_, ?_⟩
  · unfold TP
    rw [hf.2.1, hf.2.2.1, hf.1 45 (by unfold fcl2; omega), hf.1 64 (by unfold fcl2; omega)]
    exact k3
  · unfold PP
    rw [hf.2.2.2, hf.1 51 (by unfold fcl2; omega), hf.1 52 (by unfold fcl2; omega), hf.1 65 (by unfold fcl2; omega)]
    exact k4
  · unfold LSI
    rw [hf.1 54 (by unfold fcl2; omega), hf.1 55 (by unfold fcl2; omega), hf.1 66 (by unfold fcl2; omega), hf.1 67 (by unfold fcl2; omega)]
    exact k5
theorem KP_e {n0 n1 c : Nat} {h h' : AH} (hk : KP n0 c h) (hn : n0 ≤ n1) (e0 : h' 0 = h 0) (e1 : ∀ a, 25 ≤ a → a < 37 → h' a = h a) (e2 : h' 68 = h 68) (e3 : h' 56 28 = h 56 28) : KP n1 c h' := by
  obtain ⟨p1, p2⟩ := hk
  unfold KP
  rw [e0, e3]
  refine ⟨p1, ?_⟩
  rcases p2 with p2 | ⟨p2, n, W, B, C, ln, pl, g, hnn, a, b, c⟩
  · exact Or.inl p2
  · refine Or.inr ⟨p2, n, W, B, C, ln, pl, g, by omega, RC_c a (fun a h1 h2 _ => e1 a (by omega) (by omega)) ?_, RG_c b e2, c⟩
    rw [e1 25 (by omega) (by omega)]
    exact a.2.2.2.2.2.2.2.2.2.2.2
