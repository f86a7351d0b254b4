/-! the spec's own facts: the way up, the sums, the bounds -/
theorem ch_lt (W : Nat → Nat) {n : Nat} (hW : ∀ t, t < n → W t ≤ t) : ∀ (f c : Nat), c ≤ n → ∀ w ∈ ch W f c, w < c
  | 0, _, _, w, h => by simp [ch] at h
  | f + 1, 0, _, w, h => by simp [ch] at h
  | f + 1, c + 1, hc, w, h => by
    simp only [ch, List.mem_cons] at h
    rcases h with rfl | h
    · omega
    · have h1 := hW c (by omega)
      have := ch_lt W hW f (W c) (by omega) w h
      omega
theorem ch_nd (W : Nat → Nat) {n : Nat} (hW : ∀ t, t < n → W t ≤ t) : ∀ (f c : Nat), c ≤ n → (ch W f c).Nodup
  | 0, _, _ => by simp [ch]
  | f + 1, 0, _ => by simp [ch]
  | f + 1, c + 1, hc => by
    have h1 := hW c (by omega)
    simp only [ch, List.nodup_cons]
    exact ⟨fun q => by have := ch_lt W hW f (W c) (by omega) c q; omega, ch_nd W hW f (W c) (by omega)⟩
theorem shL_val (o k : Nat) (f : Nat → Nat) : ∀ (ws : List Nat) (C : CT), ws.Nodup → ∀ t' o' k', shL o k f ws C t' o' k' = if o' = o ∧ k' = k ∧ t' ∈ ws then f (C t' o' k') else C t' o' k'
  | [], C, _, t', o', k' => by simp [shL]
  | w :: ws, C, hn, t', o', k' => by
    have hn2 := List.nodup_cons.mp hn
    rw [shL, shL_val o k f ws _ hn2.2 t' o' k']
    by_cases e : o' = o ∧ k' = k
    · obtain ⟨rfl, rfl⟩ := e
      by_cases e2 : t' = w
      · subst e2
        simp [sh1, hn2.1]
      · simp [sh1, e2]
    · have e3 : ¬ (o' = o ∧ k' = k ∧ t' ∈ ws) := fun q => e ⟨q.1, q.2.1⟩
      have e4 : ¬ (o' = o ∧ k' = k ∧ t' ∈ w :: ws) := fun q => e ⟨q.1, q.2.1⟩
      have e5 : ¬ (t' = w ∧ o' = o ∧ k' = k) := fun q => e q.2
      rw [if_neg e3, if_neg e4]
      simp [sh1, e5]
theorem sft_val {W : Nat → Nat} {n : Nat} (hW : ∀ t, t < n → W t ≤ t) {C : CT} {o t m : Nat} {f : Nat → Nat} (ht : t < n) (hm : m = 2 ∨ m = 4 ∨ m = 5) (t' o' k' : Nat) :
    sft W C o t m f t' o' k' = if o' = o ∧ ((k' = ab m ∧ t' ∈ chn W t) ∨ (k' = m ∧ t' = t)) then f (C t' o' k') else C t' o' k' := by
  have hwc := hW t ht
  unfold sft
  rw [shL_val o (ab m) f (chn W t) _ (ch_nd W hW 12 (W t) (by omega))]
  have hne : ab m ≠ m := by unfold ab; split <;> omega
  show (if o' = o ∧ k' = ab m ∧ t' ∈ chn W t then _ else _) = _
  by_cases e : o' = o
  · subst e
    by_cases e2 : k' = ab m
    · subst e2
      have e3 : ¬ ab m = m := hne
      by_cases e4 : t' ∈ chn W t <;> simp [sh1, e3, e4]
    · by_cases e3 : k' = m
      · subst e3
        by_cases e4 : t' = t <;> simp [sh1, e2, e4]
      · simp [sh1, e2, e3]
  · simp [sh1, e]
theorem okS_of {by' : Int32} {f : Nat → Nat} {o k : Nat} : ∀ (ws : List Nat) (C : CT), ws.Nodup → (∀ w ∈ ws, nI (C w o k) + by' = nI (f (C w o k)) ∧ f (C w o k) < 2147483648) → okS by' f o k ws C
  | [], _, _, _ => trivial
  | w :: ws, C, hn, h => by
    have hn2 := List.nodup_cons.mp hn
    refine ⟨h w List.mem_cons_self, okS_of ws _ hn2.2 (fun v hv => ?_)⟩
    have hne : ¬ v = w := fun e => hn2.1 (e ▸ hv)
    have : sh1 C o w k f v o k = C v o k := by simp [sh1, hne]
    rw [this]
    exact h v (List.mem_cons_of_mem _ hv)
theorem okA_up {W : Nat → Nat} {n c : Nat} (hW : ∀ t, t < n → W t ≤ t) {C : CT} (hC : ∀ t o m, C t o m ≤ c) (hc : c < 2000000000) {o t m : Nat} (ht : t < n) (hm : m = 2 ∨ m = 4 ∨ m = 5) : okA W C o t m (nI 1) (· + 1) := by
  have hwc := hW t ht
  have h0 := hC t o m
  refine ⟨⟨nI_add _ _, by show C t o m + 1 < _; omega⟩, okS_of _ _ (ch_nd W hW 12 (W t) (by omega)) (fun w hw => ⟨nI_add _ _, ?_⟩)⟩
  have := sh1_le (o := o) (t := t) (k := m) hC w o (ab m)
  show sh1 C o t m (· + 1) w o (ab m) + 1 < _
  omega
theorem sumTo_cong {f g : Nat → Nat} : ∀ n, (∀ p, p < n → f p = g p) → sumTo f n = sumTo g n
  | 0, _ => rfl
  | n + 1, h => by rw [sumTo, sumTo, sumTo_cong n (fun p hp => h p (by omega)), h n (by omega)]
theorem sumTo_1 {f g : Nat → Nat} {w : Nat} (hne : ∀ p, p ≠ w → g p = f p) : ∀ n, w < n → sumTo g n + f w = sumTo f n + g w
  | 0, h => by omega
  | n + 1, h => by
    by_cases e : w = n
    · subst e
      rw [sumTo, sumTo, sumTo_cong w (fun p hp => hne p (by omega))]
      omega
    · have := sumTo_1 hne n (by omega)
      rw [sumTo, sumTo, hne n (Ne.symm e)]
      omega
theorem sumTo_le {f : Nat → Nat} {w : Nat} : ∀ n, w < n → f w ≤ sumTo f n
  | 0, h => by omega
  | n + 1, h => by
    rw [sumTo]
    by_cases e : w = n
    · subst e; omega
    · have := sumTo_le (f := f) n (show w < n by omega)
      omega
def S1 (n : Nat) (W : Nat → Nat) (C : CT) (t o : Nat) : Nat := sumTo (fun p => if W p = t + 1 then C p o 1 + C p o 2 else 0) n
def S3 (n : Nat) (W : Nat → Nat) (C : CT) (t o : Nat) : Nat := sumTo (fun p => if W p = t + 1 then C p o 3 + C p o 4 + C p o 5 else 0) n
/-- the sums hold but at one place, where a and b are wanting -/
def OFF (n : Nat) (W : Nat → Nat) (C : CT) (o c j a b : Nat) : Prop := ∀ t o', t < n → o' < 6 →
  C t o' 1 + (if t + 1 = c ∧ o' = o ∧ j = 1 then a else 0) = S1 n W C t o' + (if t + 1 = c ∧ o' = o ∧ j = 1 then b else 0) ∧
  C t o' 3 + (if t + 1 = c ∧ o' = o ∧ j = 3 then a else 0) = S3 n W C t o' + (if t + 1 = c ∧ o' = o ∧ j = 3 then b else 0)
theorem S1_sh {n : Nat} {W : Nat → Nat} {C : CT} {o w k : Nat} {f : Nat → Nat} (hw : w < n) (t o' : Nat) :
    S1 n W (sh1 C o w k f) t o' + (if W w = t + 1 ∧ o' = o ∧ (k = 1 ∨ k = 2) then C w o k else 0) = S1 n W C t o' + (if W w = t + 1 ∧ o' = o ∧ (k = 1 ∨ k = 2) then f (C w o k) else 0) := by
  have := sumTo_1 (f := fun p => if W p = t + 1 then C p o' 1 + C p o' 2 else 0) (g := fun p => if W p = t + 1 then sh1 C o w k f p o' 1 + sh1 C o w k f p o' 2 else 0) (w := w) (fun p hp => by simp [sh1, hp]) n hw
  unfold S1
  by_cases e : W w = t + 1 ∧ o' = o ∧ (k = 1 ∨ k = 2)
  · obtain ⟨e1, rfl, e3⟩ := e
    simp only [e1, if_true, true_and] at this ⊢
    rcases e3 with rfl | rfl
    · simp [sh1] at this ⊢
      omega
    · simp [sh1] at this ⊢
      omega
  · rw [if_neg e, if_neg e]
    have h2 : (if W w = t + 1 then sh1 C o w k f w o' 1 + sh1 C o w k f w o' 2 else 0) = (if W w = t + 1 then C w o' 1 + C w o' 2 else 0) := by
      by_cases e1 : W w = t + 1
      · rw [if_pos e1, if_pos e1]
        have a1 : ¬ (w = w ∧ o' = o ∧ 1 = k) := fun q => e ⟨e1, q.2.1, Or.inl q.2.2.symm⟩
        have a2 : ¬ (w = w ∧ o' = o ∧ 2 = k) := fun q => e ⟨e1, q.2.1, Or.inr q.2.2.symm⟩
        unfold sh1
        rw [if_neg a1, if_neg a2]
      · rw [if_neg e1, if_neg e1]
    simp only [h2] at this
    omega
theorem S3_sh {n : Nat} {W : Nat → Nat} {C : CT} {o w k : Nat} {f : Nat → Nat} (hw : w < n) (t o' : Nat) :
    S3 n W (sh1 C o w k f) t o' + (if W w = t + 1 ∧ o' = o ∧ (k = 3 ∨ k = 4 ∨ k = 5) then C w o k else 0) = S3 n W C t o' + (if W w = t + 1 ∧ o' = o ∧ (k = 3 ∨ k = 4 ∨ k = 5) then f (C w o k) else 0) := by
  have := sumTo_1 (f := fun p => if W p = t + 1 then C p o' 3 + C p o' 4 + C p o' 5 else 0) (g := fun p => if W p = t + 1 then sh1 C o w k f p o' 3 + sh1 C o w k f p o' 4 + sh1 C o w k f p o' 5 else 0) (w := w) (fun p hp => by simp [sh1, hp]) n hw
  unfold S3
  by_cases e : W w = t + 1 ∧ o' = o ∧ (k = 3 ∨ k = 4 ∨ k = 5)
  · obtain ⟨e1, rfl, e3⟩ := e
    simp only [e1, if_true, true_and] at this ⊢
    rcases e3 with rfl | rfl | rfl <;> (simp [sh1] at this ⊢; omega)
  · rw [if_neg e, if_neg e]
    have h2 : (if W w = t + 1 then sh1 C o w k f w o' 3 + sh1 C o w k f w o' 4 + sh1 C o w k f w o' 5 else 0) = (if W w = t + 1 then C w o' 3 + C w o' 4 + C w o' 5 else 0) := by
      by_cases e1 : W w = t + 1
      · rw [if_pos e1, if_pos e1]
        have a1 : ¬ (w = w ∧ o' = o ∧ 3 = k) := fun q => e ⟨e1, q.2.1, Or.inl q.2.2.symm⟩
        have a2 : ¬ (w = w ∧ o' = o ∧ 4 = k) := fun q => e ⟨e1, q.2.1, Or.inr (Or.inl q.2.2.symm)⟩
        have a3 : ¬ (w = w ∧ o' = o ∧ 5 = k) := fun q => e ⟨e1, q.2.1, Or.inr (Or.inr q.2.2.symm)⟩
        unfold sh1
        rw [if_neg a1, if_neg a2, if_neg a3]
      · rw [if_neg e1, if_neg e1]
    simp only [h2] at this
    omega
/-- what a step at w in mode k does: what was off at w is right, what is above is off -/
theorem OFF_step {n : Nat} {W : Nat → Nat} {C : CT} {o w j a b : Nat} {f : Nat → Nat} (hw : w < n) (hj : j = 1 ∨ j = 3) (hW : ∀ t, t < n → W t ≤ t) (hf : f (C w o j) + b = C w o j + a) (h : OFF n W C o (w + 1) j a b) : OFF n W (sh1 C o w j f) o (W w) j a b := by
  intro t o' ht ho'
  have h1 := S1_sh (C := C) (o := o) (k := j) (f := f) (W := W) hw t o'
  have h3 := S3_sh (C := C) (o := o) (k := j) (f := f) (W := W) hw t o'
  obtain ⟨g1, g3⟩ := h t o' ht ho'
  have hww := hW w hw
  have e1 : sh1 C o w j f t o' 1 = if t = w ∧ o' = o ∧ j = 1 then f (C w o j) else C t o' 1 := by
    unfold sh1
    by_cases e : t = w ∧ o' = o ∧ j = 1
    · rw [if_pos e, if_pos ⟨e.1, e.2.1, e.2.2.symm⟩]
    · rw [if_neg e, if_neg (fun q => e ⟨q.1, q.2.1, q.2.2.symm⟩)]
  have e3 : sh1 C o w j f t o' 3 = if t = w ∧ o' = o ∧ j = 3 then f (C w o j) else C t o' 3 := by
    unfold sh1
    by_cases e : t = w ∧ o' = o ∧ j = 3
    · rw [if_pos e, if_pos ⟨e.1, e.2.1, e.2.2.symm⟩]
    · rw [if_neg e, if_neg (fun q => e ⟨q.1, q.2.1, q.2.2.symm⟩)]
  rw [e1, e3]
  by_cases eo : o' = o
  · subst eo
    by_cases et : t = w
    · subst et
      have en : ¬ W t = t + 1 := by omega
      have en2 : ¬ t + 1 = W t := by omega
      rcases hj with rfl | rfl <;> simp [en, en2] at h1 h3 g1 g3 ⊢ <;> omega
    · have en : ¬ t + 1 = w + 1 := by omega
      by_cases ep : W w = t + 1
      · rcases hj with rfl | rfl <;> simp [et, ep] at h1 h3 g1 g3 ⊢ <;> omega
      · have ep2 : ¬ t + 1 = W w := fun q => ep q.symm
        rcases hj with rfl | rfl <;> simp [et, ep, ep2] at h1 h3 g1 g3 ⊢ <;> omega
  · simp [eo] at h1 h3 g1 g3 ⊢
    omega
theorem OFF_start {n : Nat} {W : Nat → Nat} {C : CT} {o w m a b : Nat} {f : Nat → Nat} (hw : w < n) (hm : m = 2 ∨ m = 4 ∨ m = 5) (hf : f (C w o m) + b = C w o m + a) (h : SUM n W C) : OFF n W (sh1 C o w m f) o (W w) (ab m) a b := by
  intro t o' ht ho'
  have h1 := S1_sh (C := C) (o := o) (k := m) (f := f) (W := W) hw t o'
  have h3 := S3_sh (C := C) (o := o) (k := m) (f := f) (W := W) hw t o'
  obtain ⟨g1, g3⟩ := h t o' ht ho'
  have g1 : C t o' 1 = S1 n W C t o' := g1
  have g3 : C t o' 3 = S3 n W C t o' := g3
  have e1 : sh1 C o w m f t o' 1 = C t o' 1 := by
    unfold sh1
    rw [if_neg (fun q => by have := q.2.2; omega)]
  have e3 : sh1 C o w m f t o' 3 = C t o' 3 := by
    unfold sh1
    rw [if_neg (fun q => by have := q.2.2; omega)]
  rw [e1, e3]
  by_cases eo : o' = o
  · subst eo
    by_cases ep : W w = t + 1
    · have ep2 : t + 1 = W w := ep.symm
      rcases hm with rfl | rfl | rfl <;> simp [ab, ep] at h1 h3 ⊢ <;> omega
    · have ep2 : ¬ t + 1 = W w := fun q => ep q.symm
      rcases hm with rfl | rfl | rfl <;> simp [ab, ep, ep2] at h1 h3 ⊢ <;> omega
  · simp [eo] at h1 h3 ⊢
    omega
theorem OFF_0 {n : Nat} {W : Nat → Nat} {C : CT} {o j a b : Nat} (h : OFF n W C o 0 j a b) : SUM n W C := by
  intro t o' ht ho'
  obtain ⟨g1, g3⟩ := h t o' ht ho'
  simp at g1 g3
  exact ⟨g1, g3⟩
theorem shL_SUM {n : Nat} {W : Nat → Nat} {o j a b : Nat} {f : Nat → Nat} (hj : j = 1 ∨ j = 3) (hW : ∀ t, t < n → W t ≤ t) : ∀ (fu c : Nat) (C : CT), c ≤ fu → c ≤ n → OFF n W C o c j a b → (∀ w ∈ ch W fu c, f (C w o j) + b = C w o j + a) → SUM n W (shL o j f (ch W fu c) C)
  | 0, c, C, h1, h2, h, _ => by
    have : c = 0 := by omega
    subst this
    exact OFF_0 h
  | fu + 1, 0, C, h1, h2, h, _ => OFF_0 h
  | fu + 1, c + 1, C, h1, h2, h, hf => by
    have hwc := hW c (by omega)
    have h3 := OFF_step (f := f) (show c < n by omega) hj hW (hf c (by simp [ch])) h
    refine shL_SUM hj hW fu (W c) _ (by omega) (by omega) h3 (fun w hw => ?_)
    have hlt := ch_lt W hW fu (W c) (by omega) w hw
    have : sh1 C o c j f w o j = C w o j := by
      unfold sh1
      rw [if_neg (fun q => by have := q.1; omega)]
    rw [this]
    exact hf w (by simp [ch, hw])
theorem ab_13 (m : Nat) : ab m = 1 ∨ ab m = 3 := by unfold ab; split <;> simp
theorem sft_SUM {n : Nat} {W : Nat → Nat} {C : CT} {o t m a b : Nat} {f : Nat → Nat} (hW : ∀ t, t < n → W t ≤ t) (hn : n ≤ 12) (ht : t < n) (hm : m = 2 ∨ m = 4 ∨ m = 5) (h : SUM n W C) (hf : f (C t o m) + b = C t o m + a) (hf2 : ∀ w ∈ chn W t, f (C w o (ab m)) + b = C w o (ab m) + a) : SUM n W (sft W C o t m f) := by
  have hwc := hW t ht
  refine shL_SUM (ab_13 m) hW 12 (W t) _ (by omega) (by omega) (OFF_start ht hm hf h) (fun w hw => ?_)
  have hne : ¬ ab m = m := by unfold ab; split <;> omega
  have : sh1 C o t m f w o (ab m) = C w o (ab m) := by
    unfold sh1
    rw [if_neg (fun q => hne q.2.2)]
  rw [this]
  exact hf2 w hw
/-- what is above holds something, if what is below does -/
theorem up_pos {n : Nat} {W : Nat → Nat} {C : CT} {o : Nat} (ho : o < 6) (hW : ∀ t, t < n → W t ≤ t) (h : SUM n W C) : ∀ (fu c t k j : Nat), c ≤ n → t < n → W t = c → ((j = 1 ∧ (k = 1 ∨ k = 2)) ∨ (j = 3 ∧ (k = 3 ∨ k = 4 ∨ k = 5))) → 0 < C t o k → ∀ w ∈ ch W fu c, 0 < C w o j
  | 0, c, t, k, j, _, _, _, _, _, w, hw => by simp [ch] at hw
  | fu + 1, 0, t, k, j, _, _, _, _, _, w, hw => by simp [ch] at hw
  | fu + 1, c + 1, t, k, j, hc, ht, hWt, hk, hp, w, hw => by
    have hcp : 0 < C c o j := by
      obtain ⟨g1, g3⟩ := h c o (by omega) ho
      rcases hk with ⟨rfl, hk⟩ | ⟨rfl, hk⟩
      · have := sumTo_le (f := fun p => if W p = c + 1 then C p o 1 + C p o 2 else 0) n ht
        simp only [hWt, if_true] at this
        rcases hk with rfl | rfl <;> omega
      · have := sumTo_le (f := fun p => if W p = c + 1 then C p o 3 + C p o 4 + C p o 5 else 0) n ht
        simp only [hWt, if_true] at this
        rcases hk with rfl | rfl | rfl <;> omega
    simp only [ch, List.mem_cons] at hw
    rcases hw with rfl | hw
    · exact hcp
    · have hwc := hW c (by omega)
      exact up_pos ho hW h fu (W c) c j j (by omega) (by omega) rfl (by rcases hk with ⟨rfl, _⟩ | ⟨rfl, _⟩ <;> simp) hcp w hw
theorem chn_pos {n : Nat} {W : Nat → Nat} {C : CT} {o t m : Nat} (ho : o < 6) (hW : ∀ t, t < n → W t ≤ t) (h : SUM n W C) (ht : t < n) (hm : m = 2 ∨ m = 4 ∨ m = 5) (hp : 0 < C t o m) : ∀ w ∈ chn W t, 0 < C w o (ab m) := by
  have hwc := hW t ht
  exact up_pos ho hW h 12 (W t) t m (ab m) (by omega) ht rfl (by rcases hm with rfl | rfl | rfl <;> simp [ab]) hp
theorem okA_dn {W : Nat → Nat} {n c : Nat} (hW : ∀ t, t < n → W t ≤ t) {C : CT} (hC : ∀ t o m, C t o m ≤ c) (hc : c < 2000000000) {o t m : Nat} (ho : o < 6) (ht : t < n) (hm : m = 2 ∨ m = 4 ∨ m = 5) (h : SUM n W C) (hp : 0 < C t o m) : okA W C o t m (-1) (· - 1) := by
  have hwc := hW t ht
  have h0 := hC t o m
  refine ⟨⟨nm1 hp, by show C t o m - 1 < _; omega⟩, okS_of _ _ (ch_nd W hW 12 (W t) (by omega)) (fun w hw => ?_)⟩
  have hne : ¬ ab m = m := by unfold ab; split <;> omega
  have e : sh1 C o t m (· - 1) w o (ab m) = C w o (ab m) := by
    unfold sh1
    rw [if_neg (fun q => hne q.2.2)]
  have h1 := hC w o (ab m)
  rw [e]
  exact ⟨nm1 (chn_pos ho hW h ht hm hp w hw), by show C w o (ab m) - 1 < _; omega⟩
