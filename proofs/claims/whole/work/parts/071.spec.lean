/-! the values that both sides are tied to -/
abbrev CT : Type := Nat → Nat → Nat → Nat
abbrev LN : Type := List (Nat × Nat × Nat)
def wI (c : Nat) : Int32 := nI c - 1
theorem wI_0 : wI 0 = -1 := by decide
theorem wI_s (c : Nat) : wI (c + 1) = nI c := nI_pred c
def hcl (C : CT) (t m o : Nat) : Bool := (decide (0 < C t o 1) && cl m 1) || (decide (0 < C t o 2) && cl m 2) || (decide (0 < C t o 3) && cl m 3) || (decide (0 < C t o 4) && cl m 4) || (decide (0 < C t o 5) && cl m 5)
def ch (W : Nat → Nat) : Nat → Nat → List Nat
  | 0, _ => []
  | _ + 1, 0 => []
  | f + 1, c + 1 => c :: ch W f (W c)
def chn (W : Nat → Nat) (t : Nat) : List Nat := ch W 12 (W t)
def brd (W : Nat → Nat) (C : CT) (t m o : Nat) : Bool := hcl C t m o || (chn W t).any (fun w => hcl C w (ab m) o)
def rai (C : CT) (o t : Nat) : Bool := decide (0 < C t o 2) || decide (0 < C t o 4) || decide (0 < C t o 5)
def bhd (t m : Nat) (pre : LN) (o : Nat) : Bool := pre.any (fun q => q.1 == o && (q.2.1 == t && cl m q.2.2))
def hnd (W : Nat → Nat) (C : CT) (o t m : Nat) (pre : LN) : Nat := mk6 (fun j => !(j == o) && (brd W C t m j || (!(rai C o t) && bhd t m pre j)))
theorem hnd_lt (W : Nat → Nat) (C : CT) (o t m : Nat) (pre : LN) : hnd W C o t m pre < 64 := mk6_lt _
def vq (n : Nat) (q : Nat × Nat × Nat) : Prop := q.1 < 6 ∧ q.2.1 < n ∧ (q.2.2 = 2 ∨ q.2.2 = 4 ∨ q.2.2 = 5)
/-- a table of the class, at cell b -/
def RC (b n : Nat) (W B : Nat → Nat) (C : CT) (ln pl : LN) (g : Nat) (h : AH) : Prop :=
  h b 0 = nI n ∧ (∀ t, t < n → h (b + 1) t = wI (W t)) ∧ (∀ t, t < n → h (b + 2) t = nI (B t)) ∧
  (∀ t o m, t < 12 → o < 6 → 1 ≤ m → m ≤ 5 → h (b + 3) ((t * 6 + o) * 5 + m - 1) = nI (C t o m)) ∧
  (∀ t m, t < 12 → 1 ≤ m → m ≤ 5 → h (b + 4) (t * 5 + m - 1) = nI (mk6 (fun o => decide (0 < C t o m)))) ∧
  h b 5 = nI ln.length ∧ (∀ (k : Nat) (q : Nat × Nat × Nat), ln[k]? = some q → h (b + 5) k = nI q.1) ∧
  (∀ q, q ∈ ln → h (b + 6) q.1 = nI q.2.1 ∧ h (b + 7) q.1 = nI q.2.2) ∧ (∀ o, o < 6 → (∀ q ∈ ln, q.1 ≠ o) → h (b + 7) o = nI 0) ∧
  h b 9 = nI pl.length ∧ (∀ (k : Nat) (q : Nat × Nat × Nat), pl[k]? = some q → h (b + 8) k = nI q.1 ∧ h (b + 9) k = nI q.2.1 ∧ h (b + 10) k = nI q.2.2) ∧
  h b 13 = nI g
/-- the reference's row, at cell c -/
def RG (c n : Nat) (W B : Nat → Nat) (C : CT) (ln pl : LN) (h : AH) : Prop :=
  h c 0 = nI n ∧ (∀ t, t < n → h c (1 + t) = wI (W t)) ∧ (∀ t, t < n → h c (13 + t) = nI (B t)) ∧
  (∀ t o m, t < n → o < 6 → 1 ≤ m → m ≤ 5 → h c (81 + (o * 12 + t) * 5 + m - 1) = nI (C t o m)) ∧
  h c 25 = nI ln.length ∧ (∀ (k : Nat) (q : Nat × Nat × Nat), ln[k]? = some q → h c (26 + 3 * k) = nI q.1 ∧ h c (26 + 3 * k + 1) = nI q.2.1 ∧ h c (26 + 3 * k + 2) = nI q.2.2) ∧
  h c 44 = nI pl.length ∧ (∀ (k : Nat) (q : Nat × Nat × Nat), pl[k]? = some q → h c (45 + 3 * k) = nI q.1 ∧ h c (45 + 3 * k + 1) = nI q.2.1 ∧ h c (45 + 3 * k + 2) = nI q.2.2)
def sumTo (f : Nat → Nat) : Nat → Nat
  | 0 => 0
  | n + 1 => sumTo f n + f n
/-- what is above holds the sum of what its parts hold -/
def SUM (n : Nat) (W : Nat → Nat) (C : CT) : Prop := ∀ t o, t < n → o < 6 →
  C t o 1 = sumTo (fun p => if W p = t + 1 then C p o 1 + C p o 2 else 0) n ∧
  C t o 3 = sumTo (fun p => if W p = t + 1 then C p o 3 + C p o 4 + C p o 5 else 0) n
def WF (c n : Nat) (W B : Nat → Nat) (C : CT) (ln pl : LN) : Prop :=
  n ≤ 12 ∧ (∀ t, t < n → W t ≤ t) ∧ (∀ t, t < n → B t ≤ 1) ∧ (∀ t o m, n ≤ t → C t o m = 0) ∧ (∀ t o m, C t o m ≤ c) ∧ SUM n W C ∧
  (∀ q, q ∈ ln → vq n q) ∧ (ln.map (fun q => q.1)).Nodup ∧ pl.length ≤ 12 ∧ (∀ q, q ∈ pl → vq n q)
def inr (x : Int32) (n : Nat) : Prop := ∃ k, k < n ∧ x = nI k
theorem inr_not {x : Int32} {n : Nat} (h : ¬ inr x n) : x < nI 0 ∨ ∃ k, n ≤ k ∧ k < 2147483648 ∧ x = nI k := by
  rcases i32_cases x with q | ⟨k, q1, q2⟩
  · exact Or.inl q
  · exact Or.inr ⟨k, Nat.not_lt.mp (fun z => h ⟨k, z, q2⟩), q1, q2⟩
theorem nodup_bound : ∀ (k : Nat) (l : List Nat), l.Nodup → (∀ x ∈ l, x < k) → l.length ≤ k
  | 0, l, _, h => by
    cases l with
    | nil => simp
    | cons a l => exact absurd (h a List.mem_cons_self) (by omega)
  | k + 1, l, hn, h => by
    have h1 := nodup_bound k (l.filter (fun x => x != k)) (hn.filter _) (fun x hx => by
      have := List.mem_filter.mp hx
      have h2 := h x this.1
      have h3 := this.2
      simp at h3
      omega)
    have h2 : l.length ≤ (l.filter (fun x => x != k)).length + 1 := by
      clear h h1
      induction l with
      | nil => simp
      | cons a l ih =>
        have hn2 := List.nodup_cons.mp hn
        by_cases e : a = k
        · subst e
          have : l.filter (fun x => x != a) = l := List.filter_eq_self.mpr (fun x hx => by
            simp
            intro e
            exact hn2.1 (e ▸ hx))
          simp [this]
        · have := ih hn2.2
          simp [e]
          omega
    omega
theorem WF_len {n : Nat} {ln : LN} (h1 : ∀ q, q ∈ ln → vq n q) (h2 : (ln.map (fun q => q.1)).Nodup) : ln.length ≤ 6 := by
  have := nodup_bound 6 (ln.map (fun q => q.1)) h2 (fun x hx => by
    obtain ⟨q, hq, rfl⟩ := List.mem_map.mp hx
    exact (h1 q hq).1)
  rwa [List.length_map] at this
/-- what a step leaves of the rest -/
def fr (b : Nat) (h h' : AH) : Prop := ∀ a, (a < b ∨ b + 12 ≤ a) → h' a = h a
theorem fr_rf (b : Nat) (h : AH) : fr b h h := fun _ _ => rfl
theorem fr_tr {b : Nat} {h h1 h2 : AH} (a : fr b h h1) (c : fr b h1 h2) : fr b h h2 := fun i hi => (c i hi).trans (a i hi)
theorem fr_up {b i k : Nat} {x : Int32} {h : AH} (h1 : b ≤ i) (h2 : i < b + 12) : fr b h (up h i k x) := fun a ha => up_ne h i k x (by omega)
