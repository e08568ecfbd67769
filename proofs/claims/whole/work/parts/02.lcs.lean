/-! the most pairs: a table, two recurrences -/
def lc_row (p : Nat → Nat) (f : Nat → Bool) : Nat → Nat
  | 0 => 0
  | b + 1 => max (max (p (b + 1)) (lc_row p f b)) (if f b = true then p b + 1 else 0)
def lc (f : Nat → Nat → Bool) : Nat → Nat → Nat
  | 0 => fun _ => 0
  | a + 1 => lc_row (lc f a) (f a)
theorem lc_s (f : Nat → Nat → Bool) (a b : Nat) : lc f (a + 1) (b + 1) = max (max (lc f a (b + 1)) (lc f (a + 1) b)) (if f a b = true then lc f a b + 1 else 0) := rfl
theorem lc_r0 (f : Nat → Nat → Bool) (a : Nat) : lc f a 0 = 0 := by cases a <;> rfl
theorem lc_ma (f : Nat → Nat → Bool) (a b : Nat) : lc f a b ≤ lc f (a + 1) b := by
  cases b with
  | zero => rw [lc_r0]; omega
  | succ b => rw [lc_s]; omega
theorem lc_mb (f : Nat → Nat → Bool) (a b : Nat) : lc f a b ≤ lc f a (b + 1) := by
  cases a with
  | zero => exact Nat.le_refl _
  | succ a => rw [lc_s]; omega
theorem lc_la (f : Nat → Nat → Bool) (a b : Nat) : lc f (a + 1) b ≤ lc f a b + 1 := by
  induction b with
  | zero => rw [lc_r0]; omega
  | succ b ih =>
    rw [lc_s]
    have h1 := lc_mb f a b
    split <;> omega
theorem lc_lb (f : Nat → Nat → Bool) (a b : Nat) : lc f a (b + 1) ≤ lc f a b + 1 := by
  induction a with
  | zero => exact Nat.zero_le _
  | succ a ih =>
    rw [lc_s]
    have h1 := lc_ma f a b
    split <;> omega
theorem lc_le (f : Nat → Nat → Bool) (a b : Nat) : lc f a b ≤ a := by
  induction a with
  | zero => exact Nat.le_refl _
  | succ a ih => have := lc_la f a b; omega
theorem lc_t (f : Nat → Nat → Bool) {a b : Nat} (h : f a b = true) : lc f (a + 1) (b + 1) = lc f a b + 1 := by
  rw [lc_s, if_pos h]
  have h1 := lc_lb f a b
  have h2 := lc_la f a b
  omega
theorem lc_f (f : Nat → Nat → Bool) {a b : Nat} (h : f a b = false) : lc f (a + 1) (b + 1) = max (lc f a (b + 1)) (lc f (a + 1) b) := by
  rw [lc_s, if_neg (by rw [h]; decide)]
  omega
theorem lc_g (f : Nat → Nat → Bool) (a b : Nat) : lc f (a + 1) b = lc f a b ∨ ∃ b', b' < b ∧ f a b' = true ∧ lc f a b' + 1 = lc f (a + 1) b := by
  induction b with
  | zero => exact Or.inl (by rw [lc_r0, lc_r0])
  | succ b ih =>
    cases hf : f a b with
    | true => exact Or.inr ⟨b, by omega, hf, (lc_t f hf).symm⟩
    | false =>
      have e := lc_f f hf
      have h1 := lc_mb f a b
      have h2 := lc_ma f a (b + 1)
      by_cases h3 : lc f (a + 1) (b + 1) = lc f a (b + 1)
      · exact Or.inl h3
      · have h4 : lc f (a + 1) (b + 1) = lc f (a + 1) b := by omega
        rcases ih with h | ⟨b', hb, h5, h6⟩
        · omega
        · exact Or.inr ⟨b', by omega, h5, by omega⟩
/-! by positions -/
def gT (q : Nat → Nat → Bool) (m n i j : Nat) : Nat := lc (fun a b => q (m - 1 - a) (n - 1 - b)) (m - i) (n - j)
theorem gT_le (q : Nat → Nat → Bool) (m n i j : Nat) : gT q m n i j ≤ m := Nat.le_trans (lc_le _ _ _) (by omega)
theorem gT_i (q : Nat → Nat → Bool) {m n i j : Nat} (h : m ≤ i) : gT q m n i j = 0 := by
  unfold gT
  rw [show m - i = 0 by omega]
  rfl
theorem gT_j (q : Nat → Nat → Bool) {m n i j : Nat} (h : n ≤ j) : gT q m n i j = 0 := by
  unfold gT
  rw [show n - j = 0 by omega]
  exact lc_r0 _ _
theorem gT_t (q : Nat → Nat → Bool) {m n i j : Nat} (hi : i < m) (hj : j < n) (h : q i j = true) : gT q m n i j = gT q m n (i + 1) (j + 1) + 1 := by
  unfold gT
  obtain ⟨a, rfl⟩ : ∃ a, m = i + 1 + a := ⟨m - i - 1, by omega⟩
  obtain ⟨b, rfl⟩ : ∃ b, n = j + 1 + b := ⟨n - j - 1, by omega⟩
  rw [show i + 1 + a - i = a + 1 by omega, show j + 1 + b - j = b + 1 by omega, show i + 1 + a - (i + 1) = a by omega, show j + 1 + b - (j + 1) = b by omega]
  refine lc_t _ ?_
  rw [show i + 1 + a - 1 - a = i by omega, show j + 1 + b - 1 - b = j by omega]
  exact h
theorem gT_f (q : Nat → Nat → Bool) {m n i j : Nat} (hi : i < m) (hj : j < n) (h : q i j = false) : gT q m n i j = max (gT q m n (i + 1) j) (gT q m n i (j + 1)) := by
  unfold gT
  obtain ⟨a, rfl⟩ : ∃ a, m = i + 1 + a := ⟨m - i - 1, by omega⟩
  obtain ⟨b, rfl⟩ : ∃ b, n = j + 1 + b := ⟨n - j - 1, by omega⟩
  rw [show i + 1 + a - i = a + 1 by omega, show j + 1 + b - j = b + 1 by omega, show i + 1 + a - (i + 1) = a by omega, show j + 1 + b - (j + 1) = b by omega]
  refine lc_f _ ?_
  rw [show i + 1 + a - 1 - a = i by omega, show j + 1 + b - 1 - b = j by omega]
  exact h
theorem gT_ge (q : Nat → Nat → Bool) (m n i j : Nat) : gT q m n (i + 1) j ≤ gT q m n i j ∧ gT q m n i (j + 1) ≤ gT q m n i j := by
  unfold gT
  constructor
  · by_cases h : i < m
    · rw [show m - i = m - (i + 1) + 1 by omega]; exact lc_ma _ _ _
    · rw [show m - i = m - (i + 1) by omega]; exact Nat.le_refl _
  · by_cases h : j < n
    · rw [show n - j = n - (j + 1) + 1 by omega]; exact lc_mb _ _ _
    · rw [show n - j = n - (j + 1) by omega]; exact Nat.le_refl _
theorem gT_g (q : Nat → Nat → Bool) {m n i j : Nat} (hi : i < m) (hn : ∀ k, j ≤ k → k < n → q i k = true → gT q m n (i + 1) (k + 1) + 1 ≠ gT q m n i j) : gT q m n (i + 1) j = gT q m n i j := by
  obtain ⟨a, rfl⟩ : ∃ a, m = i + 1 + a := ⟨m - i - 1, by omega⟩
  have key := lc_g (fun a' b => q (i + 1 + a - 1 - a') (n - 1 - b)) a (n - j)
  unfold gT at hn ⊢
  rw [show i + 1 + a - i = a + 1 by omega, show i + 1 + a - (i + 1) = a by omega] at *
  rcases key with h | ⟨b', hb, h5, h6⟩
  · exact h.symm
  · exfalso
    rw [show i + 1 + a - 1 - a = i by omega] at h5
    have := hn (n - 1 - b') (by omega) (by omega) h5
    rw [show n - (n - 1 - b' + 1) = b' by omega] at this
    exact this h6
/-! the first that fits -/
def gf (P : Nat → Bool) : Nat → Nat → Option Nat
  | 0, _ => none
  | d + 1, j => if P j = true then some j else gf P d (j + 1)
theorem gf_s {P : Nat → Bool} : ∀ {d j k : Nat}, gf P d j = some k → j ≤ k ∧ k < j + d ∧ P k = true ∧ ∀ i, j ≤ i → i < k → P i = false := by
  intro d
  induction d with
  | zero => intro j k h; cases h
  | succ d ih =>
    intro j k h
    rw [gf] at h
    by_cases e : P j = true
    · rw [if_pos e] at h
      cases h
      exact ⟨Nat.le_refl _, by omega, e, fun i h1 h2 => by omega⟩
    · rw [if_neg e] at h
      obtain ⟨h1, h2, h3, h4⟩ := ih h
      refine ⟨by omega, by omega, h3, fun i h5 h6 => ?_⟩
      by_cases e2 : i = j
      · rw [e2]; cases hp : P j with
        | true => exact absurd hp e
        | false => rfl
      · exact h4 i (by omega) h6
theorem gf_n {P : Nat → Bool} : ∀ {d j : Nat}, gf P d j = none → ∀ i, j ≤ i → i < j + d → P i = false := by
  intro d
  induction d with
  | zero => intro j h i h1 h2; omega
  | succ d ih =>
    intro j h i h1 h2
    rw [gf] at h
    by_cases e : P j = true
    · rw [if_pos e] at h; cases h
    · rw [if_neg e] at h
      by_cases e2 : i = j
      · rw [e2]; cases hp : P j with
        | true => exact absurd hp e
        | false => rfl
      · exact ih h i (by omega) (by omega)
theorem gf_t {P : Nat → Bool} {d j : Nat} (h : P j = true) : gf P (d + 1) j = some j := by rw [gf, if_pos h]
theorem gf_f {P : Nat → Bool} {d j : Nat} (h : P j = false) : gf P (d + 1) j = gf P d (j + 1) := by rw [gf, if_neg (by rw [h]; decide)]
/-! the greedy pairs -/
def nu (f : Nat → Nat) (k x : Nat) : Nat → Nat := fun j => if j = k then x else f j
theorem nu_s {f : Nat → Nat} {k x : Nat} : nu f k x k = x := if_pos rfl
theorem nu_n {f : Nat → Nat} {k x j : Nat} (h : j ≠ k) : nu f k x j = f j := if_neg h
def gP (q : Nat → Nat → Bool) (m n i fr : Nat) : Nat → Bool := fun j => q i j && (gT q m n (i + 1) (j + 1) + 1 == gT q m n i fr)
def gst (q : Nat → Nat → Bool) (m n i : Nat) (s : Nat × (Nat → Nat) × (Nat → Nat)) : Nat × (Nat → Nat) × (Nat → Nat) :=
  match gf (gP q m n i (s.2.2 s.1)) (n - s.2.2 s.1) (s.2.2 s.1) with
  | none => s
  | some j => (s.1 + 1, nu s.2.1 (s.1 + 1) (i + 1), nu s.2.2 (s.1 + 1) (j + 1))
def gs (q : Nat → Nat → Bool) (m n : Nat) : Nat → Nat × (Nat → Nat) × (Nat → Nat)
  | 0 => (0, fun _ => 0, fun _ => 0)
  | i + 1 => gst q m n i (gs q m n i)
def gI (q : Nat → Nat → Bool) (m n i : Nat) (s : Nat × (Nat → Nat) × (Nat → Nat)) : Prop :=
  s.1 ≤ i ∧ s.2.2 s.1 ≤ n ∧ s.1 ≤ s.2.2 s.1 ∧ gT q m n i (s.2.2 s.1) + s.1 = gT q m n 0 0 ∧ s.2.1 0 = 0 ∧ s.2.2 0 = 0 ∧ s.2.1 s.1 ≤ i ∧ ∀ k, k < s.1 → s.2.1 k < s.2.1 (k + 1) ∧ s.2.2 k < s.2.2 (k + 1)
theorem gst_n {q : Nat → Nat → Bool} {m n i : Nat} {s : Nat × (Nat → Nat) × (Nat → Nat)} (h : gf (gP q m n i (s.2.2 s.1)) (n - s.2.2 s.1) (s.2.2 s.1) = none) : gst q m n i s = s := by
  unfold gst; rw [h]
theorem gst_s {q : Nat → Nat → Bool} {m n i j : Nat} {s : Nat × (Nat → Nat) × (Nat → Nat)} (h : gf (gP q m n i (s.2.2 s.1)) (n - s.2.2 s.1) (s.2.2 s.1) = some j) : gst q m n i s = (s.1 + 1, nu s.2.1 (s.1 + 1) (i + 1), nu s.2.2 (s.1 + 1) (j + 1)) := by
  unfold gst; rw [h]
theorem gI_0 (q : Nat → Nat → Bool) (m n : Nat) : gI q m n 0 (gs q m n 0) := ⟨Nat.le_refl _, Nat.zero_le _, Nat.le_refl _, rfl, rfl, rfl, Nat.le_refl _, fun k h => absurd h (Nat.not_lt_zero k)⟩
theorem gI_s {q : Nat → Nat → Bool} {m n i : Nat} {s : Nat × (Nat → Nat) × (Nat → Nat)} (hi : i < m) (h : gI q m n i s) : gI q m n (i + 1) (gst q m n i s) := by
  obtain ⟨a, pl, pt⟩ := s
  obtain ⟨h1, h2, h3, h4, h5, h6, h7, h8⟩ := h
  dsimp only at h1 h2 h3 h4 h5 h6 h7 h8
  cases hg : gf (gP q m n i (pt a)) (n - pt a) (pt a) with
  | none =>
    rw [gst_n hg]
    have hn := gf_n hg
    refine ⟨by dsimp only; omega, h2, h3, ?_, h5, h6, by dsimp only; omega, h8⟩
    dsimp only
    rw [gT_g q hi ?_]
    · exact h4
    · intro k hk1 hk2 hk3 hk4
      have := hn k hk1 (by omega)
      unfold gP at this
      rw [hk3, hk4] at this
      simp at this
  | some j =>
    rw [gst_s hg]
    obtain ⟨g1, g2, g3, g4⟩ := gf_s hg
    unfold gP at g3
    rw [Bool.and_eq_true, beq_iff_eq] at g3
    refine ⟨by dsimp only; omega, ?_, ?_, ?_, ?_, ?_, ?_, ?_⟩ <;> dsimp only
    · rw [nu_s]; omega
    · rw [nu_s]; omega
    · rw [nu_s]; omega
    · rw [nu_n (by omega)]; exact h5
    · rw [nu_n (by omega)]; exact h6
    · rw [nu_s]; omega
    · intro k hk
      by_cases e : k = a
      · subst e
        rw [nu_s, nu_n (by omega), nu_s, nu_n (by omega)]
        omega
      · rw [nu_n (by omega), nu_n (by omega), nu_n (by omega), nu_n (by omega)]
        exact h8 k (by omega)
theorem gI_i {q : Nat → Nat → Bool} {m n : Nat} : ∀ i, i ≤ m → gI q m n i (gs q m n i) := by
  intro i
  induction i with
  | zero => intro _; exact gI_0 q m n
  | succ i ih => intro h; exact gI_s (by omega) (ih (by omega))
