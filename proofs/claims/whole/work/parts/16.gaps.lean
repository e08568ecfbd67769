/-! pairs with both ends: strictly rising -/
def pp (np m n : Nat) (PL PT : Nat → Nat) : Prop := PL 0 = 0 ∧ PT 0 = 0 ∧ PL (np + 1) = m + 1 ∧ PT (np + 1) = n + 1 ∧ ∀ k, k ≤ np → PL k < PL (k + 1) ∧ PT k < PT (k + 1)
theorem pp_m {np m n : Nat} {PL PT : Nat → Nat} (h : pp np m n PL PT) : ∀ d i, i + d ≤ np + 1 → PL i + d ≤ PL (i + d) ∧ PT i + d ≤ PT (i + d) := by
  intro d
  induction d with
  | zero => intro i _; exact ⟨Nat.le_refl _, Nat.le_refl _⟩
  | succ d ih =>
    intro i hi
    have a := ih i (by omega)
    have b := h.2.2.2.2 (i + d) (by omega)
    rw [show i + (d + 1) = i + d + 1 from rfl]
    omega
theorem pp_b {np m n k : Nat} {PL PT : Nat → Nat} (h : pp np m n PL PT) (hk : k ≤ np + 1) : PL k ≤ m + 1 ∧ PT k ≤ n + 1 ∧ k ≤ PL k ∧ k ≤ PT k ∧ PL k + (np + 1 - k) ≤ m + 1 ∧ PT k + (np + 1 - k) ≤ n + 1 := by
  have a := pp_m h (np + 1 - k) k (by omega)
  have b := pp_m h k 0 (by omega)
  rw [show k + (np + 1 - k) = np + 1 by omega, h.2.2.1, h.2.2.2.1] at a
  rw [Nat.zero_add, h.1, h.2.1] at b
  omega
theorem pp_lt {np m n i j : Nat} {PL PT : Nat → Nat} (h : pp np m n PL PT) (hij : i < j) (hj : j ≤ np + 1) : PL i < PL j ∧ PT i < PT j := by
  have a := pp_m h (j - i) i (by omega)
  rw [show i + (j - i) = j by omega] at a
  omega
def gc (PL PT : Nat → Nat) : Nat → Nat
  | 0 => 0
  | k + 1 => if 1 < PL (k + 1) - PL k ∨ 1 < PT (k + 1) - PT k then gc PL PT k + 1 else gc PL PT k
theorem gc_le (PL PT : Nat → Nat) (k : Nat) : gc PL PT k ≤ k := by
  induction k with
  | zero => exact Nat.le_refl _
  | succ k ih => rw [gc]; split <;> omega
theorem gc_m (PL PT : Nat → Nat) : ∀ d k, gc PL PT k ≤ gc PL PT (k + d) := by
  intro d
  induction d with
  | zero => intro k; exact Nat.le_refl _
  | succ d ih =>
    intro k
    refine Nat.le_trans (ih k) ?_
    rw [show k + (d + 1) = k + d + 1 from rfl, gc]; split <;> omega
theorem pp_gs {q : Nat → Nat → Bool} {m n : Nat} {s : Nat × (Nat → Nat) × (Nat → Nat)} (h : gI q m n m s) : pp s.1 m n (fun k => if k ≤ s.1 then s.2.1 k else m + 1) (fun k => if k ≤ s.1 then s.2.2 k else n + 1) := by
  obtain ⟨h1, h2, h3, h4, h5, h6, h7, h8⟩ := h
  refine ⟨?_, ?_, ?_, ?_, ?_⟩ <;> dsimp only
  · rw [if_pos (by omega), h5]
  · rw [if_pos (by omega), h6]
  · rw [if_neg (by omega)]
  · rw [if_neg (by omega)]
  · intro k hk
    rw [if_pos hk, if_pos hk]
    by_cases e : k < s.1
    · rw [if_pos (by omega), if_pos (by omega)]; exact h8 k e
    · obtain rfl : k = s.1 := by omega
      rw [if_neg (by omega), if_neg (by omega)]; omega
/-! who joined two -/
def jo (G H : Nat → Int32) (hd u v : Int32) (e : Nat) : Prop := bt hd e = true ∧ ∃ k, k + 1 < (H (2 * e + 1)).toNatClampNeg ∧ G (22 * (2 * e + 1) + k) = u ∧ G (22 * (2 * e + 1) + (k + 1)) = v
noncomputable def jn (G H : Nat → Int32) (hd u v : Int32) : Nat → Nat
  | 0 => 0
  | e + 1 => @ite Nat (jo G H hd u v e) (Classical.propDecidable _) (e + 1) (jn G H hd u v e)
theorem jn_t {G H : Nat → Int32} {hd u v : Int32} {e : Nat} (h : jo G H hd u v e) : jn G H hd u v (e + 1) = e + 1 := by rw [jn]; exact if_pos h
theorem jn_f {G H : Nat → Int32} {hd u v : Int32} {e : Nat} (h : ¬ jo G H hd u v e) : jn G H hd u v (e + 1) = jn G H hd u v e := by rw [jn]; exact if_neg h
theorem jn_s {G H : Nat → Int32} {hd u v : Int32} : ∀ {N e : Nat}, jn G H hd u v N = e + 1 → e < N ∧ jo G H hd u v e := by
  intro N
  induction N with
  | zero => intro e h; exact absurd h (by rw [jn]; omega)
  | succ N ih =>
    intro e h
    by_cases hj : jo G H hd u v N
    · rw [jn_t hj] at h
      obtain rfl : N = e := by omega
      exact ⟨by omega, hj⟩
    · rw [jn_f hj] at h
      have := ih h
      exact ⟨by omega, this.2⟩
theorem jn_c {G H G0 H0 : Nat → Int32} {hd u v : Int32} {c0 : Nat} (hG : ∀ x, x < 44 * c0 → G x = G0 x) (hH : ∀ q, q < 2 * c0 → H q = H0 q) (hl : ∀ q, q < 2 * c0 → (H0 q).toNatClampNeg ≤ 22) : ∀ N, N ≤ c0 → jn G H hd u v N = jn G0 H0 hd u v N := by
  intro N
  induction N with
  | zero => intro _; rw [jn, jn]
  | succ N ih =>
    intro hN
    have e : jo G H hd u v N ↔ jo G0 H0 hd u v N := by
      unfold jo
      rw [hH _ (by omega)]
      have hb := hl (2 * N + 1) (by omega)
      constructor
      · rintro ⟨h1, k, h2, h3, h4⟩
        exact ⟨h1, k, h2, by rw [← hG _ (by omega)]; exact h3, by rw [← hG _ (by omega)]; exact h4⟩
      · rintro ⟨h1, k, h2, h3, h4⟩
        exact ⟨h1, k, h2, by rw [hG _ (by omega)]; exact h3, by rw [hG _ (by omega)]; exact h4⟩
    by_cases hj : jo G H hd u v N
    · rw [jn_t hj, jn_t (e.mp hj)]
    · rw [jn_f hj, jn_f (fun z => hj (e.mpr z)), ih (by omega)]
theorem jn_h {G H : Nat → Int32} {hd u v : Int32} {c0 : Nat} (hb : ∀ d, c0 ≤ d → d < 32 → bt hd d = false) : ∀ d, c0 + d ≤ 32 → jn G H hd u v (c0 + d) = jn G H hd u v c0 := by
  intro d
  induction d with
  | zero => intro _; rfl
  | succ d ih =>
    intro h
    rw [show c0 + (d + 1) = c0 + d + 1 from rfl, jn_f, ih (by omega)]
    intro z
    have := z.1
    rw [hb (c0 + d) (by omega) (by omega)] at this
    cases this
def jr : Nat → Int32
  | 0 => -1
  | e + 1 => nI e
def ns (N0 : Nat → Int32) (x : Int32) : Nat → Int32
  | 0 => x
  | e + 1 => x ||| (N0 e ||| ((1 : Int32) <<< (nI e &&& 31)))
def nval (J : Int32 → Int32 → Nat) (N0 B : Nat → Int32) : Nat → Int32
  | 0 => 0
  | k + 1 => ns N0 (nval J N0 B k) (J (B k) (B (k + 1)))
theorem nval_c {J : Int32 → Int32 → Nat} {N0 B B' : Nat → Int32} : ∀ n, (∀ k, k ≤ n → B k = B' k) → nval J N0 B n = nval J N0 B' n := by
  intro n
  induction n with
  | zero => intro _; rfl
  | succ n ih =>
    intro h
    rw [nval, nval, ih (fun k hk => h k (by omega)), h n (by omega), h (n + 1) (by omega)]
theorem nval_b {J : Int32 → Int32 → Nat} {N0 B : Nat → Int32} {c0 : Nat} (hc : c0 ≤ 32) (hJ : ∀ u v e, J u v = e + 1 → e < c0) (hN : ∀ e, e < c0 → ∀ d, c0 ≤ d → d < 32 → bt (N0 e) d = false) : ∀ n d, c0 ≤ d → d < 32 → bt (nval J N0 B n) d = false := by
  intro n
  induction n with
  | zero => intro d _ _; exact b_0 d
  | succ n ih =>
    intro d h1 h2
    rw [nval]
    cases hj : J (B n) (B (n + 1)) with
    | zero => exact ih d h1 h2
    | succ e =>
      have he := hJ _ _ _ hj
      rw [ns, b_or, b_or, ih d h1 h2, hN e he d h1 h2, bq_sh h2 (by omega), decide_eq_false (by omega)]; rfl
def orb (x : Int32) (c0 : Nat) : Nat → Int32
  | 0 => x
  | e + 1 => orb x c0 e ||| ((1 : Int32) <<< (nI (c0 + e) &&& 31))
theorem orb_b {x : Int32} {c0 : Nat} (hx : ∀ d, c0 ≤ d → d < 32 → bt x d = false) : ∀ e, c0 + e ≤ 32 → ∀ d, c0 + e ≤ d → d < 32 → bt (orb x c0 e) d = false := by
  intro e
  induction e with
  | zero => intro _ d h1 h2; exact hx d h1 h2
  | succ e ih =>
    intro h d h1 h2
    rw [orb, b_or, ih (by omega) d (by omega) h2, bq_sh h2 (by omega), decide_eq_false (by omega)]; rfl
