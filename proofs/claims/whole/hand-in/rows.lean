section
theorem pk_us {f : Nat → Int32} {k : Nat} {x : Int32} : upd f k x k = x := if_pos rfl
theorem pk_un {f : Nat → Int32} {k j : Nat} {x : Int32} (h : j ≠ k) : upd f k x j = f j := if_neg h
theorem pk_sub {a b : Nat} (h : b ≤ a) : nI a - nI b = nI (a - b) := by
  obtain ⟨c, rfl⟩ : ∃ c, a = c + b := ⟨a - b, by omega⟩
  rw [← nI_add, Int32.add_sub_cancel, Nat.add_sub_cancel]
theorem pk_m1 (n : Nat) : nI (n + 1) + (-1) = nI n := by
  rw [← nI_1, Int32.add_assoc, show (1 : Int32) + (-1) = 0 from rfl, Int32.add_zero]
theorem pk_mul (a b : Nat) : nI a * nI b = nI (a * b) := (Int32.ofNat_mul a b).symm
theorem pk_sub_toInt {a b : Nat} (ha : a < 2 ^ 30) (hb : b < 2 ^ 30) : (nI a - nI b).toInt = (a : Int) - b := by
  rw [Int32.toInt_sub, nI_toInt (by omega), nI_toInt (by omega)]
  exact Int.bmod_eq_of_le (by omega) (by omega)
theorem pk_sneg {a b : Nat} (hb : b < 2 ^ 30) (h : a < b) : nI a - nI b < 0 := by
  rw [Int32.lt_iff_toInt_lt, pk_sub_toInt (by omega) hb, show (0 : Int32).toInt = 0 from by decide]
  omega
theorem pk_le {x y : Int32} {A B : Prop} (a b : Nat) (f : a ≤ b → A) (g : b < a → B) (hx : x = nI a := by rfl) (hy : y = nI b := by rfl) (ha : a < 2 ^ 31 := by omega) (hb : b < 2 ^ 31 := by omega) : (x ≤ y → A) ∧ (¬ x ≤ y → B) := by
  subst hx hy
  rw [nI_leI ha hb]
  exact ⟨f, fun z => g (by omega)⟩
theorem pk_lt {x y : Int32} {A B : Prop} (a b : Nat) (f : a < b → A) (g : b ≤ a → B) (hx : x = nI a := by rfl) (hy : y = nI b := by rfl) (ha : a < 2 ^ 31 := by omega) (hb : b < 2 ^ 31 := by omega) : (x < y → A) ∧ (¬ x < y → B) := by
  subst hx hy
  rw [nI_ltI ha hb]
  exact ⟨f, fun z => g (by omega)⟩
theorem pk_eq {x y : Int32} {A B : Prop} (a b : Nat) (f : a = b → A) (g : a ≠ b → B) (hx : x = nI a := by rfl) (hy : y = nI b := by rfl) (ha : a < 2 ^ 31 := by omega) (hb : b < 2 ^ 31 := by omega) : (x = y → A) ∧ (¬ x = y → B) := by
  subst hx hy
  rw [nI_eq ha hb]
  exact ⟨f, g⟩
theorem pk_in {x : Int32} (n N : Nat) (h : n < N) (hx : x = nI n := by rfl) (hN : N < 2 ^ 31 := by omega) : vp_in x N := by
  subst hx
  exact vp_in_nI h hN
theorem pk_cl {x : Int32} (n : Nat) (hx : x = nI n := by rfl) (h : n < 2 ^ 31 := by omega) : x.toNatClampNeg = n := by
  subst hx
  exact nI_clamp h
theorem sb_m1 {p : Nat} (h : 0 < p) : nI p + (-1) = nI (p - 1) := by
  obtain ⟨q, rfl⟩ : ∃ q, p = q + 1 := ⟨p - 1, by omega⟩
  exact pk_m1 q
def bt (x : Int32) (i : Nat) : Bool := x.toBitVec.getLsbD i
theorem b_ext {x y : Int32} (h : ∀ i, i < 32 → bt x i = bt y i) : x = y := Int32.toBitVec_inj.mp (BitVec.eq_of_getLsbD_eq (fun i hi => h i hi))
theorem b_or (x y : Int32) (i : Nat) : bt (x ||| y) i = (bt x i || bt y i) := by unfold bt; rw [Int32.toBitVec_or, BitVec.getLsbD_or]
theorem b_and (x y : Int32) (i : Nat) : bt (x &&& y) i = (bt x i && bt y i) := by unfold bt; rw [Int32.toBitVec_and, BitVec.getLsbD_and]
theorem b_xor (x y : Int32) (i : Nat) : bt (x ^^^ y) i = (bt x i ^^ bt y i) := by unfold bt; rw [Int32.toBitVec_xor, BitVec.getLsbD_xor]
theorem b_big {x : Int32} {i : Nat} (h : 32 ≤ i) : bt x i = false := BitVec.getLsbD_of_ge _ _ h
theorem b_m1 : ∀ i, i < 32 → bt (-1) i = true := by decide +kernel
theorem b_0 (i : Nat) : bt 0 i = false := BitVec.getLsbD_zero
theorem s_l : ∀ n, n < 32 → ((nI n &&& 31).toBitVec.smod 32).toNat = n := by decide +kernel
theorem b_shl (n : Nat) (hn : n < 32) (x : Int32) {i : Nat} (hi : i < 32) : bt (x <<< (nI n &&& 31)) i = (decide (n ≤ i) && bt x (i - n)) := by
  unfold bt
  rw [Int32.toBitVec_shiftLeft]
  show (x.toBitVec <<< ((nI n &&& 31).toBitVec.smod 32).toNat).getLsbD i = _
  rw [s_l n hn, BitVec.getLsbD_shiftLeft]
  rcases Nat.lt_or_ge i n with h | h
  · simp [h, Nat.not_le.mpr h]
  · simp [hi, h, Nat.not_lt.mpr h]
theorem b_sshr (n : Nat) (hn : n < 32) (x : Int32) {i : Nat} (hi : i < 32) : bt (x >>> (nI n &&& 31)) i = if n + i < 32 then bt x (n + i) else bt x 31 := by
  unfold bt
  rw [Int32.toBitVec_shiftRight]
  show (x.toBitVec.sshiftRight ((nI n &&& 31).toBitVec.smod 32).toNat).getLsbD i = _
  rw [s_l n hn, BitVec.getLsbD_sshiftRight, BitVec.msb_eq_getLsbD_last]
  simp [hi]
/-! numbers: index forms -/
theorem ca_p1 (a : Nat) : nI a + 1 = nI (a + 1) := nI_1 a
theorem ca_p2 (a : Nat) : nI a + 2 = nI (a + 2) := nI_add a 2
theorem ca_22 (a : Nat) : nI a + 22 = nI (a + 22) := nI_add a 22
theorem ca_m22 (a : Nat) : nI a * 22 = nI (22 * a) := by rw [show (22 : Int32) = nI 22 from rfl, pk_mul, Nat.mul_comm]
theorem ca_m20 (a : Nat) : nI a * 20 = nI (20 * a) := by rw [show (20 : Int32) = nI 20 from rfl, pk_mul, Nat.mul_comm]
theorem ca_l20 (a : Nat) : 20 * nI a = nI (20 * a) := pk_mul 20 a
theorem ca_l22 (a : Nat) : 22 * nI a = nI (22 * a) := pk_mul 22 a
theorem ca_l2 (a : Nat) : 2 * nI a = nI (2 * a) := pk_mul 2 a
theorem ca_s1 {a : Nat} (h : 1 ≤ a) : nI a - 1 = nI (a - 1) := pk_sub (b := 1) h
theorem ca_s2 {a : Nat} (h : 2 ≤ a) : nI a - 2 = nI (a - 2) := pk_sub (b := 2) h
theorem ca_z (a : Nat) : nI (a + 1) - 1 = nI a := nI_pred a
theorem xa (r i : Nat) : nI r * 22 + nI i = nI (22 * r + i) := by rw [ca_m22, nI_add]
theorem xb (r i : Nat) : nI r * 22 + 1 + nI i = nI (22 * r + 1 + i) := by rw [ca_m22, ca_p1, nI_add]
theorem xc (r i : Nat) : nI r * 20 + nI i = nI (20 * r + i) := by rw [ca_m20, nI_add]
theorem xd (r i : Nat) : nI r * 20 + nI (i + 1) - 1 = nI (20 * r + i) := by
  rw [xc, show 20 * r + (i + 1) = 20 * r + i + 1 from rfl, ca_z]
theorem ya (r i : Nat) : 20 * nI r + nI i = nI (20 * r + i) := by rw [ca_l20, nI_add]
theorem yb (r i : Nat) : 20 * nI r + nI (i + 1) - 1 = nI (20 * r + i) := by
  rw [ya, show 20 * r + (i + 1) = 20 * r + i + 1 from rfl, ca_z]
theorem yc (r i : Nat) : 20 * nI r + nI i + 1 = nI (20 * r + i + 1) := by rw [ya, ca_p1]
theorem cl_xa {r i : Nat} (h : 22 * r + i < 2 ^ 31) : (nI r * 22 + nI i).toNatClampNeg = 22 * r + i := by rw [xa, nI_clamp h]
theorem cl_xb {r i : Nat} (h : 22 * r + 1 + i < 2 ^ 31) : (nI r * 22 + 1 + nI i).toNatClampNeg = 22 * r + 1 + i := by rw [xb, nI_clamp h]
theorem cl_xc {r i : Nat} (h : 20 * r + i < 2 ^ 31) : (nI r * 20 + nI i).toNatClampNeg = 20 * r + i := by rw [xc, nI_clamp h]
theorem cl_xd {r i : Nat} (h : 20 * r + i < 2 ^ 31) : (nI r * 20 + nI (i + 1) - 1).toNatClampNeg = 20 * r + i := by rw [xd, nI_clamp h]
theorem cl_ya {r i : Nat} (h : 20 * r + i < 2 ^ 31) : (20 * nI r + nI i).toNatClampNeg = 20 * r + i := by rw [ya, nI_clamp h]
theorem cl_yb {r i : Nat} (h : 20 * r + i < 2 ^ 31) : (20 * nI r + nI (i + 1) - 1).toNatClampNeg = 20 * r + i := by rw [yb, nI_clamp h]
theorem cl_yc {r i : Nat} (h : 20 * r + i + 1 < 2 ^ 31) : (20 * nI r + nI i + 1).toNatClampNeg = 20 * r + i + 1 := by rw [yc, nI_clamp h]
theorem ca_n1 : (-1 : Int32) < 0 := by decide
theorem ca_ne1 {a : Nat} (h : a < 2 ^ 31) : ¬ nI a = -1 := by
  intro e
  have := nI_pos (n := a) h
  rw [e] at this
  exact this ca_n1
/-! one block of an array, written cell by cell -/
def bk (f : Nat → Int32) (lo hi : Nat) (g : Nat → Int32) : Nat → Int32 := fun j => if lo ≤ j ∧ j < hi then g j else f j
theorem bk_in {f g : Nat → Int32} {lo hi j : Nat} (h1 : lo ≤ j) (h2 : j < hi) : bk f lo hi g j = g j := if_pos ⟨h1, h2⟩
theorem bk_out {f g : Nat → Int32} {lo hi j : Nat} (h : ¬ (lo ≤ j ∧ j < hi)) : bk f lo hi g j = f j := if_neg h
theorem bk_lo {f g : Nat → Int32} {lo hi j : Nat} (h : j < lo) : bk f lo hi g j = f j := if_neg (by omega)
theorem bk_hi {f g : Nat → Int32} {lo hi j : Nat} (h : hi ≤ j) : bk f lo hi g j = f j := if_neg (by omega)
theorem bk_0 {f g : Nat → Int32} {lo hi : Nat} (h : hi ≤ lo) : bk f lo hi g = f := funext fun j => if_neg (by omega)
theorem bk_up {f g : Nat → Int32} {lo hi : Nat} {x : Int32} (h : lo ≤ hi) (hx : x = g hi) : upd (bk f lo hi g) hi x = bk f lo (hi + 1) g := by
  funext j
  by_cases e : j = hi
  · rw [e, pk_us, bk_in h (by omega), hx]
  · rw [pk_un e]
    by_cases e2 : lo ≤ j ∧ j < hi
    · rw [bk_in e2.1 e2.2, bk_in e2.1 (by omega)]
    · rw [bk_out e2, bk_out (by omega)]
theorem bk_dn {f g : Nat → Int32} {lo hi : Nat} {x : Int32} (h : lo < hi) (hx : x = g lo) : upd (bk f (lo + 1) hi g) lo x = bk f lo hi g := by
  funext j
  by_cases e : j = lo
  · rw [e, pk_us, bk_in (Nat.le_refl _) h, hx]
  · rw [pk_un e]
    by_cases e2 : lo ≤ j ∧ j < hi
    · rw [bk_in e2.1 e2.2, bk_in (by omega) e2.2]
    · rw [bk_out e2, bk_out (by omega)]
theorem bk_cg {f g g' : Nat → Int32} {lo hi : Nat} (h : ∀ j, lo ≤ j → j < hi → g j = g' j) : bk f lo hi g = bk f lo hi g' := by
  funext j
  by_cases e2 : lo ≤ j ∧ j < hi
  · rw [bk_in e2.1 e2.2, bk_in e2.1 e2.2, h j e2.1 e2.2]
  · rw [bk_out e2, bk_out e2]
theorem ud_ud (f : Nat → Int32) (k : Nat) (x y : Int32) : upd (upd f k x) k y = upd f k y := by
  funext j
  by_cases e : j = k
  · rw [e, pk_us, pk_us]
  · rw [pk_un e, pk_un e, pk_un e]
theorem ud_id (f : Nat → Int32) (k : Nat) : upd f k (f k) = f := by
  funext j
  by_cases e : j = k
  · rw [e, pk_us]
  · rw [pk_un e]
/-! bits -/
theorem bq_1 : ∀ i, i < 32 → bt 1 i = decide (i = 0) := by decide +kernel
theorem bq_in (s : Int32) {c : Nat} (hc : c < 32) : ((s >>> (nI c &&& 31)) &&& 1) = 1 ↔ bt s c = true := by
  have h0 : bt (s >>> (nI c &&& 31)) 0 = bt s c := by rw [b_sshr c hc s (by omega), if_pos (by omega)]; rfl
  constructor
  · intro h
    have t : bt ((s >>> (nI c &&& 31)) &&& 1) 0 = bt 1 0 := by rw [h]
    rw [b_and, h0, bq_1 0 (by omega)] at t
    simpa using t
  · intro h
    apply b_ext
    intro i hi
    rw [b_and, bq_1 i hi]
    by_cases e : i = 0
    · subst e; rw [h0, h]; rfl
    · simp [e]
theorem bq_sh {c d : Nat} (hc : c < 32) (hd : d < 32) : bt ((1 : Int32) <<< (nI d &&& 31)) c = decide (c = d) := by
  rw [b_shl d hd 1 hc]
  by_cases e : d ≤ c
  · rw [bq_1 _ (by omega)]
    by_cases e2 : c = d
    · subst e2; simp
    · simp [e2]; omega
  · simp [e]; omega
end
section
/-! the most pairs: a table, two recurrences -/
def lc_row (p : Nat → Nat) (f : Nat → Bool) : Nat → Nat
  | 0 => 0
  | b + 1 => max (max (p (b + 1)) (lc_row p f b)) (if f b = true then p b + 1 else 0)
def lc (f : Nat → Nat → Bool) : Nat → Nat → Nat
  | 0 => fun _ => 0
  | a + 1 => lc_row (lc f a) (f a)
theorem lc_s (f : Nat → Nat → Bool) (a b : Nat) : lc f (a + 1) (b + 1) = max (max (lc f a (b + 1)) (lc f (a + 1) b)) (if f a b = true then lc f a b + 1 else 0) := rfl
theorem lc_r0 (f : Nat → Nat → Bool) (a : Nat) : lc f a 0 = 0 := by cases a <;> rfl
theorem lc_ma (f : Nat → Nat → Bool) (a b : Nat) : lc f a b ≤ lc f (a + 1) b := by
  cases b with
  | zero => rw [lc_r0]; omega
  | succ b => rw [lc_s]; omega
theorem lc_mb (f : Nat → Nat → Bool) (a b : Nat) : lc f a b ≤ lc f a (b + 1) := by
  cases a with
  | zero => exact Nat.le_refl _
  | succ a => rw [lc_s]; omega
theorem lc_la (f : Nat → Nat → Bool) (a b : Nat) : lc f (a + 1) b ≤ lc f a b + 1 := by
  induction b with
  | zero => rw [lc_r0]; omega
  | succ b ih =>
    rw [lc_s]
    have h1 := lc_mb f a b
    split <;> omega
theorem lc_lb (f : Nat → Nat → Bool) (a b : Nat) : lc f a (b + 1) ≤ lc f a b + 1 := by
  induction a with
  | zero => exact Nat.zero_le _
  | succ a ih =>
    rw [lc_s]
    have h1 := lc_ma f a b
    split <;> omega
theorem lc_le (f : Nat → Nat → Bool) (a b : Nat) : lc f a b ≤ a := by
  induction a with
  | zero => exact Nat.le_refl _
  | succ a ih => have := lc_la f a b; omega
theorem lc_t (f : Nat → Nat → Bool) {a b : Nat} (h : f a b = true) : lc f (a + 1) (b + 1) = lc f a b + 1 := by
  rw [lc_s, if_pos h]
  have h1 := lc_lb f a b
  have h2 := lc_la f a b
  omega
theorem lc_f (f : Nat → Nat → Bool) {a b : Nat} (h : f a b = false) : lc f (a + 1) (b + 1) = max (lc f a (b + 1)) (lc f (a + 1) b) := by
  rw [lc_s, if_neg (by rw [h]; decide)]
  omega
theorem lc_g (f : Nat → Nat → Bool) (a b : Nat) : lc f (a + 1) b = lc f a b ∨ ∃ b', b' < b ∧ f a b' = true ∧ lc f a b' + 1 = lc f (a + 1) b := by
  induction b with
  | zero => exact Or.inl (by rw [lc_r0, lc_r0])
  | succ b ih =>
    cases hf : f a b with
    | true => exact Or.inr ⟨b, by omega, hf, (lc_t f hf).symm⟩
    | false =>
      have e := lc_f f hf
      have h1 := lc_mb f a b
      have h2 := lc_ma f a (b + 1)
      by_cases h3 : lc f (a + 1) (b + 1) = lc f a (b + 1)
      · exact Or.inl h3
      · have h4 : lc f (a + 1) (b + 1) = lc f (a + 1) b := by omega
        rcases ih with h | ⟨b', hb, h5, h6⟩
        · omega
        · exact Or.inr ⟨b', by omega, h5, by omega⟩
/-! by positions -/
def gT (q : Nat → Nat → Bool) (m n i j : Nat) : Nat := lc (fun a b => q (m - 1 - a) (n - 1 - b)) (m - i) (n - j)
theorem gT_le (q : Nat → Nat → Bool) (m n i j : Nat) : gT q m n i j ≤ m := Nat.le_trans (lc_le _ _ _) (by omega)
theorem gT_i (q : Nat → Nat → Bool) {m n i j : Nat} (h : m ≤ i) : gT q m n i j = 0 := by
  unfold gT
  rw [show m - i = 0 by omega]
  rfl
theorem gT_j (q : Nat → Nat → Bool) {m n i j : Nat} (h : n ≤ j) : gT q m n i j = 0 := by
  unfold gT
  rw [show n - j = 0 by omega]
  exact lc_r0 _ _
theorem gT_t (q : Nat → Nat → Bool) {m n i j : Nat} (hi : i < m) (hj : j < n) (h : q i j = true) : gT q m n i j = gT q m n (i + 1) (j + 1) + 1 := by
  unfold gT
  obtain ⟨a, rfl⟩ : ∃ a, m = i + 1 + a := ⟨m - i - 1, by omega⟩
  obtain ⟨b, rfl⟩ : ∃ b, n = j + 1 + b := ⟨n - j - 1, by omega⟩
  rw [show i + 1 + a - i = a + 1 by omega, show j + 1 + b - j = b + 1 by omega, show i + 1 + a - (i + 1) = a by omega, show j + 1 + b - (j + 1) = b by omega]
  refine lc_t _ ?_
  rw [show i + 1 + a - 1 - a = i by omega, show j + 1 + b - 1 - b = j by omega]
  exact h
theorem gT_f (q : Nat → Nat → Bool) {m n i j : Nat} (hi : i < m) (hj : j < n) (h : q i j = false) : gT q m n i j = max (gT q m n (i + 1) j) (gT q m n i (j + 1)) := by
  unfold gT
  obtain ⟨a, rfl⟩ : ∃ a, m = i + 1 + a := ⟨m - i - 1, by omega⟩
  obtain ⟨b, rfl⟩ : ∃ b, n = j + 1 + b := ⟨n - j - 1, by omega⟩
  rw [show i + 1 + a - i = a + 1 by omega, show j + 1 + b - j = b + 1 by omega, show i + 1 + a - (i + 1) = a by omega, show j + 1 + b - (j + 1) = b by omega]
  refine lc_f _ ?_
  rw [show i + 1 + a - 1 - a = i by omega, show j + 1 + b - 1 - b = j by omega]
  exact h
theorem gT_ge (q : Nat → Nat → Bool) (m n i j : Nat) : gT q m n (i + 1) j ≤ gT q m n i j ∧ gT q m n i (j + 1) ≤ gT q m n i j := by
  unfold gT
  constructor
  · by_cases h : i < m
    · rw [show m - i = m - (i + 1) + 1 by omega]; exact lc_ma _ _ _
    · rw [show m - i = m - (i + 1) by omega]; exact Nat.le_refl _
  · by_cases h : j < n
    · rw [show n - j = n - (j + 1) + 1 by omega]; exact lc_mb _ _ _
    · rw [show n - j = n - (j + 1) by omega]; exact Nat.le_refl _
theorem gT_g (q : Nat → Nat → Bool) {m n i j : Nat} (hi : i < m) (hn : ∀ k, j ≤ k → k < n → q i k = true → gT q m n (i + 1) (k + 1) + 1 ≠ gT q m n i j) : gT q m n (i + 1) j = gT q m n i j := by
  obtain ⟨a, rfl⟩ : ∃ a, m = i + 1 + a := ⟨m - i - 1, by omega⟩
  have key := lc_g (fun a' b => q (i + 1 + a - 1 - a') (n - 1 - b)) a (n - j)
  unfold gT at hn ⊢
  rw [show i + 1 + a - i = a + 1 by omega, show i + 1 + a - (i + 1) = a by omega] at *
  rcases key with h | ⟨b', hb, h5, h6⟩
  · exact h.symm
  · exfalso
    rw [show i + 1 + a - 1 - a = i by omega] at h5
    have := hn (n - 1 - b') (by omega) (by omega) h5
    rw [show n - (n - 1 - b' + 1) = b' by omega] at this
    exact this h6
/-! the first that fits -/
def gf (P : Nat → Bool) : Nat → Nat → Option Nat
  | 0, _ => none
  | d + 1, j => if P j = true then some j else gf P d (j + 1)
theorem gf_s {P : Nat → Bool} : ∀ {d j k : Nat}, gf P d j = some k → j ≤ k ∧ k < j + d ∧ P k = true ∧ ∀ i, j ≤ i → i < k → P i = false := by
  intro d
  induction d with
  | zero => intro j k h; cases h
  | succ d ih =>
    intro j k h
    rw [gf] at h
    by_cases e : P j = true
    · rw [if_pos e] at h
      cases h
      exact ⟨Nat.le_refl _, by omega, e, fun i h1 h2 => by omega⟩
    · rw [if_neg e] at h
      obtain ⟨h1, h2, h3, h4⟩ := ih h
      refine ⟨by omega, by omega, h3, fun i h5 h6 => ?_⟩
      by_cases e2 : i = j
      · rw [e2]; cases hp : P j with
        | true => exact absurd hp e
        | false => rfl
      · exact h4 i (by omega) h6
theorem gf_n {P : Nat → Bool} : ∀ {d j : Nat}, gf P d j = none → ∀ i, j ≤ i → i < j + d → P i = false := by
  intro d
  induction d with
  | zero => intro j h i h1 h2; omega
  | succ d ih =>
    intro j h i h1 h2
    rw [gf] at h
    by_cases e : P j = true
    · rw [if_pos e] at h; cases h
    · rw [if_neg e] at h
      by_cases e2 : i = j
      · rw [e2]; cases hp : P j with
        | true => exact absurd hp e
        | false => rfl
      · exact ih h i (by omega) (by omega)
theorem gf_t {P : Nat → Bool} {d j : Nat} (h : P j = true) : gf P (d + 1) j = some j := by rw [gf, if_pos h]
theorem gf_f {P : Nat → Bool} {d j : Nat} (h : P j = false) : gf P (d + 1) j = gf P d (j + 1) := by rw [gf, if_neg (by rw [h]; decide)]
/-! the greedy pairs -/
def nu (f : Nat → Nat) (k x : Nat) : Nat → Nat := fun j => if j = k then x else f j
theorem nu_s {f : Nat → Nat} {k x : Nat} : nu f k x k = x := if_pos rfl
theorem nu_n {f : Nat → Nat} {k x j : Nat} (h : j ≠ k) : nu f k x j = f j := if_neg h
def gP (q : Nat → Nat → Bool) (m n i fr : Nat) : Nat → Bool := fun j => q i j && (gT q m n (i + 1) (j + 1) + 1 == gT q m n i fr)
def gst (q : Nat → Nat → Bool) (m n i : Nat) (s : Nat × (Nat → Nat) × (Nat → Nat)) : Nat × (Nat → Nat) × (Nat → Nat) :=
  match gf (gP q m n i (s.2.2 s.1)) (n - s.2.2 s.1) (s.2.2 s.1) with
  | none => s
  | some j => (s.1 + 1, nu s.2.1 (s.1 + 1) (i + 1), nu s.2.2 (s.1 + 1) (j + 1))
def gs (q : Nat → Nat → Bool) (m n : Nat) : Nat → Nat × (Nat → Nat) × (Nat → Nat)
  | 0 => (0, fun _ => 0, fun _ => 0)
  | i + 1 => gst q m n i (gs q m n i)
def gI (q : Nat → Nat → Bool) (m n i : Nat) (s : Nat × (Nat → Nat) × (Nat → Nat)) : Prop :=
  s.1 ≤ i ∧ s.2.2 s.1 ≤ n ∧ s.1 ≤ s.2.2 s.1 ∧ gT q m n i (s.2.2 s.1) + s.1 = gT q m n 0 0 ∧ s.2.1 0 = 0 ∧ s.2.2 0 = 0 ∧ s.2.1 s.1 ≤ i ∧ ∀ k, k < s.1 → s.2.1 k < s.2.1 (k + 1) ∧ s.2.2 k < s.2.2 (k + 1)
theorem gst_n {q : Nat → Nat → Bool} {m n i : Nat} {s : Nat × (Nat → Nat) × (Nat → Nat)} (h : gf (gP q m n i (s.2.2 s.1)) (n - s.2.2 s.1) (s.2.2 s.1) = none) : gst q m n i s = s := by
  unfold gst; rw [h]
theorem gst_s {q : Nat → Nat → Bool} {m n i j : Nat} {s : Nat × (Nat → Nat) × (Nat → Nat)} (h : gf (gP q m n i (s.2.2 s.1)) (n - s.2.2 s.1) (s.2.2 s.1) = some j) : gst q m n i s = (s.1 + 1, nu s.2.1 (s.1 + 1) (i + 1), nu s.2.2 (s.1 + 1) (j + 1)) := by
  unfold gst; rw [h]
theorem gI_0 (q : Nat → Nat → Bool) (m n : Nat) : gI q m n 0 (gs q m n 0) := ⟨Nat.le_refl _, Nat.zero_le _, Nat.le_refl _, rfl, rfl, rfl, Nat.le_refl _, fun k h => absurd h (Nat.not_lt_zero k)⟩
theorem gI_s {q : Nat → Nat → Bool} {m n i : Nat} {s : Nat × (Nat → Nat) × (Nat → Nat)} (hi : i < m) (h : gI q m n i s) : gI q m n (i + 1) (gst q m n i s) := by
  obtain ⟨a, pl, pt⟩ := s
  obtain ⟨h1, h2, h3, h4, h5, h6, h7, h8⟩ := h
  dsimp only at h1 h2 h3 h4 h5 h6 h7 h8
  cases hg : gf (gP q m n i (pt a)) (n - pt a) (pt a) with
  | none =>
    rw [gst_n hg]
    have hn := gf_n hg
    refine ⟨by dsimp only; omega, h2, h3, ?_, h5, h6, by dsimp only; omega, h8⟩
    dsimp only
    rw [gT_g q hi ?_]
    · exact h4
    · intro k hk1 hk2 hk3 hk4
      have := hn k hk1 (by omega)
      unfold gP at this
      rw [hk3, hk4] at this
      simp at this
  | some j =>
    rw [gst_s hg]
    obtain ⟨g1, g2, g3, g4⟩ := gf_s hg
    unfold gP at g3
    rw [Bool.and_eq_true, beq_iff_eq] at g3
    refine ⟨by dsimp only; omega, ?_, ?_, ?_, ?_, ?_, ?_, ?_⟩ <;> dsimp only
    · rw [nu_s]; omega
    · rw [nu_s]; omega
    · rw [nu_s]; omega
    · rw [nu_n (by omega)]; exact h5
    · rw [nu_n (by omega)]; exact h6
    · rw [nu_s]; omega
    · intro k hk
      by_cases e : k = a
      · subst e
        rw [nu_s, nu_n (by omega), nu_s, nu_n (by omega)]
        omega
      · rw [nu_n (by omega), nu_n (by omega), nu_n (by omega), nu_n (by omega)]
        exact h8 k (by omega)
theorem gI_i {q : Nat → Nat → Bool} {m n : Nat} : ∀ i, i ≤ m → gI q m n i (gs q m n i) := by
  intro i
  induction i with
  | zero => intro _; exact gI_0 q m n
  | succ i ih => intro h; exact gI_s (by omega) (ih (by omega))
end
section
/-! the relation -/
def rl_F (aF aL bF : Nat → Int32) (p : Nat) : Prop := ∀ r, r < 3 → ∃ m, m ≤ 20 ∧ aL r = nI m ∧ aF (22 * r) = 60 ∧ aF (22 * r + 1 + m) = 61 ∧ ∀ i, i < m → aF (22 * r + 1 + i) = bF (20 * r + i) ∧ ∃ l, l < p ∧ bF (20 * r + i) = nI l
def rl_T (aT : Nat → Int32) : Prop := ∀ r, r < 3 → ∃ n, n ≤ 20 ∧ aT r = nI n
def rl_S (aG aH : Nat → Int32) (q : Nat) (e d k : Int32) (A : Nat → Int32) (b p : Nat) : Prop := ∃ t, t ≤ 20 ∧ k = nI t ∧ aH q = nI (t + 2) ∧ aG (22 * q) = e ∧ aG (22 * q + 1 + t) = d ∧ ∀ i, i < t → aG (22 * q + 1 + i) = A (b + i) ∧ ∃ l, l < p ∧ A (b + i) = nI l
def rl_C (aG aH bE bD bK bU bO bV : Nat → Int32) (p d : Nat) : Prop := rl_S aG aH (2 * d) (bE d) (bD d) (bK d) bO (20 * d) p ∧ rl_S aG aH (2 * d + 1) (bE d) (bD d) (bU d) bV (20 * d) p
def rl_R (p c : Nat) (aF aL bF aT aR aN aG aH bE bD bK bU bO bV : Nat → Int32) : Prop :=
  p ≤ 60 ∧ c ≤ 16 ∧ rl_F aF aL bF p ∧ rl_T aT ∧ (∀ d, d < c → rl_C aG aH bE bD bK bU bO bV p d) ∧ (∀ d, c ≤ d → d < 16 → aH (2 * d) = 0 ∧ aH (2 * d + 1) = 0) ∧ (∀ r, r < 3 → ∀ d, c ≤ d → d < 32 → bt (aR r) d = false) ∧ (∀ e, e < c → ∀ d, c ≤ d → d < 32 → bt (aN e) d = false)
def i_Rel (k : Nat) (u : SX) (v : SY) : Prop := ∃ (p c : Nat) (ft fr fs : Int32) (aF aL aC aT aR aX aS aG aH aN aW aM aP aQ bE bD bK bU bO bV bF bW bP bM : Nat → Int32), u = (nI p, nI c, ft, fr, aF, aL, aC, aT, aR, aX, aS, aG, aH, aN, aW, aM, aP, aQ) ∧ v = (nI p, nI c, fs, aX, aS, bE, bD, bK, bU, bO, bV, aN, aL, bF, aT, aC, aR, bW, bP, bM) ∧ rl_R p c aF aL bF aT aR aN aG aH bE bD bK bU bO bV
theorem i_up {k : Nat} {u : SX} {v : SY} (h : i_Rel k u v) : i_Rel (k + 4) u v := h
section
variable {p c : Nat} {fp fc ft fr : Int32} {aF aL aC aT aR aX aS aG aH aN aW aM aP aQ : Nat → Int32} {fs : Int32} {bE bD bK bU bO bV bF bW bP bM : Nat → Int32}
theorem rl_mk {k : Nat} (h : rl_R p c aF aL bF aT aR aN aG aH bE bD bK bU bO bV) : i_Rel k (nI p, nI c, ft, fr, aF, aL, aC, aT, aR, aX, aS, aG, aH, aN, aW, aM, aP, aQ) (nI p, nI c, fs, aX, aS, bE, bD, bK, bU, bO, bV, aN, aL, bF, aT, aC, aR, bW, bP, bM) := ⟨p, c, ft, fr, fs, aF, aL, aC, aT, aR, aX, aS, aG, aH, aN, aW, aM, aP, aQ, bE, bD, bK, bU, bO, bV, bF, bW, bP, bM, rfl, rfl, h⟩
end
theorem i_vc0 : wpX_init (fun u => wpY_init (fun v => i_Rel 0 u v)) := by
  refine ⟨4, br_f (by decide) ⟨pk_in 0 66 (by decide), nm_r rfl ⟨pk_in 1 66 (by decide), nm_r rfl (nm_r (e' := nI 1) rfl ?_)⟩⟩⟩
  refine br_f (by decide) ⟨pk_in 22 66 (by decide), nm_r rfl ⟨pk_in 23 66 (by decide), nm_r rfl (nm_r (e' := nI 2) rfl ?_)⟩⟩
  refine br_f (by decide) ⟨pk_in 44 66 (by decide), nm_r rfl ⟨pk_in 45 66 (by decide), nm_r rfl (nm_r (e' := nI 3) rfl ?_)⟩⟩
  refine br_t (by decide) ?_
  refine rl_mk (p := 0) (c := 0) (k := 0) ⟨by omega, by omega, ?_, ?_, fun d h => absurd h (Nat.not_lt_zero d), fun d _ _ => ⟨rfl, rfl⟩, fun r _ d _ _ => b_0 d, fun d h => absurd h (Nat.not_lt_zero d)⟩
  · intro r hr
    refine ⟨0, by omega, rfl, ?_, ?_, fun i h => absurd h (Nat.not_lt_zero i)⟩
    · obtain rfl | rfl | rfl : r = 0 ∨ r = 1 ∨ r = 2 := by omega
      · rfl
      · rfl
      · rfl
    · obtain rfl | rfl | rfl : r = 0 ∨ r = 1 ∨ r = 2 := by omega
      · rfl
      · rfl
      · rfl
  · exact fun r _ => ⟨0, by omega, rfl⟩
/-! reading, writing -/
theorem rd {a : Nat → Int32} {x y : Int32} {k : Nat} (hx : x = nI k) (hk : k < 2 ^ 31) (h : a k = y) : a x.toNatClampNeg = y := by rw [hx, nI_clamp hk, h]
theorem wr {f : Nat → Int32} {x y y' : Int32} {k : Nat} (hx : x = nI k) (hk : k < 2 ^ 31) (hy : y = y') : upd f x.toNatClampNeg y = upd f k y' := by rw [hx, nI_clamp hk, hy]
theorem ca_10 : ¬ (1 : Int32) = 0 := by decide
theorem rl_Tu {aT : Nat → Int32} {r n : Nat} (h : rl_T aT) (hn : n ≤ 20) : rl_T (upd aT r (nI n)) := by
  intro s hs
  by_cases e : s = r
  · exact ⟨n, hn, by rw [e, pk_us]⟩
  · rw [pk_un e]; exact h s hs
/-! rooms, changes -/
def rm_b (x : Int32) : Prop := x < 0 ∨ (¬ x < 0 ∧ (3 : Int32) ≤ x)
theorem rm_c (x : Int32) : (∃ r, r < 3 ∧ x = nI r) ∨ rm_b x := by
  by_cases h : x < 0
  · exact Or.inr (Or.inl h)
  · obtain ⟨j, hj, rfl⟩ := nI_of h
    by_cases h2 : j < 3
    · exact Or.inl ⟨j, h2, rfl⟩
    · exact Or.inr (Or.inr ⟨h, nI_le (a := 3) (by omega) hj⟩)
theorem rx_1 {post : Int32 → Prop} {r : Nat} (h : r < 3) (hp : post 1) : wpX_isRoom post (nI r) := br_f (nI_pos (by omega)) (br_f (nI_ge (b := 3) h (by decide)) hp)
theorem rx_0 {post : Int32 → Prop} {x : Int32} (h : rm_b x) (hp : post 0) : wpX_isRoom post x := by
  rcases h with h | ⟨h, h2⟩
  · exact br_t h hp
  · exact br_f h (br_t h2 hp)
section
variable {fp fc fs : Int32} {aX aS bE bD bK bU bO bV aN aL bF aT aC aR bW bP bM : Nat → Int32}
theorem ry_1 {post : Int32 → Prop} {r : Nat} (h : r < 3) (hp : post 1) : wpY_isRoom post (fp, fc, fs, aX, aS, bE, bD, bK, bU, bO, bV, aN, aL, bF, aT, aC, aR, bW, bP, bM) (nI r) := br_f (nI_pos (by omega)) (br_f (nI_nlt (b := r) (a := 2) (by omega) (by decide)) hp)
theorem ry_0 {post : Int32 → Prop} {x : Int32} (h : rm_b x) (hp : post 0) : wpY_isRoom post (fp, fc, fs, aX, aS, bE, bD, bK, bU, bO, bV, aN, aL, bF, aT, aC, aR, bW, bP, bM) x := by
  rcases h with h | ⟨h, h2⟩
  · exact br_t h hp
  · exact br_f h (br_t (Int32.lt_of_lt_of_le (by decide) h2) hp)
end
def rc_b (c : Nat) (x : Int32) : Prop := x < 0 ∨ (¬ x < 0 ∧ nI c ≤ x)
theorem rc_c (c : Nat) (x : Int32) : (∃ d, d < c ∧ x = nI d) ∨ rc_b c x := by
  by_cases h : x < 0
  · exact Or.inr (Or.inl h)
  · obtain ⟨j, hj, rfl⟩ := nI_of h
    by_cases h2 : j < c
    · exact Or.inl ⟨j, h2, rfl⟩
    · exact Or.inr (Or.inr ⟨h, nI_le (by omega) hj⟩)
section
variable {fp fc ft fr : Int32} {aF aL aC aT aR aX aS aG aH aN aW aM aP aQ : Nat → Int32}
theorem cx_1 {post : Int32 → Prop} {c d : Nat} (hc : c ≤ 16) (h : d < c) (hp : post 1) : wpX_isChange post (fp, nI c, ft, fr, aF, aL, aC, aT, aR, aX, aS, aG, aH, aN, aW, aM, aP, aQ) (nI d) := br_f (nI_pos (by omega)) (br_f (nI_ge h (by omega)) hp)
theorem cx_0 {post : Int32 → Prop} {c : Nat} {x : Int32} (h : rc_b c x) (hp : post 0) : wpX_isChange post (fp, nI c, ft, fr, aF, aL, aC, aT, aR, aX, aS, aG, aH, aN, aW, aM, aP, aQ) x := by
  rcases h with h | ⟨h, h2⟩
  · exact br_t h hp
  · exact br_f h (br_t h2 hp)
theorem ix_1 {post : Int32 → Prop} {s : Int32} {d : Nat} (hd : d < 32) (h : bt s d = true) (hp : post 1) : wpX_isIn post s (nI d) := br_t ((bq_in s hd).mpr h) hp
theorem ix_0 {post : Int32 → Prop} {s : Int32} {d : Nat} (hd : d < 32) (h : bt s d = false) (hp : post 0) : wpX_isIn post s (nI d) := br_f (fun z => by rw [(bq_in s hd).mp z] at h; cases h) hp
theorem hx_1 {post : Int32 → Prop} {r d : Nat} (hr : r < 3) (hd : d < 32) (h : bt (aR r) d = true) (hp : post 1) : wpX_roomHas post (fp, fc, ft, fr, aF, aL, aC, aT, aR, aX, aS, aG, aH, aN, aW, aM, aP, aQ) (nI r) (nI d) := ⟨vp_in_nI hr (by decide), ix_1 hd (by rw [nI_clamp (by omega)]; exact h) ⟨by decide, hp⟩⟩
theorem hx_0 {post : Int32 → Prop} {r d : Nat} (hr : r < 3) (hd : d < 32) (h : bt (aR r) d = false) (hp : post 0) : wpX_roomHas post (fp, fc, ft, fr, aF, aL, aC, aT, aR, aX, aS, aG, aH, aN, aW, aM, aP, aQ) (nI r) (nI d) := ⟨vp_in_nI hr (by decide), ix_0 hd (by rw [nI_clamp (by omega)]; exact h) ⟨by decide, hp⟩⟩
end
section
variable {fp fc fs : Int32} {aX aS bE bD bK bU bO bV aN aL bF aT aC aR bW bP bM : Nat → Int32}
theorem cy_1 {post : Int32 → Prop} {c d : Nat} (hc : c ≤ 16) (h : d < c) (hp : post 1) : wpY_isChange post (fp, nI c, fs, aX, aS, bE, bD, bK, bU, bO, bV, aN, aL, bF, aT, aC, aR, bW, bP, bM) (nI d) := br_f (nI_pos (by omega)) (br_f (nI_ge h (by omega)) hp)
theorem cy_0 {post : Int32 → Prop} {c : Nat} {x : Int32} (h : rc_b c x) (hp : post 0) : wpY_isChange post (fp, nI c, fs, aX, aS, bE, bD, bK, bU, bO, bV, aN, aL, bF, aT, aC, aR, bW, bP, bM) x := by
  rcases h with h | ⟨h, h2⟩
  · exact br_t h hp
  · exact br_f h (br_t h2 hp)
theorem iy_1 {post : Int32 → Prop} {s : Int32} {d : Nat} (hd : d < 32) (h : bt s d = true) (hp : post 1) : wpY_in post (fp, fc, fs, aX, aS, bE, bD, bK, bU, bO, bV, aN, aL, bF, aT, aC, aR, bW, bP, bM) s (nI d) := br_t ((bq_in s hd).mpr h) hp
theorem iy_0 {post : Int32 → Prop} {s : Int32} {d : Nat} (hd : d < 32) (h : bt s d = false) (hp : post 0) : wpY_in post (fp, fc, fs, aX, aS, bE, bD, bK, bU, bO, bV, aN, aL, bF, aT, aC, aR, bW, bP, bM) s (nI d) := br_f (fun z => by rw [(bq_in s hd).mp z] at h; cases h) hp
end
/-! the reading methods -/
end
section
theorem i_vc_changes {k : Nat} {u : SX} {v : SY} (I : i_Rel k u v) (hk : k + 4 ≤ 2048) : wpX_changes (fun r => wpY_changes (fun r' => r' = r ∧ i_Rel (k + 4) u v) v) u := by
  have J := i_up I
  obtain ⟨p, c, ft, fr, fs, aF, aL, aC, aT, aR, aX, aS, aG, aH, aN, aW, aM, aP, aQ, bE, bD, bK, bU, bO, bV, bF, bW, bP, bM, rfl, rfl, hR⟩ := I
  exact ⟨rfl, J⟩
theorem i_vc_lines {k : Nat} {u : SX} {v : SY} (I : i_Rel k u v) (hk : k + 4 ≤ 2048) (v1 : Int32) : wpX_lines (fun r => wpY_lines (fun r' => r' = r ∧ i_Rel (k + 4) u v) v v1) u v1 := by
  have J := i_up I
  obtain ⟨p, c, ft, fr, fs, aF, aL, aC, aT, aR, aX, aS, aG, aH, aN, aW, aM, aP, aQ, bE, bD, bK, bU, bO, bV, bF, bW, bP, bM, rfl, rfl, hR⟩ := I
  unfold wpX_lines wpY_lines
  rcases rm_c v1 with ⟨r, hr, rfl⟩ | hb
  · refine rx_1 hr (br_f ca_10 ⟨vp_in_nI hr (by decide), ?_⟩)
    exact ry_1 hr (br_f ca_10 ⟨vp_in_nI hr (by decide), rfl, J⟩)
  · refine rx_0 hb (br_t rfl ?_)
    exact ry_0 hb (br_t rfl ⟨rfl, J⟩)
theorem i_vc_line {k : Nat} {u : SX} {v : SY} (I : i_Rel k u v) (hk : k + 4 ≤ 2048) (v1 : Int32) (v2 : Int32) : wpX_line (fun r => wpY_line (fun r' => r' = r ∧ i_Rel (k + 4) u v) v v1 v2) u v1 v2 := by
  have J := i_up I
  obtain ⟨p, c, ft, fr, fs, aF, aL, aC, aT, aR, aX, aS, aG, aH, aN, aW, aM, aP, aQ, bE, bD, bK, bU, bO, bV, bF, bW, bP, bM, rfl, rfl, hR⟩ := I
  unfold wpX_line wpY_line
  rcases rm_c v1 with ⟨r, hr, rfl⟩ | hb
  · obtain ⟨hp, hc, hF, hT, -⟩ := hR
    obtain ⟨m, hm, eL, -, -, hf⟩ := hF r hr
    have eL' : aL (nI r).toNatClampNeg = nI m := rd rfl (by omega) eL
    by_cases h0 : v2 < 0
    · refine rx_1 hr (br_f ca_10 (br_t h0 ?_))
      exact ry_1 hr (br_f ca_10 (br_t h0 ⟨rfl, J⟩))
    · obtain ⟨i, hi, rfl⟩ := nI_of h0
      by_cases h : i < m
      · obtain ⟨e1, l, hl, e2⟩ := hf i h
        have ex : aF (nI r * 22 + 1 + nI i).toNatClampNeg = nI l := rd (xb r i) (by omega) (e1.trans e2)
        have ey : bF (20 * nI r + nI i).toNatClampNeg = nI l := rd (ya r i) (by omega) e2
        refine rx_1 hr (br_f ca_10 (br_f h0 ⟨vp_in_nI hr (by decide), br_t (by rw [eL']; exact nI_lt h (by omega)) ⟨pk_in (22 * r + 1 + i) 66 (by omega) (xb r i), ?_⟩⟩))
        refine ⟨by rw [ex]; exact vp_in_nI (by omega) (by decide), ?_⟩
        refine ry_1 hr (br_f ca_10 (br_f h0 ⟨vp_in_nI hr (by decide), br_f (by rw [eL']; exact nI_ge h (by omega)) ⟨pk_in (20 * r + i) 60 (by omega) (ya r i), ?_⟩⟩))
        refine ⟨by rw [ey]; exact vp_in_nI (by omega) (by decide), ?_, J⟩
        rw [ex, ey]
      · refine rx_1 hr (br_f ca_10 (br_f h0 ⟨vp_in_nI hr (by decide), br_f (by rw [eL']; exact nI_nlt (by omega) hi) ?_⟩))
        exact ry_1 hr (br_f ca_10 (br_f h0 ⟨vp_in_nI hr (by decide), br_t (by rw [eL']; exact nI_le (by omega) hi) ⟨rfl, J⟩⟩))
  · refine rx_0 hb (br_t rfl ?_)
    exact ry_0 hb (br_t rfl ⟨rfl, J⟩)
theorem i_vc_source {k : Nat} {u : SX} {v : SY} (I : i_Rel k u v) (hk : k + 4 ≤ 2048) (v1 : Int32) (v2 : Int32) : wpX_source (fun r => wpY_source (fun r' => r' = r ∧ i_Rel (k + 4) u v) v v1 v2) u v1 v2 := by
  have J := i_up I
  obtain ⟨p, c, ft, fr, fs, aF, aL, aC, aT, aR, aX, aS, aG, aH, aN, aW, aM, aP, aQ, bE, bD, bK, bU, bO, bV, bF, bW, bP, bM, rfl, rfl, hR⟩ := I
  unfold wpX_source wpY_source
  rcases rm_c v1 with ⟨r, hr, rfl⟩ | hb
  · obtain ⟨hp, hc, hF, hT, -⟩ := hR
    obtain ⟨m, hm, eL, -, -, hf⟩ := hF r hr
    have eL' : aL (nI r).toNatClampNeg = nI m := rd rfl (by omega) eL
    by_cases h0 : v2 < 0
    · refine rx_1 hr (br_f ca_10 (br_t h0 ?_))
      exact ry_1 hr (br_f ca_10 (br_t h0 ⟨rfl, J⟩))
    · obtain ⟨i, hi, rfl⟩ := nI_of h0
      by_cases h : i < m
      · obtain ⟨e1, l, hl, e2⟩ := hf i h
        have ex : aF (nI r * 22 + 1 + nI i).toNatClampNeg = nI l := rd (xb r i) (by omega) (e1.trans e2)
        have ey : bF (20 * nI r + nI i).toNatClampNeg = nI l := rd (ya r i) (by omega) e2
        refine rx_1 hr (br_f ca_10 (br_f h0 ⟨vp_in_nI hr (by decide), br_t (by rw [eL']; exact nI_lt h (by omega)) ⟨pk_in (22 * r + 1 + i) 66 (by omega) (xb r i), ?_⟩⟩))
        refine ⟨by rw [ex]; exact vp_in_nI (by omega) (by decide), ?_⟩
        refine ry_1 hr (br_f ca_10 (br_f h0 ⟨vp_in_nI hr (by decide), br_f (by rw [eL']; exact nI_ge h (by omega)) ⟨pk_in (20 * r + i) 60 (by omega) (ya r i), ?_⟩⟩))
        refine ⟨by rw [ey]; exact vp_in_nI (by omega) (by decide), ?_, J⟩
        rw [ex, ey]
      · refine rx_1 hr (br_f ca_10 (br_f h0 ⟨vp_in_nI hr (by decide), br_f (by rw [eL']; exact nI_nlt (by omega) hi) ?_⟩))
        exact ry_1 hr (br_f ca_10 (br_f h0 ⟨vp_in_nI hr (by decide), br_t (by rw [eL']; exact nI_le (by omega) hi) ⟨rfl, J⟩⟩))
  · refine rx_0 hb (br_t rfl ?_)
    exact ry_0 hb (br_t rfl ⟨rfl, J⟩)
theorem i_vc_text {k : Nat} {u : SX} {v : SY} (I : i_Rel k u v) (hk : k + 4 ≤ 2048) (v1 : Int32) (v2 : Int32) : wpX_text (fun r => wpY_text (fun r' => r' = r ∧ i_Rel (k + 4) u v) v v1 v2) u v1 v2 := by
  have J := i_up I
  obtain ⟨p, c, ft, fr, fs, aF, aL, aC, aT, aR, aX, aS, aG, aH, aN, aW, aM, aP, aQ, bE, bD, bK, bU, bO, bV, bF, bW, bP, bM, rfl, rfl, hR⟩ := I
  unfold wpX_text wpY_text
  rcases rm_c v1 with ⟨r, hr, rfl⟩ | hb
  · obtain ⟨hp, hc, hF, hT, -⟩ := hR
    obtain ⟨n, hn, eT⟩ := hT r hr
    have eT' : aT (nI r).toNatClampNeg = nI n := rd rfl (by omega) eT
    by_cases h0 : v2 < 0
    · refine rx_1 hr (br_f ca_10 (br_t h0 ?_))
      exact ry_1 hr (br_f ca_10 (br_t h0 ⟨rfl, J⟩))
    · obtain ⟨i, hi, rfl⟩ := nI_of h0
      by_cases h : i < n
      · refine rx_1 hr (br_f ca_10 (br_f h0 ⟨vp_in_nI hr (by decide), br_t (by rw [eT']; exact nI_lt h (by omega)) ⟨pk_in (20 * r + i) 60 (by omega) (xc r i), ?_⟩⟩))
        refine ry_1 hr (br_f ca_10 (br_f h0 ⟨vp_in_nI hr (by decide), br_f (by rw [eT']; exact nI_ge h (by omega)) ⟨pk_in (20 * r + i) 60 (by omega) (ya r i), ?_, J⟩⟩))
        rw [xc, ya]
      · refine rx_1 hr (br_f ca_10 (br_f h0 ⟨vp_in_nI hr (by decide), br_f (by rw [eT']; exact nI_nlt (by omega) hi) ?_⟩))
        exact ry_1 hr (br_f ca_10 (br_f h0 ⟨vp_in_nI hr (by decide), br_t (by rw [eT']; exact nI_le (by omega) hi) ⟨rfl, J⟩⟩))
  · refine rx_0 hb (br_t rfl ?_)
    exact ry_0 hb (br_t rfl ⟨rfl, J⟩)
theorem i_vc_has {k : Nat} {u : SX} {v : SY} (I : i_Rel k u v) (hk : k + 4 ≤ 2048) (v1 : Int32) (v2 : Int32) : wpX_has (fun r => wpY_has (fun r' => r' = r ∧ i_Rel (k + 4) u v) v v1 v2) u v1 v2 := by
  have J := i_up I
  obtain ⟨p, c, ft, fr, fs, aF, aL, aC, aT, aR, aX, aS, aG, aH, aN, aW, aM, aP, aQ, bE, bD, bK, bU, bO, bV, bF, bW, bP, bM, rfl, rfl, hR⟩ := I
  unfold wpX_has wpY_has
  rcases rm_c v1 with ⟨r, hr, rfl⟩ | hb
  · obtain ⟨hp, hc, -⟩ := hR
    rcases rc_c c v2 with ⟨d, hd, rfl⟩ | hb
    · have ea : aR (nI r).toNatClampNeg = aR r := rd rfl (by omega) rfl
      cases hx : bt (aR r) d with
      | true =>
        refine rx_1 hr (br_f ca_10 (cx_1 hc hd (br_f ca_10 (hx_1 hr (by omega) hx (br_f ca_10 ?_)))))
        exact ry_1 hr (br_f ca_10 (cy_1 hc hd (br_f ca_10 ⟨vp_in_nI hr (by decide), iy_1 (by omega) (by rw [ea]; exact hx) (br_f ca_10 ⟨rfl, J⟩)⟩)))
      | false =>
        refine rx_1 hr (br_f ca_10 (cx_1 hc hd (br_f ca_10 (hx_0 hr (by omega) hx (br_t rfl ?_)))))
        exact ry_1 hr (br_f ca_10 (cy_1 hc hd (br_f ca_10 ⟨vp_in_nI hr (by decide), iy_0 (by omega) (by rw [ea]; exact hx) (br_t rfl ⟨rfl, J⟩)⟩)))
    · refine rx_1 hr (br_f ca_10 (cx_0 hb (br_t rfl ?_)))
      exact ry_1 hr (br_f ca_10 (cy_0 hb (br_t rfl ⟨rfl, J⟩)))
  · refine rx_0 hb (br_t rfl ?_)
    exact ry_0 hb (br_t rfl ⟨rfl, J⟩)
theorem i_vc_needs {k : Nat} {u : SX} {v : SY} (I : i_Rel k u v) (hk : k + 4 ≤ 2048) (v1 : Int32) (v2 : Int32) : wpX_needs (fun r => wpY_needs (fun r' => r' = r ∧ i_Rel (k + 4) u v) v v1 v2) u v1 v2 := by
  have J := i_up I
  obtain ⟨p, c, ft, fr, fs, aF, aL, aC, aT, aR, aX, aS, aG, aH, aN, aW, aM, aP, aQ, bE, bD, bK, bU, bO, bV, bF, bW, bP, bM, rfl, rfl, hR⟩ := I
  unfold wpX_needs wpY_needs
  obtain ⟨hp, hc, -⟩ := hR
  rcases rc_c c v1 with ⟨d, hd, rfl⟩ | hb
  · rcases rc_c c v2 with ⟨e, he, rfl⟩ | hb
    · have ea : aN (nI d).toNatClampNeg = aN d := rd rfl (by omega) rfl
      cases hx : bt (aN d) e with
      | true =>
        refine cx_1 hc hd (br_f ca_10 (cx_1 hc he (br_f ca_10 ⟨vp_in_nI (by omega) (by decide), ix_1 (by omega) (by rw [ea]; exact hx) (br_f ca_10 ?_)⟩)))
        exact cy_1 hc hd (br_f ca_10 (cy_1 hc he (br_f ca_10 ⟨vp_in_nI (by omega) (by decide), iy_1 (by omega) (by rw [ea]; exact hx) (br_f ca_10 ⟨rfl, J⟩)⟩)))
      | false =>
        refine cx_1 hc hd (br_f ca_10 (cx_1 hc he (br_f ca_10 ⟨vp_in_nI (by omega) (by decide), ix_0 (by omega) (by rw [ea]; exact hx) (br_t rfl ?_)⟩)))
        exact cy_1 hc hd (br_f ca_10 (cy_1 hc he (br_f ca_10 ⟨vp_in_nI (by omega) (by decide), iy_0 (by omega) (by rw [ea]; exact hx) (br_t rfl ⟨rfl, J⟩)⟩)))
    · refine cx_1 hc hd (br_f ca_10 (cx_0 hb (br_t rfl ?_)))
      exact cy_1 hc hd (br_f ca_10 (cy_0 hb (br_t rfl ⟨rfl, J⟩)))
  · refine cx_0 hb (br_t rfl ?_)
    exact cy_0 hb (br_t rfl ⟨rfl, J⟩)
theorem i_vc_weight {k : Nat} {u : SX} {v : SY} (I : i_Rel k u v) (hk : k + 4 ≤ 2048) (v1 : Int32) : wpX_weight (fun r => wpY_weight (fun r' => r' = r ∧ i_Rel (k + 4) u v) v v1) u v1 := by
  have J := i_up I
  obtain ⟨p, c, ft, fr, fs, aF, aL, aC, aT, aR, aX, aS, aG, aH, aN, aW, aM, aP, aQ, bE, bD, bK, bU, bO, bV, bF, bW, bP, bM, rfl, rfl, hR⟩ := I
  unfold wpX_weight wpY_weight
  obtain ⟨hp, hc, -, -, hG, -⟩ := hR
  rcases rc_c c v1 with ⟨d, hd, rfl⟩ | hb
  · obtain ⟨⟨t, ht, eK, eH, -⟩, ⟨w, hw, eU, eH2, -⟩⟩ := hG d hd
    have e2 : (2 * nI d + 1) = nI (2 * d + 1) := by rw [ca_l2, ca_p1]
    refine cx_1 hc hd (br_f ca_10 ⟨pk_in (2 * d) 32 (by omega) (ca_l2 d), pk_in (2 * d + 1) 32 (by omega) e2, ?_⟩)
    refine cy_1 hc hd (br_f ca_10 ⟨vp_in_nI (by omega) (by decide), vp_in_nI (by omega) (by decide), ?_, J⟩)
    rw [rd (ca_l2 d) (by omega) eH, rd e2 (by omega) eH2, rd rfl (by omega) eK, rd rfl (by omega) eU, ca_s2 (by omega), nI_add, nI_add, ca_s2 (by omega)]
    exact congrArg nI (by omega)
  · refine cx_0 hb (br_t rfl ?_)
    exact cy_0 hb (br_t rfl ⟨rfl, J⟩)
end
section
/-! insert -/
section
variable {fp fc ft fr : Int32} {aF aL aC aT aR aX aS aG aH aN aW aM aP aQ : Nat → Int32}
theorem in_x {post : Int32 → SX → Prop} {r p n : Nat} {x : Int32} (hr : r < 3) (hn : n < 20) (hp : post (nI n + 1) (fp, fc, ft, fr, aF, aL, upd (bk aC (20 * r + p + 1) (20 * r + n + 1) (fun j => aC (j - 1))) (20 * r + p) x, upd aT r (nI n + 1), aR, aX, aS, aG, aH, aN, aW, aM, aP, aQ)) : ∀ d, p + d ≤ n → wX_insert_63 post (nI r) (nI p) x (nI n) (nI (20 * r)) fp fc ft fr (d + 1) (nI (p + d)) aF aL (bk aC (20 * r + (p + d) + 1) (20 * r + n + 1) (fun j => aC (j - 1))) aT aR aX aS aG aH aN aW aM aP aQ := by
  intro d
  induction d with
  | zero => intro h; exact br_t (nI_le (Nat.le_refl _) (by omega)) ⟨pk_in (20 * r + p) 60 (by omega) (nI_add _ _), nm_r (wr (nI_add _ _) (by omega) rfl) ⟨vp_in_nI hr (by decide), nm_r (wr rfl (by omega) rfl) hp⟩⟩
  | succ d ih =>
    intro h
    have e1 : nI (20 * r) + nI (p + (d + 1)) - 1 = nI (20 * r + (p + d)) := by rw [nI_add]; exact ca_z _
    refine br_f (nI_ge (by omega) (by omega)) ⟨pk_in (20 * r + (p + d)) 60 (by omega) e1, ⟨pk_in (20 * r + (p + (d + 1))) 60 (by omega) (nI_add _ _), nm_r ?_ (nm_r (pk_m1 (p + d)) (ih (by omega)))⟩⟩
    exact (wr (nI_add _ _) (by omega) (rd e1 (by omega) (bk_lo (by omega)))).trans (bk_dn (by omega) (congrArg aC (by omega)))
theorem in_x0 {post : Int32 → SX → Prop} {r p n : Nat} {x : Int32} (hr : r < 3) (hn : n < 20) (hpn : p ≤ n) (hp : post (nI n + 1) (fp, fc, ft, fr, aF, aL, upd (bk aC (20 * r + p + 1) (20 * r + n + 1) (fun j => aC (j - 1))) (20 * r + p) x, upd aT r (nI n + 1), aR, aX, aS, aG, aH, aN, aW, aM, aP, aQ)) : ∃ k, wX_insert_63 post (nI r) (nI p) x (nI n) (nI (20 * r)) fp fc ft fr k (nI n) aF aL aC aT aR aX aS aG aH aN aW aM aP aQ := by
  have t := in_x hr hn hp (n - p) (by omega)
  rw [show p + (n - p) = n by omega, bk_0 (Nat.le_refl _)] at t
  exact ⟨_, t⟩
end
section
variable {fp fc fs : Int32} {aX aS bE bD bK bU bO bV aN aL bF aT aC aR bW bP bM : Nat → Int32}
theorem in_y {post : Int32 → SY → Prop} {r p n : Nat} {x : Int32} (hr : r < 3) (hn : n < 20) (eT : aT r = nI n) (hp : post (nI n + 1) (fp, fc, fs, aX, aS, bE, bD, bK, bU, bO, bV, aN, aL, bF, upd aT r (nI n + 1), upd (bk aC (20 * r + p + 1) (20 * r + n + 1) (fun j => aC (j - 1))) (20 * r + p) x, aR, bW, bP, bM)) : ∀ d, p + d ≤ n → wY_insert_62 post (nI r) (nI p) x fp fc fs (d + 1) (nI (p + d)) aX aS bE bD bK bU bO bV aN aL bF aT (bk aC (20 * r + (p + d) + 1) (20 * r + n + 1) (fun j => aC (j - 1))) aR bW bP bM := by
  intro d
  induction d with
  | zero =>
    intro h
    refine br_t (nI_le (Nat.le_refl _) (by omega)) ⟨pk_in (20 * r + p) 60 (by omega) (ya _ _), nm_r (wr (ya _ _) (by omega) rfl) ⟨vp_in_nI hr (by decide), vp_in_nI hr (by decide), nm_r (wr rfl (by omega) (congrArg (· + 1) (rd rfl (by omega) eT))) ⟨vp_in_nI hr (by decide), ?_⟩⟩⟩
    rw [rd (a := upd aT r (nI n + 1)) rfl (by omega) pk_us]
    exact hp
  | succ d ih =>
    intro h
    have e1 : 20 * nI r + nI (p + (d + 1)) - 1 = nI (20 * r + (p + d)) := yb r (p + d)
    refine br_f (nI_ge (by omega) (by omega)) ⟨pk_in (20 * r + (p + d)) 60 (by omega) e1, ⟨pk_in (20 * r + (p + (d + 1))) 60 (by omega) (ya _ _), nm_r ?_ (nm_r (pk_m1 (p + d)) (ih (by omega)))⟩⟩
    exact (wr (ya _ _) (by omega) (rd e1 (by omega) (bk_lo (by omega)))).trans (bk_dn (by omega) (congrArg aC (by omega)))
theorem in_y0 {post : Int32 → SY → Prop} {r p n : Nat} {x : Int32} (hr : r < 3) (hn : n < 20) (hpn : p ≤ n) (eT : aT r = nI n) (hp : post (nI n + 1) (fp, fc, fs, aX, aS, bE, bD, bK, bU, bO, bV, aN, aL, bF, upd aT r (nI n + 1), upd (bk aC (20 * r + p + 1) (20 * r + n + 1) (fun j => aC (j - 1))) (20 * r + p) x, aR, bW, bP, bM)) : ∃ k, wY_insert_62 post (nI r) (nI p) x fp fc fs k (nI n) aX aS bE bD bK bU bO bV aN aL bF aT aC aR bW bP bM := by
  have t := in_y hr hn eT hp (n - p) (by omega)
  rw [show p + (n - p) = n by omega, bk_0 (Nat.le_refl _)] at t
  exact ⟨_, t⟩
end
theorem i_vc_insert {k : Nat} {u : SX} {v : SY} (I : i_Rel k u v) (hk : k + 4 ≤ 2048) (v1 : Int32) (v2 : Int32) (v3 : Int32) : wpX_insert (fun r u' => wpY_insert (fun r' v' => r' = r ∧ i_Rel (k + 4) u' v') v v1 v2 v3) u v1 v2 v3 := by
  have J := i_up I
  obtain ⟨p, c, ft, fr, fs, aF, aL, aC, aT, aR, aX, aS, aG, aH, aN, aW, aM, aP, aQ, bE, bD, bK, bU, bO, bV, bF, bW, bP, bM, rfl, rfl, hR⟩ := I
  unfold wpX_insert wpY_insert
  rcases rm_c v1 with ⟨r, hr, rfl⟩ | hb
  · obtain ⟨hp, hc, hF, hT, hR'⟩ := hR
    obtain ⟨n, hn, eT⟩ := hT r hr
    have eT' : aT (nI r).toNatClampNeg = nI n := rd rfl (by omega) eT
    by_cases h0 : v2 < 0
    · refine rx_1 hr (br_f ca_10 ⟨vp_in_nI hr (by decide), nm_r eT' (br_t h0 ?_)⟩)
      exact ry_1 hr (br_f ca_10 (br_t h0 ⟨rfl, J⟩))
    obtain ⟨q, hq, rfl⟩ := nI_of h0
    by_cases h1 : q ≤ n
    · have h1' : nI q ≤ nI n := nI_le h1 (by omega)
      have h1'' : nI q ≤ aT (nI r).toNatClampNeg := by rw [eT']; exact h1'
      by_cases h2 : v3 < 0
      · refine rx_1 hr (br_f ca_10 ⟨vp_in_nI hr (by decide), nm_r eT' (br_f h0 (br_t h1' (br_t h2 ?_)))⟩)
        exact ry_1 hr (br_f ca_10 (br_f h0 ⟨vp_in_nI hr (by decide), br_t h1'' (br_t h2 ⟨rfl, J⟩)⟩))
      by_cases h3 : v3 ≤ 9
      · by_cases h4 : n < 20
        · refine rx_1 hr (br_f ca_10 ⟨vp_in_nI hr (by decide), nm_r eT' (br_f h0 (br_t h1' (br_f h2 (br_t h3 (br_t (nI_lt (b := 20) h4 (by decide)) (nm_r (ca_m20 r) (in_x0 hr h4 h1 ?_)))))))⟩)
          refine ry_1 hr (br_f ca_10 (br_f h0 ⟨vp_in_nI hr (by decide), br_t h1'' (br_f h2 (br_t h3 ⟨vp_in_nI hr (by decide), br_f (by rw [eT']; intro z; have := (nI_eq (b := 20) (by omega) (by decide)).mp z; omega) ⟨vp_in_nI hr (by decide), nm_r eT' (in_y0 hr h4 h1 eT ⟨rfl, ?_⟩)⟩⟩))⟩))
          rw [nI_1 n]
          exact rl_mk ⟨hp, hc, hF, rl_Tu hT (by omega), hR'⟩
        · refine rx_1 hr (br_f ca_10 ⟨vp_in_nI hr (by decide), nm_r eT' (br_f h0 (br_t h1' (br_f h2 (br_t h3 (br_f (nI_nlt (b := 20) (by omega) (by omega)) ?_)))))⟩)
          exact ry_1 hr (br_f ca_10 (br_f h0 ⟨vp_in_nI hr (by decide), br_t h1'' (br_f h2 (br_t h3 ⟨vp_in_nI hr (by decide), br_t (by rw [eT', show n = 20 by omega]; rfl) ⟨rfl, J⟩⟩))⟩))
      · refine rx_1 hr (br_f ca_10 ⟨vp_in_nI hr (by decide), nm_r eT' (br_f h0 (br_t h1' (br_f h2 (br_f h3 ?_))))⟩)
        exact ry_1 hr (br_f ca_10 (br_f h0 ⟨vp_in_nI hr (by decide), br_t h1'' (br_f h2 (br_f h3 ⟨rfl, J⟩))⟩))
    · refine rx_1 hr (br_f ca_10 ⟨vp_in_nI hr (by decide), nm_r eT' (br_f h0 (br_f (nI_ge (by omega) hq) ?_))⟩)
      exact ry_1 hr (br_f ca_10 (br_f h0 ⟨vp_in_nI hr (by decide), br_f (by rw [eT']; exact nI_ge (by omega) hq) ⟨rfl, J⟩⟩))
  · refine rx_0 hb (br_t rfl ?_)
    exact ry_0 hb (br_t rfl ⟨rfl, J⟩)
/-! delete -/
section
variable {fp fc ft fr : Int32} {aF aL aC aT aR aX aS aG aH aN aW aM aP aQ : Nat → Int32}
theorem de_x {post : Int32 → SX → Prop} {r p n : Nat} {x : Int32} (hr : r < 3) (hn : n ≤ 20) (hp : post x (fp, fc, ft, fr, aF, aL, bk aC (20 * r + p) (20 * r + (n - 1)) (fun j => aC (j + 1)), upd aT r (nI n - 1), aR, aX, aS, aG, aH, aN, aW, aM, aP, aQ)) : ∀ d i, i + d + 1 = n → p ≤ i → wX_delete_48 post (nI r) (nI n) (nI (20 * r)) x fp fc ft fr (d + 1) (nI i) aF aL (bk aC (20 * r + p) (20 * r + i) (fun j => aC (j + 1))) aT aR aX aS aG aH aN aW aM aP aQ := by
  intro d
  induction d with
  | zero =>
    intro i h hi
    obtain rfl : n = i + 1 := by omega
    exact br_t (by rw [ca_z]; exact nI_le (Nat.le_refl _) (by omega)) ⟨vp_in_nI hr (by decide), nm_r (wr rfl (by omega) rfl) hp⟩
  | succ d ih =>
    intro i h hi
    have e1 : nI (20 * r) + nI i + 1 = nI (20 * r + i + 1) := by rw [nI_add, ca_p1]
    refine br_f (by rw [ca_s1 (by omega)]; exact nI_ge (by omega) (by omega)) ⟨pk_in (20 * r + i + 1) 60 (by omega) e1, ⟨pk_in (20 * r + i) 60 (by omega) (nI_add _ _), nm_r ?_ (nm_r (nI_1 i) (ih (i + 1) (by omega) (by omega)))⟩⟩
    exact (wr (nI_add _ _) (by omega) (rd e1 (by omega) (bk_hi (by omega)))).trans (bk_up (by omega) rfl)
end
section
variable {fp fc fs : Int32} {aX aS bE bD bK bU bO bV aN aL bF aT aC aR bW bP bM : Nat → Int32}
theorem de_y {post : Int32 → SY → Prop} {r p n : Nat} {x : Int32} (hr : r < 3) (hn : n ≤ 20) (eT : aT r = nI (n - 1)) (hp : post x (fp, fc, fs, aX, aS, bE, bD, bK, bU, bO, bV, aN, aL, bF, aT, bk aC (20 * r + p) (20 * r + (n - 1)) (fun j => aC (j + 1)), aR, bW, bP, bM)) : ∀ d i, i + d + 1 = n → p ≤ i → wY_delete_52 post (nI r) x fp fc fs (d + 1) (nI i) aX aS bE bD bK bU bO bV aN aL bF aT (bk aC (20 * r + p) (20 * r + i) (fun j => aC (j + 1))) aR bW bP bM := by
  intro d
  induction d with
  | zero =>
    intro i h hi
    obtain rfl : n = i + 1 := by omega
    exact ⟨vp_in_nI hr (by decide), br_t (by rw [rd rfl (by omega) eT]; exact nI_le (by omega) (by omega)) hp⟩
  | succ d ih =>
    intro i h hi
    have e1 : 20 * nI r + nI i + 1 = nI (20 * r + i + 1) := yc r i
    refine ⟨vp_in_nI hr (by decide), br_f (by rw [rd rfl (by omega) eT]; exact nI_ge (by omega) (by omega)) ⟨pk_in (20 * r + i + 1) 60 (by omega) e1, ⟨pk_in (20 * r + i) 60 (by omega) (ya _ _), nm_r ?_ (nm_r (nI_1 i) (ih (i + 1) (by omega) (by omega)))⟩⟩⟩
    exact (wr (ya _ _) (by omega) (rd e1 (by omega) (bk_hi (by omega)))).trans (bk_up (by omega) rfl)
end
theorem i_vc_delete {k : Nat} {u : SX} {v : SY} (I : i_Rel k u v) (hk : k + 4 ≤ 2048) (v1 : Int32) (v2 : Int32) : wpX_delete (fun r u' => wpY_delete (fun r' v' => r' = r ∧ i_Rel (k + 4) u' v') v v1 v2) u v1 v2 := by
  have J := i_up I
  obtain ⟨p, c, ft, fr, fs, aF, aL, aC, aT, aR, aX, aS, aG, aH, aN, aW, aM, aP, aQ, bE, bD, bK, bU, bO, bV, bF, bW, bP, bM, rfl, rfl, hR⟩ := I
  unfold wpX_delete wpY_delete
  rcases rm_c v1 with ⟨r, hr, rfl⟩ | hb
  · obtain ⟨hp, hc, hF, hT, hR'⟩ := hR
    obtain ⟨n, hn, eT⟩ := hT r hr
    have eT' : aT (nI r).toNatClampNeg = nI n := rd rfl (by omega) eT
    by_cases h0 : v2 < 0
    · refine rx_1 hr (br_f ca_10 ⟨vp_in_nI hr (by decide), nm_r eT' (br_t h0 ?_)⟩)
      exact ry_1 hr (br_f ca_10 (br_t h0 ⟨rfl, J⟩))
    obtain ⟨q, hq, rfl⟩ := nI_of h0
    by_cases h1 : q < n
    · have h1' : nI q < nI n := nI_lt h1 (by omega)
      have h1'' : nI q < aT (nI r).toNatClampNeg := by rw [eT']; exact h1'
      have e0 : bk aC (20 * r + q) (20 * r + q) (fun j => aC (j + 1)) = aC := bk_0 (Nat.le_refl _)
      refine rx_1 hr (br_f ca_10 ⟨vp_in_nI hr (by decide), nm_r eT' (br_f h0 (br_t h1' (nm_r (ca_m20 r) ⟨pk_in (20 * r + q) 60 (by omega) (nI_add _ _), nm_r (e' := aC (20 * r + q)) (rd (nI_add _ _) (by omega) rfl) ⟨n - 1 - q + 1, ?_⟩⟩)))⟩)
      refine (congrArg (fun z => wX_delete_48 _ (nI r) (nI n) (nI (20 * r)) (aC (20 * r + q)) (nI p) (nI c) ft fr (n - 1 - q + 1) (nI q) aF aL z aT aR aX aS aG aH aN aW aM aP aQ) e0).mp (de_x hr hn ?_ (n - 1 - q) q (by omega) (Nat.le_refl _))
      refine ry_1 hr (br_f ca_10 (br_f h0 ⟨vp_in_nI hr (by decide), br_t h1'' ⟨pk_in (20 * r + q) 60 (by omega) (ya _ _), nm_r (e' := aC (20 * r + q)) (rd (ya _ _) (by omega) rfl) ⟨vp_in_nI hr (by decide), vp_in_nI hr (by decide), nm_r (wr rfl (by omega) (congrArg (· - 1) eT')) ⟨n - 1 - q + 1, ?_⟩⟩⟩⟩))
      refine (congrArg (fun z => wY_delete_52 _ (nI r) (aC (20 * r + q)) (nI p) (nI c) fs (n - 1 - q + 1) (nI q) aX aS bE bD bK bU bO bV aN aL bF (upd aT r (nI n - 1)) z aR bW bP bM) e0).mp (de_y hr hn (by rw [pk_us, ca_s1 (by omega)]) ?_ (n - 1 - q) q (by omega) (Nat.le_refl _))
      refine ⟨rfl, ?_⟩
      rw [ca_s1 (a := n) (by omega)]
      exact rl_mk ⟨hp, hc, hF, rl_Tu hT (by omega), hR'⟩
    · refine rx_1 hr (br_f ca_10 ⟨vp_in_nI hr (by decide), nm_r eT' (br_f h0 (br_f (nI_nlt (by omega) hq) ?_))⟩)
      exact ry_1 hr (br_f ca_10 (br_f h0 ⟨vp_in_nI hr (by decide), br_f (by rw [eT']; exact nI_nlt (by omega) hq) ⟨rfl, J⟩⟩))
  · refine rx_0 hb (br_t rfl ?_)
    exact ry_0 hb (br_t rfl ⟨rfl, J⟩)
end
section
/-! the copy out of the file -/
section
variable {fp fc ft fr : Int32} {aF aL aC aT aR aX aS aG aH aN aW aM aP aQ : Nat → Int32}
theorem cf_x {post : SX → Prop} {r m : Nat} {g : Nat → Int32} (hr : r < 3) (hm : m ≤ 20) (hf : ∀ i, i < m → ∃ l, l < 60 ∧ aF (22 * r + 1 + i) = nI l ∧ aX l = g (20 * r + i)) (hp : post (fp, fc, ft, fr, aF, aL, bk aC (20 * r) (20 * r + m) g, upd aT r (nI m), aR, aX, aS, aG, aH, aN, aW, aM, aP, aQ)) : ∀ d i, i + d = m → wX_copyFromFile_9 post (nI r) (nI m) fp fc ft fr (d + 1) (nI i) aF aL (bk aC (20 * r) (20 * r + i) g) aT aR aX aS aG aH aN aW aM aP aQ := by
  intro d
  induction d with
  | zero =>
    intro i h
    obtain rfl : i = m := by omega
    exact br_t (nI_le (Nat.le_refl _) (by omega)) ⟨vp_in_nI hr (by decide), nm_r (wr rfl (by omega) rfl) hp⟩
  | succ d ih =>
    intro i h
    obtain ⟨l, hl, e1, e2⟩ := hf i (by omega)
    refine br_f (nI_ge (by omega) (by omega)) ⟨pk_in (22 * r + 1 + i) 66 (by omega) (xb r i), nm_r (rd (xb r i) (by omega) e1) ⟨vp_in_nI hl (by decide), ⟨pk_in (20 * r + i) 60 (by omega) (xc r i), nm_r ?_ (nm_r (nI_1 i) (ih (i + 1) (by omega)))⟩⟩⟩
    exact (wr (xc _ _) (by omega) (rd rfl (by omega) e2)).trans (bk_up (by omega) rfl)
theorem cf_x0 {post : SX → Prop} {r m : Nat} {g : Nat → Int32} (hr : r < 3) (hm : m ≤ 20) (eL : aL r = nI m) (hf : ∀ i, i < m → ∃ l, l < 60 ∧ aF (22 * r + 1 + i) = nI l ∧ aX l = g (20 * r + i)) (hp : post (fp, fc, ft, fr, aF, aL, bk aC (20 * r) (20 * r + m) g, upd aT r (nI m), aR, aX, aS, aG, aH, aN, aW, aM, aP, aQ)) : wpX_copyFromFile post (fp, fc, ft, fr, aF, aL, aC, aT, aR, aX, aS, aG, aH, aN, aW, aM, aP, aQ) (nI r) := by
  have t := cf_x hr hm hf hp m 0 (by omega)
  rw [bk_0 (Nat.le_of_eq (Nat.add_zero _))] at t
  exact ⟨vp_in_nI hr (by decide), nm_r (rd rfl (by omega) eL) ⟨_, t⟩⟩
end
section
variable {fp fc fs : Int32} {aX aS bE bD bK bU bO bV aN aL bF aT aC aR bW bP bM : Nat → Int32}
theorem cf_y {post : Int32 → SY → Prop} {r m : Nat} {g : Nat → Int32} (hr : r < 3) (hm : m ≤ 20) (eL : aL r = nI m) (eT : aT r = nI m) (hf : ∀ i, i < m → ∃ l, l < 60 ∧ bF (20 * r + i) = nI l ∧ aX l = g (20 * r + i)) (hp : post (nI m) (fp, fc, fs, aX, aS, bE, bD, bK, bU, bO, bV, aN, aL, bF, aT, bk aC (20 * r) (20 * r + m) g, aR, bW, bP, bM)) : ∀ d i, i + d = m → wY_revert_24 post (nI r) fp fc fs (d + 1) (nI i) aX aS bE bD bK bU bO bV aN aL bF aT (bk aC (20 * r) (20 * r + i) g) aR bW bP bM := by
  intro d
  induction d with
  | zero =>
    intro i h
    obtain rfl : i = m := by omega
    refine ⟨vp_in_nI hr (by decide), br_t (by rw [rd rfl (by omega) eL]; exact nI_le (Nat.le_refl _) (by omega)) ⟨vp_in_nI hr (by decide), ?_⟩⟩
    rw [rd rfl (by omega) eT]
    exact hp
  | succ d ih =>
    intro i h
    obtain ⟨l, hl, e1, e2⟩ := hf i (by omega)
    have e1' : bF (20 * nI r + nI i).toNatClampNeg = nI l := rd (ya r i) (by omega) e1
    refine ⟨vp_in_nI hr (by decide), br_f (by rw [rd rfl (by omega) eL]; exact nI_ge (by omega) (by omega)) ⟨pk_in (20 * r + i) 60 (by omega) (ya r i), by rw [e1']; exact vp_in_nI hl (by decide), ⟨pk_in (20 * r + i) 60 (by omega) (ya r i), nm_r ?_ (nm_r (nI_1 i) (ih (i + 1) (by omega)))⟩⟩⟩
    exact (wr (ya _ _) (by omega) (rd e1' (by omega) e2)).trans (bk_up (by omega) rfl)
theorem cf_y0 {post : Int32 → SY → Prop} {r m : Nat} {g : Nat → Int32} (hr : r < 3) (hm : m ≤ 20) (eL : aL r = nI m) (hf : ∀ i, i < m → ∃ l, l < 60 ∧ bF (20 * r + i) = nI l ∧ aX l = g (20 * r + i)) (hp : post (nI m) (fp, fc, fs, aX, aS, bE, bD, bK, bU, bO, bV, aN, aL, bF, upd aT r (nI m), bk aC (20 * r) (20 * r + m) g, aR, bW, bP, bM)) : wpY_revert post (fp, fc, fs, aX, aS, bE, bD, bK, bU, bO, bV, aN, aL, bF, aT, aC, aR, bW, bP, bM) (nI r) := by
  have t := cf_y (aT := upd aT r (nI m)) hr hm eL pk_us hf hp m 0 (by omega)
  rw [bk_0 (Nat.le_of_eq (Nat.add_zero _))] at t
  unfold wpY_revert
  exact ry_1 hr (br_f ca_10 ⟨vp_in_nI hr (by decide), vp_in_nI hr (by decide), nm_r (wr rfl (by omega) (rd rfl (by omega) eL)) ⟨_, t⟩⟩)
end
theorem i_vc_revert {k : Nat} {u : SX} {v : SY} (I : i_Rel k u v) (hk : k + 4 ≤ 2048) (v1 : Int32) : wpX_revert (fun r u' => wpY_revert (fun r' v' => r' = r ∧ i_Rel (k + 4) u' v') v v1) u v1 := by
  have J := i_up I
  obtain ⟨p, c, ft, fr, fs, aF, aL, aC, aT, aR, aX, aS, aG, aH, aN, aW, aM, aP, aQ, bE, bD, bK, bU, bO, bV, bF, bW, bP, bM, rfl, rfl, hR⟩ := I
  rcases rm_c v1 with ⟨r, hr, rfl⟩ | hb
  · obtain ⟨hp, hc, hF, hT, hR'⟩ := hR
    obtain ⟨m, hm, eL, e60, e61, hf⟩ := hF r hr
    unfold wpX_revert
    refine rx_1 hr (br_f ca_10 (cf_x0 (g := fun j => aX (bF j).toNatClampNeg) hr hm eL ?_ ⟨vp_in_nI hr (by decide), ?_⟩))
    · intro i hi
      obtain ⟨e1, l, hl, e2⟩ := hf i hi
      exact ⟨l, by omega, e1.trans e2, by rw [e2, nI_clamp (by omega)]⟩
    · refine cf_y0 (g := fun j => aX (bF j).toNatClampNeg) hr hm eL ?_ ⟨?_, rl_mk ⟨hp, hc, hF, rl_Tu hT hm, hR'⟩⟩
      · intro i hi
        obtain ⟨e1, l, hl, e2⟩ := hf i hi
        exact ⟨l, by omega, e2, by rw [e2, nI_clamp (by omega)]⟩
      · exact (rd rfl (by omega) pk_us).symm
  · unfold wpX_revert wpY_revert
    refine rx_0 hb (br_t rfl ?_)
    exact ry_0 hb (br_t rfl ⟨rfl, J⟩)
/-! compare -/
section
variable {fp fc ft fr : Int32} {aF aL aC aT aR aX aS aG aH aN aW aM aP aQ : Nat → Int32}
theorem sf_x {post : Int32 → Prop} {r s m : Nat} (hr : r < 3) (hs : s < 3) (hm : m ≤ 20) (eL : aL r = nI m) (h1 : (∀ i, i < m → aF (22 * r + 1 + i) = aF (22 * s + 1 + i)) → post 1) (h0 : ¬ (∀ i, i < m → aF (22 * r + 1 + i) = aF (22 * s + 1 + i)) → post 0) : ∀ d i, i + d = m → (∀ j, j < i → aF (22 * r + 1 + j) = aF (22 * s + 1 + j)) → wX_areSameFiles_19 post (nI r) (nI s) fp fc ft fr aF aL aC aT aR aX aS aG aH aN aW aM aP aQ (d + 1) (nI (i + 1)) := by
  intro d
  induction d with
  | zero =>
    intro i h hi
    obtain rfl : i = m := by omega
    exact ⟨vp_in_nI hr (by decide), br_t (by rw [rd rfl (by omega) eL]; exact nI_lt (by omega) (by omega)) (h1 hi)⟩
  | succ d ih =>
    intro i h hi
    have e1 : ∀ q, nI q * 22 + nI (i + 1) = nI (22 * q + 1 + i) := fun q => by rw [xa]; exact congrArg nI (by omega)
    refine ⟨vp_in_nI hr (by decide), br_f (by rw [rd rfl (by omega) eL]; exact nI_nlt (by omega) (by omega)) ⟨pk_in (22 * r + 1 + i) 66 (by omega) (e1 r), pk_in (22 * s + 1 + i) 66 (by omega) (e1 s), ?_⟩⟩
    rw [rd (a := aF) (e1 r) (by omega) rfl, rd (a := aF) (e1 s) (by omega) rfl]
    refine br_c (fun e => nm_r (nI_1 (i + 1)) (ih (i + 1) (by omega) ?_)) (fun e => h0 (fun z => e (z i (by omega))))
    intro j hj
    by_cases ej : j = i
    · rw [ej]; exact e
    · exact hi j (by omega)
end
section
variable {fp fc fs : Int32} {aX aS bE bD bK bU bO bV aN aL bF aT aC aR bW bP bM : Nat → Int32}
theorem sf_y0 {post : Int32 → Prop} {r s m : Nat} (hr : r < 3) (eL : aL r = nI m) (h0 : wY_compare_96 post (nI r) (nI s) 0 fp fc fs aX aS bE bD bK bU bO bV aN aL bF aT aC aR bW bP bM) (n i : Nat) (hm : m ≤ 20) (hi : i ≤ m) : wY_compare_42 post (nI r) (nI s) fp fc fs aX aS bE bD bK bU bO bV aN aL bF aT aC aR bW bP bM (n + 1) 0 (nI i) := by
  refine ⟨vp_in_nI hr (by decide), ?_⟩
  rw [rd rfl (by omega) eL]
  exact pk_le m i (fun _ => h0) (fun _ => br_t rfl h0)
theorem sf_y {post : Int32 → Prop} {r s m : Nat} (hr : r < 3) (hs : s < 3) (hm : m ≤ 20) (eL : aL r = nI m) (h1 : (∀ i, i < m → bF (20 * r + i) = bF (20 * s + i)) → wY_compare_96 post (nI r) (nI s) 1 fp fc fs aX aS bE bD bK bU bO bV aN aL bF aT aC aR bW bP bM) (h0 : ¬ (∀ i, i < m → bF (20 * r + i) = bF (20 * s + i)) → wY_compare_96 post (nI r) (nI s) 0 fp fc fs aX aS bE bD bK bU bO bV aN aL bF aT aC aR bW bP bM) : ∀ d i, i + d = m → (∀ j, j < i → bF (20 * r + j) = bF (20 * s + j)) → wY_compare_42 post (nI r) (nI s) fp fc fs aX aS bE bD bK bU bO bV aN aL bF aT aC aR bW bP bM (d + 1) 1 (nI i) := by
  intro d
  induction d with
  | zero =>
    intro i h hi
    obtain rfl : i = m := by omega
    exact ⟨vp_in_nI hr (by decide), br_t (by rw [rd rfl (by omega) eL]; exact nI_le (by omega) (by omega)) (h1 hi)⟩
  | succ d ih =>
    intro i h hi
    refine ⟨vp_in_nI hr (by decide), br_f (by rw [rd rfl (by omega) eL]; exact nI_ge (by omega) (by omega)) (br_f ca_10 ⟨pk_in (20 * r + i) 60 (by omega) (ya r i), pk_in (20 * s + i) 60 (by omega) (ya s i), ?_⟩)⟩
    rw [rd (a := bF) (ya r i) (by omega) rfl, rd (a := bF) (ya s i) (by omega) rfl]
    refine br_c (fun e => nm_r (nI_1 i) (ih (i + 1) (by omega) ?_)) (fun e => nm_r (nI_1 i) (sf_y0 hr eL (h0 (fun z => e (z i (by omega)))) d (i + 1) hm (by omega)))
    intro j hj
    by_cases ej : j = i
    · rw [ej]; exact e
    · exact hi j (by omega)
end
theorem i_vc_compare {k : Nat} {u : SX} {v : SY} (I : i_Rel k u v) (hk : k + 4 ≤ 2048) (v1 : Int32) (v2 : Int32) : wpX_compare (fun r => wpY_compare (fun r' => r' = r ∧ i_Rel (k + 4) u v) v v1 v2) u v1 v2 := by
  have J := i_up I
  obtain ⟨p, c, ft, fr, fs, aF, aL, aC, aT, aR, aX, aS, aG, aH, aN, aW, aM, aP, aQ, bE, bD, bK, bU, bO, bV, bF, bW, bP, bM, rfl, rfl, hR⟩ := I
  unfold wpX_compare wpY_compare
  rcases rm_c v1 with ⟨r, hr, rfl⟩ | hb
  · rcases rm_c v2 with ⟨s, hs, rfl⟩ | hb
    · obtain ⟨hp, hc, hF, hT, hR'⟩ := hR
      obtain ⟨m, hm, eL, -, -, hf⟩ := hF r hr
      obtain ⟨m2, hm2, eL2, -, -, hf2⟩ := hF s hs
      have eL' : aL (nI r).toNatClampNeg = nI m := rd rfl (by omega) eL
      have eL2' : aL (nI s).toNatClampNeg = nI m2 := rd rfl (by omega) eL2
      have er : aR (nI r).toNatClampNeg = aR r := rd rfl (by omega) rfl
      have es : aR (nI s).toNatClampNeg = aR s := rd rfl (by omega) rfl
      refine rx_1 hr (br_f ca_10 (rx_1 hs (br_f ca_10 ⟨vp_in_nI hr (by decide), vp_in_nI hs (by decide), ?_⟩)))
      rw [eL', eL2']
      by_cases e : m = m2
      · subst e
        refine br_t rfl ⟨m + 1, sf_x hr hs hm eL ?_ ?_ m 0 (by omega) (fun j h => absurd h (Nat.not_lt_zero j))⟩
        · intro hz
          have hz' : ∀ i, i < m → bF (20 * r + i) = bF (20 * s + i) := fun i hi => by rw [← (hf i hi).1, ← (hf2 i hi).1]; exact hz i hi
          refine ⟨vp_in_nI hr (by decide), vp_in_nI hs (by decide), ?_⟩
          refine br_c (fun ea => br_f ca_10 ?_) (fun ea => br_f ca_10 ?_)
          · refine ry_1 hr (br_f ca_10 (ry_1 hs (br_f ca_10 ⟨vp_in_nI hr (by decide), vp_in_nI hs (by decide), br_t (by rw [eL', eL2']) ⟨m + 1, sf_y hr hs hm eL ?_ (fun z => absurd hz' z) m 0 (by omega) (fun j h => absurd h (Nat.not_lt_zero j))⟩⟩)))
            exact fun _ => ⟨vp_in_nI hr (by decide), vp_in_nI hs (by decide), br_t ea (br_f ca_10 ⟨rfl, J⟩)⟩
          · refine ry_1 hr (br_f ca_10 (ry_1 hs (br_f ca_10 ⟨vp_in_nI hr (by decide), vp_in_nI hs (by decide), br_t (by rw [eL', eL2']) ⟨m + 1, sf_y hr hs hm eL ?_ (fun z => absurd hz' z) m 0 (by omega) (fun j h => absurd h (Nat.not_lt_zero j))⟩⟩)))
            exact fun _ => ⟨vp_in_nI hr (by decide), vp_in_nI hs (by decide), br_f ea (br_f ca_10 ⟨rfl, J⟩)⟩
        · intro hz
          have hz' : ¬ ∀ i, i < m → bF (20 * r + i) = bF (20 * s + i) := fun q => hz (fun i hi => by rw [(hf i hi).1, (hf2 i hi).1]; exact q i hi)
          refine ⟨vp_in_nI hr (by decide), vp_in_nI hs (by decide), ?_⟩
          refine br_c (fun ea => br_t rfl ?_) (fun ea => br_t rfl ?_)
          · refine ry_1 hr (br_f ca_10 (ry_1 hs (br_f ca_10 ⟨vp_in_nI hr (by decide), vp_in_nI hs (by decide), br_t (by rw [eL', eL2']) ⟨m + 1, sf_y hr hs hm eL (fun z => absurd z hz') ?_ m 0 (by omega) (fun j h => absurd h (Nat.not_lt_zero j))⟩⟩)))
            exact fun _ => ⟨vp_in_nI hr (by decide), vp_in_nI hs (by decide), br_t ea (br_t rfl ⟨rfl, J⟩)⟩
          · refine ry_1 hr (br_f ca_10 (ry_1 hs (br_f ca_10 ⟨vp_in_nI hr (by decide), vp_in_nI hs (by decide), br_t (by rw [eL', eL2']) ⟨m + 1, sf_y hr hs hm eL (fun z => absurd z hz') ?_ m 0 (by omega) (fun j h => absurd h (Nat.not_lt_zero j))⟩⟩)))
            exact fun _ => ⟨vp_in_nI hr (by decide), vp_in_nI hs (by decide), br_f ea (br_t rfl ⟨rfl, J⟩)⟩
      · have ne : ¬ nI m = nI m2 := fun z => e ((nI_eq (by omega) (by omega)).mp z)
        refine br_f ne ⟨vp_in_nI hr (by decide), vp_in_nI hs (by decide), ?_⟩
        refine br_c (fun ea => br_t rfl ?_) (fun ea => br_t rfl ?_)
        · refine ry_1 hr (br_f ca_10 (ry_1 hs (br_f ca_10 ⟨vp_in_nI hr (by decide), vp_in_nI hs (by decide), br_f (by rw [eL', eL2']; exact ne) ⟨1, sf_y0 hr eL ?_ 0 0 hm (by omega)⟩⟩)))
          exact ⟨vp_in_nI hr (by decide), vp_in_nI hs (by decide), br_t ea (br_t rfl ⟨rfl, J⟩)⟩
        · refine ry_1 hr (br_f ca_10 (ry_1 hs (br_f ca_10 ⟨vp_in_nI hr (by decide), vp_in_nI hs (by decide), br_f (by rw [eL', eL2']; exact ne) ⟨1, sf_y0 hr eL ?_ 0 0 hm (by omega)⟩⟩)))
          exact ⟨vp_in_nI hr (by decide), vp_in_nI hs (by decide), br_f ea (br_t rfl ⟨rfl, J⟩)⟩
    · refine rx_1 hr (br_f ca_10 (rx_0 hb (br_t rfl ?_)))
      exact ry_1 hr (br_f ca_10 (ry_0 hb (br_t rfl ⟨rfl, J⟩)))
  · refine rx_0 hb (br_t rfl ?_)
    exact ry_0 hb (br_t rfl ⟨rfl, J⟩)
end
section
/-! a file in the making: s lines w, between 60 and 61 -/
def ew (s : Nat) (w : Nat → Int32) : Nat → Int32 := fun j => if j = 0 then 60 else if j ≤ s then w (j - 1) else 61
def tvX (aW : Nat → Int32) (s : Nat) (w : Nat → Int32) : Prop := ∀ j, j < s + 2 → aW j = ew s w j
def tvY (bW : Nat → Int32) (s : Nat) (w : Nat → Int32) : Prop := ∀ i, i < s → bW i = w i
def wv (p s : Nat) (w : Nat → Int32) : Prop := ∀ i, i < s → ∃ l, l < p ∧ w i = nI l
theorem ew_0 (s : Nat) (w : Nat → Int32) : ew s w 0 = 60 := rfl
theorem ew_m {s j : Nat} {w : Nat → Int32} (h0 : 0 < j) (h : j ≤ s) : ew s w j = w (j - 1) := by unfold ew; rw [if_neg (by omega), if_pos h]
theorem ew_e {s j : Nat} {w : Nat → Int32} (h : s < j) : ew s w j = 61 := by unfold ew; rw [if_neg (by omega), if_neg (by omega)]
section
variable {fp fc ft fr : Int32} {aF aL aC aT aR aX aS aG aH aN aW aM aP aQ : Nat → Int32}
theorem st_x {post : SX → Prop} {r s : Nat} (hr : r < 3) (hs : s ≤ 20) (hp : post (fp, fc, nI (s + 2), fr, aF, aL, aC, aT, aR, aX, aS, aG, aH, aN, bk aW 0 (s + 2) (fun j => aF (22 * r + j)), aM, aP, aQ)) : ∀ d i, i + d = s + 2 → wX_startTrial_14 post (nI r) fp fc (nI (s + 2)) fr (d + 1) (nI i) aF aL aC aT aR aX aS aG aH aN (bk aW 0 i (fun j => aF (22 * r + j))) aM aP aQ := by
  intro d
  induction d with
  | zero =>
    intro i h
    obtain rfl : i = s + 2 := by omega
    exact br_t (nI_le (Nat.le_refl _) (by omega)) hp
  | succ d ih =>
    intro i h
    exact br_f (nI_ge (by omega) (by omega)) ⟨pk_in (22 * r + i) 66 (by omega) (xa r i), ⟨vp_in_nI (by omega) (by decide), nm_r ((wr rfl (by omega) (rd (xa r i) (by omega) rfl)).trans (bk_up (by omega) rfl)) (nm_r (nI_1 i) (ih (i + 1) (by omega)))⟩⟩
theorem st_x0 {post : SX → Prop} {r s : Nat} (hr : r < 3) (hs : s ≤ 20) (eL : aL r = nI s) (hp : post (fp, fc, nI (s + 2), fr, aF, aL, aC, aT, aR, aX, aS, aG, aH, aN, bk aW 0 (s + 2) (fun j => aF (22 * r + j)), aM, aP, aQ)) : wpX_startTrial post (fp, fc, ft, fr, aF, aL, aC, aT, aR, aX, aS, aG, aH, aN, aW, aM, aP, aQ) (nI r) := by
  have t := st_x hr hs hp (s + 2) 0 (by omega)
  rw [bk_0 (Nat.le_refl _)] at t
  exact ⟨vp_in_nI hr (by decide), nm_r (by rw [rd rfl (by omega) eL, ca_p2]) ⟨_, t⟩⟩
theorem kt_x {post : SX → Prop} {r s : Nat} (hr : r < 3) (hs : s ≤ 20) (hp : post (fp, fc, nI (s + 2), fr, bk aF (22 * r) (22 * r + (s + 2)) (fun j => aW (j - 22 * r)), aL, aC, aT, aR, aX, aS, aG, aH, aN, aW, aM, aP, aQ)) : ∀ d i, i + d = s + 2 → wX_keepTrial_14 post (nI r) fp fc (nI (s + 2)) fr (d + 1) (nI i) (bk aF (22 * r) (22 * r + i) (fun j => aW (j - 22 * r))) aL aC aT aR aX aS aG aH aN aW aM aP aQ := by
  intro d
  induction d with
  | zero =>
    intro i h
    obtain rfl : i = s + 2 := by omega
    exact br_t (nI_le (Nat.le_refl _) (by omega)) hp
  | succ d ih =>
    intro i h
    exact br_f (nI_ge (by omega) (by omega)) ⟨vp_in_nI (by omega) (by decide), ⟨pk_in (22 * r + i) 66 (by omega) (xa r i), nm_r ((wr (xa r i) (by omega) (rd rfl (by omega) rfl)).trans (bk_up (by omega) (congrArg aW (by omega)))) (nm_r (nI_1 i) (ih (i + 1) (by omega)))⟩⟩
theorem kt_x0 {post : SX → Prop} {r s : Nat} (hr : r < 3) (hs : s ≤ 20) (hp : post (fp, fc, nI (s + 2), fr, bk aF (22 * r) (22 * r + (s + 2)) (fun j => aW (j - 22 * r)), upd aL r (nI s), aC, aT, aR, aX, aS, aG, aH, aN, aW, aM, aP, aQ)) : wpX_keepTrial post (fp, fc, nI (s + 2), fr, aF, aL, aC, aT, aR, aX, aS, aG, aH, aN, aW, aM, aP, aQ) (nI r) := by
  have t := kt_x hr hs hp (s + 2) 0 (by omega)
  rw [bk_0 (Nat.le_of_eq (Nat.add_zero _))] at t
  exact ⟨vp_in_nI hr (by decide), nm_r (wr rfl (by omega) (ca_s2 (by omega))) ⟨_, t⟩⟩
end
section
variable {fp fc fs : Int32} {aX aS bE bD bK bU bO bV aN aL bF aT aC aR bW bP bM : Nat → Int32}
theorem st_y {post : SY → Prop} {r s : Nat} (hr : r < 3) (hs : s ≤ 20) (hp : post (fp, fc, nI s, aX, aS, bE, bD, bK, bU, bO, bV, aN, aL, bF, aT, aC, aR, bk bW 0 s (fun j => bF (20 * r + j)), bP, bM)) : ∀ d i, i + d = s → wY_open_12 post (nI r) fp fc (nI s) (d + 1) (nI i) aX aS bE bD bK bU bO bV aN aL bF aT aC aR (bk bW 0 i (fun j => bF (20 * r + j))) bP bM := by
  intro d
  induction d with
  | zero =>
    intro i h
    obtain rfl : i = s := by omega
    exact br_t (nI_le (Nat.le_refl _) (by omega)) hp
  | succ d ih =>
    intro i h
    exact br_f (nI_ge (by omega) (by omega)) ⟨pk_in (20 * r + i) 60 (by omega) (ya r i), ⟨vp_in_nI (by omega) (by decide), nm_r ((wr rfl (by omega) (rd (ya r i) (by omega) rfl)).trans (bk_up (by omega) rfl)) (nm_r (nI_1 i) (ih (i + 1) (by omega)))⟩⟩
theorem st_y0 {post : SY → Prop} {r s : Nat} (hr : r < 3) (hs : s ≤ 20) (eL : aL r = nI s) (hp : post (fp, fc, nI s, aX, aS, bE, bD, bK, bU, bO, bV, aN, aL, bF, aT, aC, aR, bk bW 0 s (fun j => bF (20 * r + j)), bP, bM)) : wpY_open post (fp, fc, fs, aX, aS, bE, bD, bK, bU, bO, bV, aN, aL, bF, aT, aC, aR, bW, bP, bM) (nI r) := by
  have t := st_y hr hs hp s 0 (by omega)
  rw [bk_0 (Nat.le_refl _)] at t
  exact ⟨vp_in_nI hr (by decide), nm_r (rd rfl (by omega) eL) ⟨_, t⟩⟩
theorem kt_y {post : SY → Prop} {r s : Nat} (hr : r < 3) (hs : s ≤ 20) (hp : post (fp, fc, nI s, aX, aS, bE, bD, bK, bU, bO, bV, aN, aL, bk bF (20 * r) (20 * r + s) (fun j => bW (j - 20 * r)), aT, aC, aR, bW, bP, bM)) : ∀ d i, i + d = s → wY_keep_12 post (nI r) fp fc (nI s) (d + 1) (nI i) aX aS bE bD bK bU bO bV aN aL (bk bF (20 * r) (20 * r + i) (fun j => bW (j - 20 * r))) aT aC aR bW bP bM := by
  intro d
  induction d with
  | zero =>
    intro i h
    obtain rfl : i = s := by omega
    exact br_t (nI_le (Nat.le_refl _) (by omega)) hp
  | succ d ih =>
    intro i h
    exact br_f (nI_ge (by omega) (by omega)) ⟨vp_in_nI (by omega) (by decide), ⟨pk_in (20 * r + i) 60 (by omega) (ya r i), nm_r ((wr (ya r i) (by omega) (rd rfl (by omega) rfl)).trans (bk_up (by omega) (congrArg bW (by omega)))) (nm_r (nI_1 i) (ih (i + 1) (by omega)))⟩⟩
theorem kt_y0 {post : SY → Prop} {r s : Nat} (hr : r < 3) (hs : s ≤ 20) (hp : post (fp, fc, nI s, aX, aS, bE, bD, bK, bU, bO, bV, aN, upd aL r (nI s), bk bF (20 * r) (20 * r + s) (fun j => bW (j - 20 * r)), aT, aC, aR, bW, bP, bM)) : wpY_keep post (fp, fc, nI s, aX, aS, bE, bD, bK, bU, bO, bV, aN, aL, bF, aT, aC, aR, bW, bP, bM) (nI r) := by
  have t := kt_y hr hs hp s 0 (by omega)
  rw [bk_0 (Nat.le_of_eq (Nat.add_zero _))] at t
  exact ⟨vp_in_nI hr (by decide), nm_r (wr rfl (by omega) rfl) ⟨_, t⟩⟩
end
theorem tv_sx {aF aL bF aW : Nat → Int32} {r m : Nat} (e60 : aF (22 * r) = 60) (e61 : aF (22 * r + 1 + m) = 61) (hf : ∀ i, i < m → aF (22 * r + 1 + i) = bF (20 * r + i)) : tvX (bk aW 0 (m + 2) (fun j => aF (22 * r + j))) m (fun i => bF (20 * r + i)) := by
  intro j hj
  rw [bk_in (by omega) hj]
  by_cases h0 : j = 0
  · subst h0; exact e60
  · by_cases h1 : j ≤ m
    · rw [ew_m (by omega) h1, ← hf (j - 1) (by omega)]
      exact congrArg aF (by omega)
    · rw [ew_e (by omega), ← e61]
      exact congrArg aF (by omega)
theorem tv_sy {bF bW : Nat → Int32} {r m : Nat} : tvY (bk bW 0 m (fun j => bF (20 * r + j))) m (fun i => bF (20 * r + i)) := fun i hi => bk_in (by omega) hi
theorem rl_Fk {aF aL bF aW bW w : Nat → Int32} {p r s : Nat} (hr : r < 3) (hs : s ≤ 20) (h : rl_F aF aL bF p) (hX : tvX aW s w) (hY : tvY bW s w) (hw : wv p s w) : rl_F (bk aF (22 * r) (22 * r + (s + 2)) (fun j => aW (j - 22 * r))) (upd aL r (nI s)) (bk bF (20 * r) (20 * r + s) (fun j => bW (j - 20 * r))) p := by
  intro q hq
  by_cases e : q = r
  · subst e
    refine ⟨s, hs, pk_us, ?_, ?_, fun i hi => ?_⟩
    · rw [bk_in (by omega) (by omega), Nat.sub_self, hX 0 (by omega)]; rfl
    · rw [bk_in (by omega) (by omega), show 22 * q + 1 + s - 22 * q = s + 1 by omega, hX _ (by omega), ew_e (by omega)]
    · obtain ⟨l, hl, e⟩ := hw i hi
      rw [bk_in (by omega) (by omega), bk_in (by omega) (by omega), show 22 * q + 1 + i - 22 * q = i + 1 by omega, show 20 * q + i - 20 * q = i by omega, hX _ (by omega), hY _ hi, ew_m (by omega) (by omega)]
      exact ⟨rfl, l, hl, e⟩
  · obtain ⟨m, hm, eL, e60, e61, hf⟩ := h q hq
    refine ⟨m, hm, by rw [pk_un e]; exact eL, ?_, ?_, fun i hi => ?_⟩
    · rw [bk_out (by omega)]; exact e60
    · rw [bk_out (by omega)]; exact e61
    · rw [bk_out (by omega), bk_out (by omega)]; exact hf i hi
theorem rl_Fm {aF aL bF : Nat → Int32} {p p' : Nat} (h : rl_F aF aL bF p) (hp : p ≤ p') : rl_F aF aL bF p' := by
  intro q hq
  obtain ⟨m, hm, eL, e60, e61, hf⟩ := h q hq
  refine ⟨m, hm, eL, e60, e61, fun i hi => ?_⟩
  obtain ⟨e, l, hl, e2⟩ := hf i hi
  exact ⟨e, l, by omega, e2⟩
/-! a run is found -/
def fq (s : Nat) (w mem : Nat → Int32) (n p : Nat) : Prop := ∀ k, k < n → ew s w (p + k) = mem k
section
variable {fp fc ft fr : Int32} {aF aL aC aT aR aX aS aG aH aN aW aM aP aQ : Nat → Int32}
theorem sa_x {post : Int32 → Prop} {s n p q : Nat} {w mem : Nat → Int32} (hs : s ≤ 20) (hq : q < 32) (hpn : p + n ≤ s + 2) (eH : aH q = nI n) (hW : tvX aW s w) (hM : ∀ k, k < n → aG (22 * q + k) = mem k) (h1 : fq s w mem n p → post 1) (h0 : ¬ fq s w mem n p → post 0) : ∀ d i, i + d = n → (∀ k, k < i → ew s w (p + k) = mem k) → wX_standsAt_2 post (nI p) (nI q) fp fc ft fr aF aL aC aT aR aX aS aG aH aN aW aM aP aQ (d + 1) (nI i) := by
  intro d
  induction d with
  | zero =>
    intro i h hi
    obtain rfl : i = n := by omega
    exact ⟨vp_in_nI hq (by decide), br_t (by rw [rd rfl (by omega) eH]; exact nI_le (by omega) (by omega)) (h1 hi)⟩
  | succ d ih =>
    intro i h hi
    refine ⟨vp_in_nI hq (by decide), br_f (by rw [rd rfl (by omega) eH]; exact nI_ge (by omega) (by omega)) ⟨pk_in (p + i) 22 (by omega) (nI_add _ _), pk_in (22 * q + i) 704 (by omega) (xa q i), ?_⟩⟩
    rw [rd (nI_add _ _) (by omega) (hW (p + i) (by omega)), rd (xa q i) (by omega) (hM i (by omega))]
    refine br_c (fun e => nm_r (nI_1 i) (ih (i + 1) (by omega) ?_)) (fun e => h0 (fun z => e (z i (by omega))))
    intro j hj
    by_cases ej : j = i
    · rw [ej]; exact e
    · exact hi j (by omega)
theorem fi_n {post : Int32 → Prop} {s n q : Nat} {w mem : Nat → Int32} (hs : s ≤ 20) (hn : n ≤ 22) (hq : q < 32) (eH : aH q = nI n) (hW : tvX aW s w) (hM : ∀ k, k < n → aG (22 * q + k) = mem k) (hN : ∀ p, p + n ≤ s + 2 → ¬ fq s w mem n p) (hp : post (-1)) : ∀ d p, p + d = s + 3 - n → wX_findInTrial_2 post (nI q) fp fc (nI (s + 2)) fr aF aL aC aT aR aX aS aG aH aN aW aM aP aQ (d + 1) (nI p) := by
  intro d
  induction d with
  | zero =>
    intro p h
    exact ⟨vp_in_nI hq (by decide), br_t (by rw [rd rfl (by omega) eH, nI_add]; exact nI_lt (by omega) (by omega)) hp⟩
  | succ d ih =>
    intro p h
    refine ⟨vp_in_nI hq (by decide), br_f (by rw [rd rfl (by omega) eH, nI_add]; exact nI_nlt (by omega) (by omega)) ⟨n + 1, sa_x hs hq (by omega) eH hW hM (fun z => absurd z (hN p (by omega))) (fun _ => br_t rfl (nm_r (nI_1 p) (ih (p + 1) (by omega)))) n 0 (by omega) (fun k h => absurd h (Nat.not_lt_zero k))⟩⟩
theorem fi_s {post : Int32 → Prop} {s n q p0 : Nat} {w mem : Nat → Int32} (hs : s ≤ 20) (hn : n ≤ 22) (hq : q < 32) (eH : aH q = nI n) (hW : tvX aW s w) (hM : ∀ k, k < n → aG (22 * q + k) = mem k) (h0 : p0 + n ≤ s + 2) (hS : fq s w mem n p0) (hN : ∀ p, p < p0 → ¬ fq s w mem n p) (hp : post (nI p0)) : ∀ d p, p + d = p0 → wX_findInTrial_2 post (nI q) fp fc (nI (s + 2)) fr aF aL aC aT aR aX aS aG aH aN aW aM aP aQ (d + 1) (nI p) := by
  intro d
  induction d with
  | zero =>
    intro p h
    obtain rfl : p = p0 := by omega
    exact ⟨vp_in_nI hq (by decide), br_f (by rw [rd rfl (by omega) eH, nI_add]; exact nI_nlt (by omega) (by omega)) ⟨n + 1, sa_x hs hq (by omega) eH hW hM (fun _ => br_f ca_10 hp) (fun z => absurd hS z) n 0 (by omega) (fun k h => absurd h (Nat.not_lt_zero k))⟩⟩
  | succ d ih =>
    intro p h
    refine ⟨vp_in_nI hq (by decide), br_f (by rw [rd rfl (by omega) eH, nI_add]; exact nI_nlt (by omega) (by omega)) ⟨n + 1, sa_x hs hq (by omega) eH hW hM (fun z => absurd z (hN p (by omega))) (fun _ => br_t rfl (nm_r (nI_1 p) (ih (p + 1) (by omega)))) n 0 (by omega) (fun k h => absurd h (Nat.not_lt_zero k))⟩⟩
end
end
section
/-! one side of a change: its run -/
def sd (aG aH : Nat → Int32) (q : Nat) (e d k : Int32) (A : Nat → Int32) (b p t : Nat) : Prop := t ≤ 20 ∧ k = nI t ∧ aH q = nI (t + 2) ∧ aG (22 * q) = e ∧ aG (22 * q + 1 + t) = d ∧ ∀ i, i < t → aG (22 * q + 1 + i) = A (b + i) ∧ ∃ l, l < p ∧ A (b + i) = nI l
theorem ca_gr {i n n' : Nat} (h : n ≤ i + n') : nI i + (nI n' - nI n) = nI (i + n' - n) := by rw [Int32.sub_eq_add_neg, ← Int32.add_assoc, ← Int32.sub_eq_add_neg, nI_add, pk_sub h]
theorem ca_sl {n n' : Nat} (h : n < 2 ^ 30) (h' : n' < 2 ^ 30) : nI n' - nI n ≤ 0 ↔ n' ≤ n := by
  rw [Int32.le_iff_toInt_le, pk_sub_toInt h' h, show (0 : Int32).toInt = 0 from by decide]
  omega
theorem ca_sz {s n p : Nat} (hs : s < 1000) (hn : n < 1000) (hp : p < 1000) : nI s - nI n + 2 < nI p ↔ s + 2 < p + n := by
  rw [Int32.lt_iff_toInt_lt, Int32.toInt_add, pk_sub_toInt (by omega) (by omega), nI_toInt (by omega), show (2 : Int32).toInt = 2 from by decide, Int.bmod_eq_of_le (by omega) (by omega)]
  omega
theorem ca_pl {a : Nat} (h : a < 1000) : nI a - 1 < nI a := by
  rw [Int32.lt_iff_toInt_lt, show (1 : Int32) = nI 1 from rfl, pk_sub_toInt (by omega) (by omega), nI_toInt (by omega)]
  omega
section
variable {fp fc fs : Int32} {aX aS bE bD bK bU bO bV aN aL bF aT aC aR bW bP bM : Nat → Int32} {aG aH : Nat → Int32}
theorem me_0 {q c t P : Nat} (hc : c < 16) (h : sd aG aH q (bE c) (bD c) (bK c) bO (20 * c) P t) (post : Int32 → Prop) (k : Nat) (hk : k < t + 2) (hp : post (aG (22 * q + k))) : wpY_member post (fp, fc, fs, aX, aS, bE, bD, bK, bU, bO, bV, aN, aL, bF, aT, aC, aR, bW, bP, bM) (nI c) 0 (nI k) := by
  obtain ⟨ht, eK, eH, e1, e2, e3⟩ := h
  by_cases h0 : k = 0
  · subst h0
    refine br_t nI_0 ⟨vp_in_nI hc (by decide), ?_⟩
    rw [rd (a := bE) rfl (by omega) e1.symm]; exact hp
  · refine br_f (nI_ne0 (by omega) (by omega)) (br_t rfl ⟨vp_in_nI hc (by decide), ?_⟩)
    rw [rd (a := bK) rfl (by omega) eK]
    by_cases h1 : k ≤ t
    · obtain ⟨i, rfl⟩ : ∃ i, k = i + 1 := ⟨k - 1, by omega⟩
      refine br_t (nI_le h1 (by omega)) (br_t rfl ⟨pk_in (20 * c + i) 320 (by omega) (yb c i), ?_⟩)
      rw [rd (a := bO) (yb c i) (by omega) (e3 i (by omega)).1.symm, show 22 * q + 1 + i = 22 * q + (i + 1) by omega]
      exact hp
    · refine br_f (nI_ge (by omega) (by omega)) ⟨vp_in_nI hc (by decide), ?_⟩
      rw [rd (a := bD) rfl (by omega) e2.symm, show 22 * q + 1 + t = 22 * q + k by omega]
      exact hp
theorem me_1 {q c t P : Nat} (hc : c < 16) (h : sd aG aH q (bE c) (bD c) (bU c) bV (20 * c) P t) (post : Int32 → Prop) (k : Nat) (hk : k < t + 2) (hp : post (aG (22 * q + k))) : wpY_member post (fp, fc, fs, aX, aS, bE, bD, bK, bU, bO, bV, aN, aL, bF, aT, aC, aR, bW, bP, bM) (nI c) 1 (nI k) := by
  obtain ⟨ht, eK, eH, e1, e2, e3⟩ := h
  by_cases h0 : k = 0
  · subst h0
    refine br_t nI_0 ⟨vp_in_nI hc (by decide), ?_⟩
    rw [rd (a := bE) rfl (by omega) e1.symm]; exact hp
  · refine br_f (nI_ne0 (by omega) (by omega)) (br_f ca_10 ⟨vp_in_nI hc (by decide), ?_⟩)
    rw [rd (a := bU) rfl (by omega) eK]
    by_cases h1 : k ≤ t
    · obtain ⟨i, rfl⟩ : ∃ i, k = i + 1 := ⟨k - 1, by omega⟩
      refine br_t (nI_le h1 (by omega)) (br_f ca_10 ⟨pk_in (20 * c + i) 320 (by omega) (yb c i), ?_⟩)
      rw [rd (a := bV) (yb c i) (by omega) (e3 i (by omega)).1.symm, show 22 * q + 1 + i = 22 * q + (i + 1) by omega]
      exact hp
    · refine br_f (nI_ge (by omega) (by omega)) ⟨vp_in_nI hc (by decide), ?_⟩
      rw [rd (a := bD) rfl (by omega) e2.symm, show 22 * q + 1 + t = 22 * q + k by omega]
      exact hp
theorem ln_0 {q c t P : Nat} (hc : c < 16) (h : sd aG aH q (bE c) (bD c) (bK c) bO (20 * c) P t) (post : Int32 → Prop) (hp : post (nI (t + 2))) : wpY_length post (fp, fc, fs, aX, aS, bE, bD, bK, bU, bO, bV, aN, aL, bF, aT, aC, aR, bW, bP, bM) (nI c) 0 := by
  obtain ⟨ht, eK, eH, e1, e2, e3⟩ := h
  refine br_t rfl ⟨vp_in_nI hc (by decide), ?_⟩
  rw [rd (a := bK) rfl (by omega) eK, ca_p2]; exact hp
theorem ln_1 {q c t P : Nat} (hc : c < 16) (h : sd aG aH q (bE c) (bD c) (bU c) bV (20 * c) P t) (post : Int32 → Prop) (hp : post (nI (t + 2))) : wpY_length post (fp, fc, fs, aX, aS, bE, bD, bK, bU, bO, bV, aN, aL, bF, aT, aC, aR, bW, bP, bM) (nI c) 1 := by
  obtain ⟨ht, eK, eH, e1, e2, e3⟩ := h
  refine br_f ca_10 ⟨vp_in_nI hc (by decide), ?_⟩
  rw [rd (a := bU) rfl (by omega) eK, ca_p2]; exact hp
theorem iw_y {post : Int32 → Prop} {s : Nat} {w : Nat → Int32} (hs : s ≤ 20) (hW : tvY bW s w) (p k : Nat) (h : p + k < s + 2) (hp : post (ew s w (p + k))) : wpY_inWork post (fp, fc, nI s, aX, aS, bE, bD, bK, bU, bO, bV, aN, aL, bF, aT, aC, aR, bW, bP, bM) (nI p - 1 + nI k) := by
  by_cases h0 : p + k = 0
  · obtain rfl : p = 0 := by omega
    obtain rfl : k = 0 := by omega
    exact br_f (by decide) hp
  · have e : nI p - 1 + nI k = nI (p + k - 1) := by rw [Int32.sub_eq_add_neg, Int32.add_assoc, Int32.add_comm (-1), ← Int32.add_assoc, nI_add, sb_m1 (by omega)]
    rw [e]
    refine br_t (nI_pos' (by omega)) ?_
    by_cases h1 : p + k - 1 < s
    · refine br_f (nI_ge h1 (by omega)) ⟨vp_in_nI (by omega) (by decide), ?_⟩
      rw [ew_m (by omega) (by omega)] at hp
      rw [rd (a := bW) rfl (by omega) (hW _ h1)]; exact hp
    · refine br_t (nI_le (by omega) (by omega)) ?_
      rw [ew_e (by omega)] at hp; exact hp
theorem po_0 {post : Int32 → Prop} {J : Int32 → Prop} {c n p : Nat} {fl : Int32} (hn : n ≤ 22) (hJ : J (nI (p + 1))) : ∀ d k, k + d = n → wY_placeOf_29 post J (nI c) fl (nI n) (nI p) fp fc fs aX aS bE bD bK bU bO bV aN aL bF aT aC aR bW bP bM (d + 1) 0 (nI k) := by
  intro d
  induction d with
  | zero => intro k h; exact br_t (nI_le (by omega) (by omega)) (br_t rfl (nm_r (nI_1 p) hJ))
  | succ d ih => intro k h; exact br_f (nI_ge (by omega) (by omega)) (br_t rfl (nm_r (nI_1 k) (ih (k + 1) (by omega))))
theorem po_1 {post : Int32 → Prop} {J : Int32 → Prop} {c n p s : Nat} {fl : Int32} {w mem : Nat → Int32} (hs : s ≤ 20) (hpn : p + n ≤ s + 2) (hW : tvY bW s w) (hM : ∀ (post : Int32 → Prop) (k : Nat), k < n → post (mem k) → wpY_member post (fp, fc, nI s, aX, aS, bE, bD, bK, bU, bO, bV, aN, aL, bF, aT, aC, aR, bW, bP, bM) (nI c) fl (nI k)) (h1 : fq s w mem n p → post (nI p)) (h0 : ¬ fq s w mem n p → J (nI (p + 1))) : ∀ d k, k + d = n → (∀ i, i < k → ew s w (p + i) = mem i) → wY_placeOf_29 post J (nI c) fl (nI n) (nI p) fp fc (nI s) aX aS bE bD bK bU bO bV aN aL bF aT aC aR bW bP bM (d + 1) 1 (nI k) := by
  intro d
  induction d with
  | zero =>
    intro k h hk
    obtain rfl : k = n := by omega
    exact br_t (nI_le (by omega) (by omega)) (br_f ca_10 (h1 hk))
  | succ d ih =>
    intro k h hk
    refine br_f (nI_ge (by omega) (by omega)) (br_f ca_10 (iw_y hs hW p k (by omega) (hM _ k (by omega) ?_)))
    refine br_c (fun e => nm_r (nI_1 k) (ih (k + 1) (by omega) ?_)) (fun e => nm_r (nI_1 k) (po_0 (by omega) (h0 (fun z => e (z k (by omega)))) d (k + 1) (by omega)))
    intro j hj
    by_cases ej : j = k
    · rw [ej]; exact e
    · exact hk j (by omega)
theorem pl_n {post : Int32 → Prop} {c n s : Nat} {fl : Int32} {w mem : Nat → Int32} (hs : s ≤ 20) (hn : n ≤ 22) (hW : tvY bW s w) (hM : ∀ (post : Int32 → Prop) (k : Nat), k < n → post (mem k) → wpY_member post (fp, fc, nI s, aX, aS, bE, bD, bK, bU, bO, bV, aN, aL, bF, aT, aC, aR, bW, bP, bM) (nI c) fl (nI k)) (hN : ∀ p, p + n ≤ s + 2 → ¬ fq s w mem n p) (hp : post (-1)) : ∀ d p, p + d = s + 3 - n → wY_placeOf_10 post (nI c) fl (nI n) fp fc (nI s) aX aS bE bD bK bU bO bV aN aL bF aT aC aR bW bP bM (d + 1) (nI p) := by
  intro d
  induction d with
  | zero => intro p h; exact br_t ((ca_sz (by omega) (by omega) (by omega)).mpr (by omega)) hp
  | succ d ih =>
    intro p h
    exact br_f (fun z => by have := (ca_sz (by omega) (by omega) (by omega)).mp z; omega) ⟨n + 1, po_1 hs (by omega) hW hM (fun z => absurd z (hN p (by omega))) (fun _ => ih (p + 1) (by omega)) n 0 (by omega) (fun k h => absurd h (Nat.not_lt_zero k))⟩
theorem pl_s {post : Int32 → Prop} {c n s p0 : Nat} {fl : Int32} {w mem : Nat → Int32} (hs : s ≤ 20) (hn : n ≤ 22) (hW : tvY bW s w) (hM : ∀ (post : Int32 → Prop) (k : Nat), k < n → post (mem k) → wpY_member post (fp, fc, nI s, aX, aS, bE, bD, bK, bU, bO, bV, aN, aL, bF, aT, aC, aR, bW, bP, bM) (nI c) fl (nI k)) (h0 : p0 + n ≤ s + 2) (hS : fq s w mem n p0) (hN : ∀ p, p < p0 → ¬ fq s w mem n p) (hp : post (nI p0)) : ∀ d p, p + d = p0 → wY_placeOf_10 post (nI c) fl (nI n) fp fc (nI s) aX aS bE bD bK bU bO bV aN aL bF aT aC aR bW bP bM (d + 1) (nI p) := by
  intro d
  induction d with
  | zero =>
    intro p h
    obtain rfl : p = p0 := by omega
    exact br_f (fun z => by have := (ca_sz (by omega) (by omega) (by omega)).mp z; omega) ⟨n + 1, po_1 hs (by omega) hW hM (fun _ => hp) (fun z => absurd hS z) n 0 (by omega) (fun k h => absurd h (Nat.not_lt_zero k))⟩
  | succ d ih =>
    intro p h
    exact br_f (fun z => by have := (ca_sz (by omega) (by omega) (by omega)).mp z; omega) ⟨n + 1, po_1 hs (by omega) hW hM (fun z => absurd z (hN p (by omega))) (fun _ => ih (p + 1) (by omega)) n 0 (by omega) (fun k h => absurd h (Nat.not_lt_zero k))⟩
end
/-! a run for another -/
section
variable {fp fc ft fr : Int32} {aF aL aC aT aR aX aS aG aH aN aW aM aP aQ : Nat → Int32}
theorem mt_a {post : SX → Prop} {s p n n' : Nat} (hs : s ≤ 20) (hpn : p + n ≤ s + 2) (hn : n' ≤ n) (hp : post (fp, fc, nI (s + 2 + n' - n), fr, aF, aL, aC, aT, aR, aX, aS, aG, aH, aN, bk aW (p + n') (s + 2 + n' - n) (fun j => aW (j + n - n')), aM, aP, aQ)) : ∀ d e, p + n + e + d = s + 2 → wX_moveTail_41 post (nI n' - nI n) fp fc (nI (s + 2)) fr (d + 1) (nI (p + n + e)) aF aL aC aT aR aX aS aG aH aN (bk aW (p + n') (p + n' + e) (fun j => aW (j + n - n'))) aM aP aQ := by
  intro d
  induction d with
  | zero =>
    intro e h
    refine br_t (nI_le (by omega) (by omega)) (nm_r (ca_gr (by omega)) ?_)
    rw [show p + n' + e = s + 2 + n' - n by omega]
    exact hp
  | succ d ih =>
    intro e h
    have e1 : nI (p + n + e) + (nI n' - nI n) = nI (p + n' + e) := (ca_gr (by omega)).trans (congrArg nI (by omega))
    exact br_f (nI_ge (by omega) (by omega)) ⟨vp_in_nI (by omega) (by decide), ⟨pk_in (p + n' + e) 22 (by omega) e1, nm_r ((wr e1 (by omega) (rd rfl (by omega) (bk_hi (by omega)))).trans (bk_up (by omega) (congrArg aW (by omega)))) (nm_r (nI_1 _) (ih (e + 1) (by omega)))⟩⟩
theorem mt_d {post : SX → Prop} {s p n n' b : Nat} (hs : s ≤ 20) (hs' : s + 2 + n' - n ≤ 22) (hpn : p + n ≤ s + 2) (hn : n < n') (hb : b + 1 = p + n) (hp : post (fp, fc, nI (s + 2 + n' - n), fr, aF, aL, aC, aT, aR, aX, aS, aG, aH, aN, bk aW (p + n') (s + 2 + n' - n) (fun j => aW (j + n - n')), aM, aP, aQ)) : ∀ e, p + n + e ≤ s + 2 → wX_moveTail_11 post (nI (p + n)) (nI n' - nI n) fp fc (nI (s + 2)) fr (e + 1) (nI (b + e)) aF aL aC aT aR aX aS aG aH aN (bk aW (p + n' + e) (s + 2 + n' - n) (fun j => aW (j + n - n'))) aM aP aQ := by
  intro e
  induction e with
  | zero =>
    intro h
    exact br_t (nI_lt (by omega) (by omega)) (nm_r (ca_gr (by omega)) hp)
  | succ e ih =>
    intro h
    have e1 : nI (b + (e + 1)) + (nI n' - nI n) = nI (p + n' + e) := (ca_gr (by omega)).trans (congrArg nI (by omega))
    exact br_f (nI_nlt (by omega) (by omega)) ⟨vp_in_nI (by omega) (by decide), ⟨pk_in (p + n' + e) 22 (by omega) e1, nm_r ((wr e1 (by omega) (rd rfl (by omega) (bk_lo (by omega)))).trans (bk_dn (lo := p + n' + e) (by omega) (congrArg aW (by omega)))) (nm_r (pk_m1 (b + e)) (ih (by omega)))⟩⟩
theorem mt_x {post : SX → Prop} {s p n n' : Nat} (hs : s ≤ 20) (hs' : s + 2 + n' - n ≤ 22) (h2 : 2 ≤ n) (hn22 : n' ≤ 22) (hpn : p + n ≤ s + 2) (hp : post (fp, fc, nI (s + 2 + n' - n), fr, aF, aL, aC, aT, aR, aX, aS, aG, aH, aN, bk aW (p + n') (s + 2 + n' - n) (fun j => aW (j + n - n')), aM, aP, aQ)) : wpX_moveTail post (fp, fc, nI (s + 2), fr, aF, aL, aC, aT, aR, aX, aS, aG, aH, aN, aW, aM, aP, aQ) (nI (p + n)) (nI n' - nI n) := by
  by_cases h : n' ≤ n
  · have t := mt_a hs hpn h hp (s + 2 - (p + n)) 0 (by omega)
    rw [bk_0 (Nat.le_of_eq (Nat.add_zero _))] at t
    exact br_t ((ca_sl (by omega) (by omega)).mpr h) ⟨_, t⟩
  · have t := mt_d (b := p + n - 1) hs hs' hpn (by omega) (by omega) hp (s + 2 - (p + n)) (by omega)
    rw [bk_0 (by omega), show p + n - 1 + (s + 2 - (p + n)) = s + 2 - 1 by omega] at t
    exact br_f (fun z => h ((ca_sl (by omega) (by omega)).mp z)) (nm_r (ca_s1 (by omega)) ⟨_, t⟩)
theorem rp_l {post : Int32 → SX → Prop} {p q n : Nat} {B : Nat → Int32} (hq : q < 32) (hpn : p + n ≤ 22) (eH : aH q = nI n) (hp : post 1 (fp, fc, ft, fr, aF, aL, aC, aT, aR, aX, aS, aG, aH, aN, bk B p (p + n) (fun j => aG (22 * q + (j - p))), aM, aP, aQ)) : ∀ d i, i + d = n → wX_replaceInTrial_46 post (nI p) (nI q) fp fc ft fr (d + 1) (nI i) aF aL aC aT aR aX aS aG aH aN (bk B p (p + i) (fun j => aG (22 * q + (j - p)))) aM aP aQ := by
  intro d
  induction d with
  | zero =>
    intro i h
    obtain rfl : i = n := by omega
    exact ⟨vp_in_nI hq (by decide), br_t (by rw [rd rfl (by omega) eH]; exact nI_le (by omega) (by omega)) hp⟩
  | succ d ih =>
    intro i h
    exact ⟨vp_in_nI hq (by decide), br_f (by rw [rd rfl (by omega) eH]; exact nI_ge (by omega) (by omega)) ⟨pk_in (22 * q + i) 704 (by omega) (xa q i), ⟨pk_in (p + i) 22 (by omega) (nI_add _ _), nm_r ((wr (nI_add _ _) (by omega) (rd (xa q i) (by omega) rfl)).trans (bk_up (by omega) (congrArg aG (by omega)))) (nm_r (nI_1 i) (ih (i + 1) (by omega)))⟩⟩⟩
theorem rp_x1 {post : Int32 → SX → Prop} {s p q q' n n' : Nat} (hq : q < 32) (hq' : q' < 32) (hs : s ≤ 20) (hs' : s + 2 + n' - n ≤ 22) (h2 : 2 ≤ n) (hn22 : n' ≤ 22) (hpn : p + n ≤ s + 2) (eH : aH q = nI n) (eH' : aH q' = nI n') (hp : post 1 (fp, fc, nI (s + 2 + n' - n), fr, aF, aL, aC, aT, aR, aX, aS, aG, aH, aN, bk (bk aW (p + n') (s + 2 + n' - n) (fun j => aW (j + n - n'))) p (p + n') (fun j => aG (22 * q' + (j - p))), aM, aP, aQ)) : wpX_replaceInTrial post (fp, fc, nI (s + 2), fr, aF, aL, aC, aT, aR, aX, aS, aG, aH, aN, aW, aM, aP, aQ) (nI p) (nI q) (nI q') := by
  have t := rp_l (ft := nI (s + 2 + n' - n)) hq' (by omega) eH' hp n' 0 (by omega)
  rw [bk_0 (Nat.le_of_eq (Nat.add_zero _))] at t
  refine ⟨vp_in_nI hq' (by decide), vp_in_nI hq (by decide), nm_r (e' := nI n' - nI n) (by rw [rd (a := aH) rfl (by omega) eH', rd (a := aH) rfl (by omega) eH]) (br_t (by rw [ca_gr (by omega)]; exact nI_le (b := 22) hs' (by decide)) ⟨vp_in_nI hq (by decide), ?_⟩)⟩
  rw [rd (a := aH) rfl (by omega) eH, nI_add]
  exact mt_x hs hs' h2 hn22 hpn ⟨_, t⟩
theorem rp_x0 {post : Int32 → SX → Prop} {s p q q' n n' : Nat} (hq : q < 32) (hq' : q' < 32) (hs : s ≤ 20) (hn22 : n' ≤ 22) (hs' : ¬ s + 2 + n' - n ≤ 22) (hpn : p + n ≤ s + 2) (eH : aH q = nI n) (eH' : aH q' = nI n') (hp : post 0 (fp, fc, nI (s + 2), fr, aF, aL, aC, aT, aR, aX, aS, aG, aH, aN, aW, aM, aP, aQ)) : wpX_replaceInTrial post (fp, fc, nI (s + 2), fr, aF, aL, aC, aT, aR, aX, aS, aG, aH, aN, aW, aM, aP, aQ) (nI p) (nI q) (nI q') := by
  exact ⟨vp_in_nI hq' (by decide), vp_in_nI hq (by decide), nm_r (e' := nI n' - nI n) (by rw [rd (a := aH) rfl (by omega) eH', rd (a := aH) rfl (by omega) eH]) (br_f (by rw [ca_gr (by omega)]; exact nI_ge (a := 22) (by omega) (by omega)) hp)⟩
end
end
section
/-! the pure picture of a replacement -/
def rpw (p out more : Nat) (mem' w : Nat → Int32) : Nat → Int32 := fun i => if i < p then w i else if i < p + more then mem' (i - p + 1) else w (i + out - more)
theorem rpw_a {p out more i : Nat} {mem' w : Nat → Int32} (h : i < p) : rpw p out more mem' w i = w i := if_pos h
theorem rpw_b {p out more i : Nat} {mem' w : Nat → Int32} (h : p ≤ i) (h2 : i < p + more) : rpw p out more mem' w i = mem' (i - p + 1) := by unfold rpw; rw [if_neg (by omega), if_pos h2]
theorem rpw_c {p out more i : Nat} {mem' w : Nat → Int32} (h2 : p + more ≤ i) : rpw p out more mem' w i = w (i + out - more) := by unfold rpw; rw [if_neg (by omega), if_neg (by omega)]
theorem tv_rx {aW w mem mem' G : Nat → Int32} {s p out more : Nat} (hX : tvX aW s w) (hq : fq s w mem (out + 2) p) (hpn : p + (out + 2) ≤ s + 2) (h0 : mem' 0 = mem 0) (h1 : mem' (more + 1) = mem (out + 1)) (hG : ∀ j, p ≤ j → j < p + (more + 2) → G j = mem' (j - p)) : tvX (bk (bk aW (p + (more + 2)) (s + 2 + (more + 2) - (out + 2)) (fun j => aW (j + (out + 2) - (more + 2)))) p (p + (more + 2)) G) (s + more - out) (rpw p out more mem' w) := by
  intro j hj
  by_cases a1 : j < p
  · rw [bk_lo a1, bk_lo (by omega), hX j (by omega)]
    by_cases b1 : j = 0
    · subst b1; rfl
    · rw [ew_m (by omega) (by omega), ew_m (by omega) (by omega), rpw_a (by omega)]
  · by_cases a2 : j < p + (more + 2)
    · rw [bk_in (by omega) a2, hG j (by omega) a2]
      by_cases b0 : j = p
      · subst b0
        rw [Nat.sub_self, h0, ← hq 0 (by omega)]
        show ew s w j = _
        by_cases b1 : j = 0
        · subst b1; rfl
        · rw [ew_m (by omega) (by omega), ew_m (by omega) (by omega), rpw_a (by omega)]
      · by_cases b2 : j = p + (more + 1)
        · subst b2
          rw [Nat.add_sub_cancel_left, h1, ← hq (out + 1) (by omega)]
          by_cases b3 : p + (out + 1) ≤ s
          · rw [ew_m (by omega) b3, ew_m (by omega) (by omega), rpw_c (by omega)]
            exact congrArg w (by omega)
          · rw [ew_e (by omega), ew_e (by omega)]
        · rw [ew_m (by omega) (by omega), rpw_b (by omega) (by omega)]
          exact congrArg mem' (by omega)
    · rw [bk_hi (by omega), bk_in (by omega) (by omega), hX _ (by omega)]
      by_cases b3 : j ≤ s + more - out
      · rw [ew_m (by omega) (by omega), ew_m (by omega) b3, rpw_c (by omega)]
        exact congrArg w (by omega)
      · rw [ew_e (by omega), ew_e (by omega)]
theorem tv_ry {bW w mem' G : Nat → Int32} {s p out more : Nat} (hY : tvY bW s w) (hpn : p + out ≤ s) (hG : ∀ j, p ≤ j → j < p + more → G j = mem' (j - p + 1)) : tvY (bk (bk bW (p + more) (s + more - out) (fun j => bW (j + out - more))) p (p + more) G) (s + more - out) (rpw p out more mem' w) := by
  intro i hi
  by_cases a1 : i < p
  · rw [bk_lo a1, bk_lo (by omega), hY i (by omega), rpw_a a1]
  · by_cases a2 : i < p + more
    · rw [bk_in (by omega) a2, hG i (by omega) a2, rpw_b (by omega) a2]
    · rw [bk_hi (by omega), bk_in (by omega) hi, hY _ (by omega), rpw_c (by omega)]
theorem wv_r {w mem' : Nat → Int32} {P s p out more : Nat} (hw : wv P s w) (hpn : p + out ≤ s) (hm : ∀ i, i < more → ∃ l, l < P ∧ mem' (i + 1) = nI l) : wv P (s + more - out) (rpw p out more mem' w) := by
  intro i hi
  by_cases a1 : i < p
  · rw [rpw_a a1]; exact hw i (by omega)
  · by_cases a2 : i < p + more
    · rw [rpw_b (by omega) a2]; exact hm _ (by omega)
    · rw [rpw_c (by omega)]; exact hw _ (by omega)
/-! replace -/
section
variable {fp fc fs : Int32} {aX aS bE bD bK bU bO bV aN aL bF aT aC aR bW bP bM : Nat → Int32}
theorem ry_m {post : SY → Prop} {c p more : Nat} {fl nfl : Int32} {mem' B : Nat → Int32} (hfl : (fl = 0 ∧ nfl = 1) ∨ (¬ fl = 0 ∧ nfl = 0)) (hpm : p + more ≤ 20) (hM : ∀ (bW : Nat → Int32) (post : Int32 → Prop) (k : Nat), k < more + 2 → post (mem' k) → wpY_member post (fp, fc, fs, aX, aS, bE, bD, bK, bU, bO, bV, aN, aL, bF, aT, aC, aR, bW, bP, bM) (nI c) nfl (nI k)) (hp : post (fp, fc, fs, aX, aS, bE, bD, bK, bU, bO, bV, aN, aL, bF, aT, aC, aR, bk B p (p + more) (fun j => mem' (j - p + 1)), bP, bM)) : ∀ d i, i + d = more → wY_replace_141 post (nI c) fl (nI p) (nI more) fp fc fs (d + 1) (nI i) aX aS bE bD bK bU bO bV aN aL bF aT aC aR (bk B p (p + i) (fun j => mem' (j - p + 1))) bP bM := by
  intro d
  induction d with
  | zero =>
    intro i h
    obtain rfl : i = more := by omega
    exact br_t (nI_le (by omega) (by omega)) hp
  | succ d ih =>
    intro i h
    have key : wY_replace_167 post (wY_replace_141 post (nI c) fl (nI p) (nI more) fp fc fs (d + 1)) (nI c) fl (nI p) (nI more) (nI i) nfl (nI c) (nI p + nI i) fp fc fs aX aS bE bD bK bU bO bV aN aL bF aT aC aR (bk B p (p + i) (fun j => mem' (j - p + 1))) bP bM := by
      unfold wY_replace_167
      rw [nI_1 i]
      refine hM _ _ (i + 1) (by omega) ⟨pk_in (p + i) 20 (by omega) (nI_add _ _), nm_r ((wr (nI_add _ _) (by omega) rfl).trans (bk_up (by omega) (congrArg mem' (by omega)))) (nm_r rfl (ih (i + 1) (by omega)))⟩
    rcases hfl with ⟨e1, rfl⟩ | ⟨e1, rfl⟩
    · exact br_f (nI_ge (by omega) (by omega)) (br_t e1 key)
    · exact br_f (nI_ge (by omega) (by omega)) (br_f e1 key)
theorem ry_a {post : SY → Prop} {c p out more s : Nat} {fl : Int32} (hs : s ≤ 20) (hpn : p + out ≤ s) (hn : more ≤ out) (hp : ∃ n, wY_replace_141 post (nI c) fl (nI p) (nI more) fp fc fs n 0 aX aS bE bD bK bU bO bV aN aL bF aT aC aR (bk bW (p + more) (s + more - out) (fun j => bW (j + out - more))) bP bM) : ∀ d e, p + out + e + d = s → wY_replace_105 post (nI c) fl (nI p) (nI out) (nI more) (nI s) fp fc fs (d + 1) (nI (p + out + e)) aX aS bE bD bK bU bO bV aN aL bF aT aC aR (bk bW (p + more) (p + more + e) (fun j => bW (j + out - more))) bP bM := by
  intro d
  induction d with
  | zero =>
    intro e h
    refine br_t (nI_le (by omega) (by omega)) ?_
    rw [show p + more + e = s + more - out by omega]
    exact hp
  | succ d ih =>
    intro e h
    have e1 : nI (p + out + e) + nI more - nI out = nI (p + more + e) := by rw [nI_add, pk_sub (by omega)]; exact congrArg nI (by omega)
    exact br_f (nI_ge (by omega) (by omega)) ⟨vp_in_nI (by omega) (by decide), ⟨pk_in (p + more + e) 20 (by omega) e1, nm_r ((wr e1 (by omega) (rd rfl (by omega) (bk_hi (by omega)))).trans (bk_up (by omega) (congrArg bW (by omega)))) (nm_r (nI_1 _) (ih (e + 1) (by omega)))⟩⟩
theorem ry_d {post : SY → Prop} {c p out more s : Nat} {fl : Int32} (hs : s ≤ 20) (hs' : s + more - out ≤ 20) (hpn : p + out ≤ s) (hn : out < more) (hp : ∃ n, wY_replace_141 post (nI c) fl (nI p) (nI more) fp fc fs n 0 aX aS bE bD bK bU bO bV aN aL bF aT aC aR (bk bW (p + more) (s + more - out) (fun j => bW (j + out - more))) bP bM) : ∀ e, p + out + e ≤ s → wY_replace_61 post (nI c) fl (nI p) (nI out) (nI more) fp fc fs (e + 1) (nI (p + out + e) - 1) aX aS bE bD bK bU bO bV aN aL bF aT aC aR (bk bW (p + more + e) (s + more - out) (fun j => bW (j + out - more))) bP bM := by
  intro e
  induction e with
  | zero =>
    intro h
    exact br_t (by rw [nI_add]; exact ca_pl (by omega)) hp
  | succ e ih =>
    intro h
    rw [show nI (p + out + (e + 1)) - 1 = nI (p + out + e) from ca_z _]
    have e1 : nI (p + out + e) + nI more - nI out = nI (p + more + e) := by rw [nI_add, pk_sub (by omega)]; exact congrArg nI (by omega)
    exact br_f (by rw [nI_add]; exact nI_nlt (by omega) (by omega)) ⟨vp_in_nI (by omega) (by decide), ⟨pk_in (p + more + e) 20 (by omega) e1, nm_r ((wr e1 (by omega) (rd rfl (by omega) (bk_lo (by omega)))).trans (bk_dn (lo := p + more + e) (by omega) (congrArg bW (by omega)))) (nm_r (Int32.sub_eq_add_neg _ _).symm (ih (by omega)))⟩⟩
theorem ry_x {post : SY → Prop} {c p out more s : Nat} {fl nfl : Int32} {mem' : Nat → Int32} (hfl : (fl = 0 ∧ nfl = 1) ∨ (¬ fl = 0 ∧ nfl = 0)) (hs : s ≤ 20) (hs' : s + more - out ≤ 20) (hpn : p + out ≤ s) (hM : ∀ (fs : Int32) (bW : Nat → Int32) (post : Int32 → Prop) (k : Nat), k < more + 2 → post (mem' k) → wpY_member post (fp, fc, fs, aX, aS, bE, bD, bK, bU, bO, bV, aN, aL, bF, aT, aC, aR, bW, bP, bM) (nI c) nfl (nI k)) (hL : ∀ (post : Int32 → Prop), post (nI (out + 2)) → wpY_length post (fp, fc, nI s, aX, aS, bE, bD, bK, bU, bO, bV, aN, aL, bF, aT, aC, aR, bW, bP, bM) (nI c) fl) (hL' : ∀ (post : Int32 → Prop), post (nI (more + 2)) → wpY_length post (fp, fc, nI s, aX, aS, bE, bD, bK, bU, bO, bV, aN, aL, bF, aT, aC, aR, bW, bP, bM) (nI c) nfl) (hp : post (fp, fc, nI (s + more - out), aX, aS, bE, bD, bK, bU, bO, bV, aN, aL, bF, aT, aC, aR, bk (bk bW (p + more) (s + more - out) (fun j => bW (j + out - more))) p (p + more) (fun j => mem' (j - p + 1)), bP, bM)) : wpY_replace post (fp, fc, nI s, aX, aS, bE, bD, bK, bU, bO, bV, aN, aL, bF, aT, aC, aR, bW, bP, bM) (nI c) fl (nI p) := by
  have t := ry_m (fs := nI (s + more - out)) (B := bk bW (p + more) (s + more - out) (fun j => bW (j + out - more))) hfl (by omega) (hM _) hp more 0 (by omega)
  rw [bk_0 (f := bk bW (p + more) (s + more - out) (fun j => bW (j + out - more))) (Nat.le_of_eq (Nat.add_zero _))] at t
  have key : wY_replace_21 post (nI c) fl (nI p) (nI out) nfl (nI c) fp fc (nI s) aX aS bE bD bK bU bO bV aN aL bF aT aC aR bW bP bM := by
    unfold wY_replace_21
    refine hL' _ (nm_r (ca_s2 (by omega)) (nm_r (e' := nI (s + more - out)) ?_ ?_))
    · rw [show more + 2 - 2 = more from rfl, pk_sub (by omega), nI_add]; exact congrArg nI (by omega)
    · rw [show more + 2 - 2 = more from rfl]
      by_cases h : more ≤ out
      · have t2 := ry_a (fs := nI (s + more - out)) hs hpn h ⟨_, t⟩ (s - (p + out)) 0 (by omega)
        rw [bk_0 (f := bW) (Nat.le_of_eq (Nat.add_zero _))] at t2
        exact br_t (nI_le h (by omega)) (nm_r (nI_add _ _) ⟨_, t2⟩)
      · have t2 := ry_d (fs := nI (s + more - out)) hs hs' hpn (by omega) ⟨_, t⟩ (s - (p + out)) (by omega)
        rw [bk_0 (f := bW) (by omega), show p + out + (s - (p + out)) = s by omega] at t2
        exact br_f (nI_ge (by omega) (by omega)) (nm_r rfl ⟨_, t2⟩)
  unfold wpY_replace
  refine hL _ (nm_r (ca_s2 (by omega)) ?_)
  rcases hfl with ⟨e1, rfl⟩ | ⟨e1, rfl⟩
  · exact br_t e1 key
  · exact br_f e1 key
end
end
section
theorem pk_least (P : Nat → Prop) (h : ∃ k, P k) : ∃ k, P k ∧ ∀ j, j < k → ¬ P j := by
  obtain ⟨k, hk⟩ := h
  induction k using Nat.strongRecOn with
  | ind k ih =>
    by_cases e : ∃ j, j < k ∧ P j
    · obtain ⟨j, hj, pj⟩ := e
      exact ih j hj pj
    · exact ⟨k, hk, fun j hj pj => e ⟨j, hj, pj⟩⟩
theorem fd_c (s n : Nat) (w mem : Nat → Int32) : (∀ p, p + n ≤ s + 2 → ¬ fq s w mem n p) ∨ ∃ p0, p0 + n ≤ s + 2 ∧ fq s w mem n p0 ∧ ∀ p, p < p0 → ¬ fq s w mem n p := by
  by_cases h : ∃ p, p + n ≤ s + 2 ∧ fq s w mem n p
  · obtain ⟨p0, ⟨h1, h2⟩, h3⟩ := pk_least (fun p => p + n ≤ s + 2 ∧ fq s w mem n p) h
    exact Or.inr ⟨p0, h1, h2, fun p hp z => h3 p hp ⟨by omega, z⟩⟩
  · exact Or.inl (fun p hp z => h ⟨p, hp, z⟩)
theorem sd_m {aG aH A : Nat → Int32} {q b P t : Nat} {e d k : Int32} (h : sd aG aH q e d k A b P t) : aG (22 * q + 0) = e ∧ aG (22 * q + (t + 1)) = d ∧ ∀ i, i < t → ∃ l, l < P ∧ aG (22 * q + (i + 1)) = nI l := by
  obtain ⟨ht, eK, eH, e1, e2, e3⟩ := h
  refine ⟨e1, by rw [show 22 * q + (t + 1) = 22 * q + 1 + t by omega]; exact e2, fun i hi => ?_⟩
  obtain ⟨e4, l, hl, e5⟩ := e3 i hi
  exact ⟨l, hl, by rw [show 22 * q + (i + 1) = 22 * q + 1 + i by omega, e4]; exact e5⟩
section
variable {fp fc ft fr : Int32} {aF aL aC aT aR aX aS aG aH aN aW aM aP aQ : Nat → Int32}
theorem rb_x {post : Int32 → Prop} {d : Nat} (hp : post (nI (2 * d))) : wpX_runBefore post (nI d) := by unfold wpX_runBefore; rw [ca_l2]; exact hp
theorem ra_x {post : Int32 → Prop} {d : Nat} (hp : post (nI (2 * d + 1))) : wpX_runAfter post (nI d) := by unfold wpX_runAfter; rw [ca_l2, nI_1]; exact hp
theorem fx_n {post : Int32 → Prop} {s n q : Nat} {w : Nat → Int32} (hs : s ≤ 20) (hn : n ≤ 22) (hq : q < 32) (eH : aH q = nI n) (hW : tvX aW s w) (hN : ∀ p, p + n ≤ s + 2 → ¬ fq s w (fun k => aG (22 * q + k)) n p) (hp : post (-1)) : wpX_findInTrial post (fp, fc, nI (s + 2), fr, aF, aL, aC, aT, aR, aX, aS, aG, aH, aN, aW, aM, aP, aQ) (nI q) := ⟨_, fi_n hs hn hq eH hW (fun _ _ => rfl) hN hp (s + 3 - n) 0 (by omega)⟩
theorem fx_s {post : Int32 → Prop} {s n q p0 : Nat} {w : Nat → Int32} (hs : s ≤ 20) (hn : n ≤ 22) (hq : q < 32) (eH : aH q = nI n) (hW : tvX aW s w) (h0 : p0 + n ≤ s + 2) (hS : fq s w (fun k => aG (22 * q + k)) n p0) (hN : ∀ p, p < p0 → ¬ fq s w (fun k => aG (22 * q + k)) n p) (hp : post (nI p0)) : wpX_findInTrial post (fp, fc, nI (s + 2), fr, aF, aL, aC, aT, aR, aX, aS, aG, aH, aN, aW, aM, aP, aQ) (nI q) := ⟨_, fi_s hs hn hq eH hW (fun _ _ => rfl) h0 hS hN hp p0 0 (by omega)⟩
theorem rn_x {post : Int32 → Prop} {r c d : Nat} (hr : r < 3) (hc : c ≤ 16) (hd : d < 16) (h1 : (∃ e, e < c ∧ bt (aR r) e = true ∧ bt (aN e) d = true) → post 1) (h0 : (¬ ∃ e, e < c ∧ bt (aR r) e = true ∧ bt (aN e) d = true) → post 0) : ∀ k e, e + k = c → (∀ i, i < e → ¬ (bt (aR r) i = true ∧ bt (aN i) d = true)) → wX_roomNeeds_2 post (nI r) (nI d) fp (nI c) ft fr aF aL aC aT aR aX aS aG aH aN aW aM aP aQ (k + 1) (nI e) := by
  intro k
  induction k with
  | zero =>
    intro e h he
    exact br_t (nI_le (by omega) (by omega)) (h0 (fun ⟨i, h1, h2⟩ => he i (by omega) h2))
  | succ k ih =>
    intro e h he
    have nx : ¬ (bt (aR r) e = true ∧ bt (aN e) d = true) → wX_roomNeeds_2 post (nI r) (nI d) fp (nI c) ft fr aF aL aC aT aR aX aS aG aH aN aW aM aP aQ (k + 1) (nI (e + 1)) := by
      intro z
      refine ih (e + 1) (by omega) (fun i hi => ?_)
      by_cases ei : i = e
      · rw [ei]; exact z
      · exact he i (by omega)
    refine br_f (nI_ge (by omega) (by omega)) ?_
    cases hb : bt (aR r) e with
    | false => exact hx_0 hr (by omega) hb (br_t rfl (nm_r (nI_1 e) (nx (fun z => by rw [hb] at z; cases z.1))))
    | true =>
      have ea : aN (nI e).toNatClampNeg = aN e := rd rfl (by omega) rfl
      cases hb2 : bt (aN e) d with
      | true => exact hx_1 hr (by omega) hb (br_f ca_10 ⟨vp_in_nI (by omega) (by decide), ix_1 (by omega) (by rw [ea]; exact hb2) (br_f ca_10 (h1 ⟨e, by omega, hb, hb2⟩))⟩)
      | false => exact hx_1 hr (by omega) hb (br_f ca_10 ⟨vp_in_nI (by omega) (by decide), ix_0 (by omega) (by rw [ea]; exact hb2) (br_t rfl (nm_r (nI_1 e) (nx (fun z => by rw [hb2] at z; cases z.2))))⟩)
end
section
variable {fp fc fs : Int32} {aX aS bE bD bK bU bO bV aN aL bF aT aC aR bW bP bM : Nat → Int32} {aG aH : Nat → Int32}
theorem py_n {post : Int32 → Prop} {c n s : Nat} {fl : Int32} {w mem : Nat → Int32} (hs : s ≤ 20) (hn : n ≤ 22) (hW : tvY bW s w) (hL : ∀ (post : Int32 → Prop), post (nI n) → wpY_length post (fp, fc, nI s, aX, aS, bE, bD, bK, bU, bO, bV, aN, aL, bF, aT, aC, aR, bW, bP, bM) (nI c) fl) (hM : ∀ (post : Int32 → Prop) (k : Nat), k < n → post (mem k) → wpY_member post (fp, fc, nI s, aX, aS, bE, bD, bK, bU, bO, bV, aN, aL, bF, aT, aC, aR, bW, bP, bM) (nI c) fl (nI k)) (hN : ∀ p, p + n ≤ s + 2 → ¬ fq s w mem n p) (hp : post (-1)) : wpY_placeOf post (fp, fc, nI s, aX, aS, bE, bD, bK, bU, bO, bV, aN, aL, bF, aT, aC, aR, bW, bP, bM) (nI c) fl := by
  unfold wpY_placeOf
  exact hL _ ⟨_, pl_n hs hn hW hM hN hp (s + 3 - n) 0 (by omega)⟩
theorem py_s {post : Int32 → Prop} {c n s p0 : Nat} {fl : Int32} {w mem : Nat → Int32} (hs : s ≤ 20) (hn : n ≤ 22) (hW : tvY bW s w) (hL : ∀ (post : Int32 → Prop), post (nI n) → wpY_length post (fp, fc, nI s, aX, aS, bE, bD, bK, bU, bO, bV, aN, aL, bF, aT, aC, aR, bW, bP, bM) (nI c) fl) (hM : ∀ (post : Int32 → Prop) (k : Nat), k < n → post (mem k) → wpY_member post (fp, fc, nI s, aX, aS, bE, bD, bK, bU, bO, bV, aN, aL, bF, aT, aC, aR, bW, bP, bM) (nI c) fl (nI k)) (h0 : p0 + n ≤ s + 2) (hS : fq s w mem n p0) (hN : ∀ p, p < p0 → ¬ fq s w mem n p) (hp : post (nI p0)) : wpY_placeOf post (fp, fc, nI s, aX, aS, bE, bD, bK, bU, bO, bV, aN, aL, bF, aT, aC, aR, bW, bP, bM) (nI c) fl := by
  unfold wpY_placeOf
  exact hL _ ⟨_, pl_s hs hn hW hM h0 hS hN hp p0 0 (by omega)⟩
theorem un_0 {post : Int32 → SY → Prop} {r c d : Nat} {x : Int32} (hc : c ≤ 16) (hp : post (-4) (fp, nI c, fs, aX, aS, bE, bD, bK, bU, bO, bV, aN, aL, bF, aT, aC, aR, bW, bP, bM)) : ∀ k e, e + k = c → wY_uncommit_64 post (nI r) (nI d) x fp (nI c) fs aX aS bE bD bK bU bO bV aN aL bF aT aC aR bW bP bM (k + 1) 0 (nI e) := by
  intro k
  induction k with
  | zero => intro e h; exact br_t (nI_le (by omega) (by omega)) (br_t rfl hp)
  | succ k ih => intro e h; exact br_f (nI_ge (by omega) (by omega)) (br_t rfl (nm_r (nI_1 e) (ih (e + 1) (by omega))))
theorem un_1 {post : Int32 → SY → Prop} {r c d : Nat} {x : Int32} (hr : r < 3) (hc : c ≤ 16) (hd : d < 16) (h1 : (∃ e, e < c ∧ bt (aR r) e = true ∧ bt (aN e) d = true) → post (-4) (fp, nI c, fs, aX, aS, bE, bD, bK, bU, bO, bV, aN, aL, bF, aT, aC, aR, bW, bP, bM)) (h0 : (¬ ∃ e, e < c ∧ bt (aR r) e = true ∧ bt (aN e) d = true) → wY_uncommit_64 post (nI r) (nI d) x fp (nI c) fs aX aS bE bD bK bU bO bV aN aL bF aT aC aR bW bP bM 1 1 (nI c)) : ∀ k e, e + k = c → (∀ i, i < e → ¬ (bt (aR r) i = true ∧ bt (aN i) d = true)) → wY_uncommit_64 post (nI r) (nI d) x fp (nI c) fs aX aS bE bD bK bU bO bV aN aL bF aT aC aR bW bP bM (k + 1) 1 (nI e) := by
  intro k
  induction k with
  | zero =>
    intro e h he
    obtain rfl : e = c := by omega
    exact h0 (fun ⟨i, h1, h2⟩ => he i (by omega) h2)
  | succ k ih =>
    intro e h he
    have nx : ¬ (bt (aR r) e = true ∧ bt (aN e) d = true) → wY_uncommit_64 post (nI r) (nI d) x fp (nI c) fs aX aS bE bD bK bU bO bV aN aL bF aT aC aR bW bP bM (k + 1) 1 (nI (e + 1)) := by
      intro z
      refine ih (e + 1) (by omega) (fun i hi => ?_)
      by_cases ei : i = e
      · rw [ei]; exact z
      · exact he i (by omega)
    have er : aR (nI r).toNatClampNeg = aR r := rd rfl (by omega) rfl
    refine br_f (nI_ge (by omega) (by omega)) (br_f ca_10 ⟨vp_in_nI hr (by decide), ?_⟩)
    cases hb : bt (aR r) e with
    | false => exact iy_0 (by omega) (by rw [er]; exact hb) (br_t rfl (nm_r (nI_1 e) (nx (fun z => by rw [hb] at z; cases z.1))))
    | true =>
      have ea : aN (nI e).toNatClampNeg = aN e := rd rfl (by omega) rfl
      cases hb2 : bt (aN e) d with
      | true => exact iy_1 (by omega) (by rw [er]; exact hb) (br_f ca_10 ⟨vp_in_nI (by omega) (by decide), iy_1 (by omega) (by rw [ea]; exact hb2) (br_f ca_10 (nm_r (nI_1 e) (un_0 hc (h1 ⟨e, by omega, hb, hb2⟩) k (e + 1) (by omega))))⟩)
      | false => exact iy_1 (by omega) (by rw [er]; exact hb) (br_f ca_10 ⟨vp_in_nI (by omega) (by decide), iy_0 (by omega) (by rw [ea]; exact hb2) (br_t rfl (nm_r (nI_1 e) (nx (fun z => by rw [hb2] at z; cases z.2))))⟩)
end
theorem i_vc_uncommit {k : Nat} {u : SX} {v : SY} (I : i_Rel k u v) (hk : k + 4 ≤ 2048) (v1 : Int32) (v2 : Int32) : wpX_uncommit (fun r u' => wpY_uncommit (fun r' v' => r' = r ∧ i_Rel (k + 4) u' v') v v1 v2) u v1 v2 := by
  have J := i_up I
  obtain ⟨p, c, ft, fr, fs, aF, aL, aC, aT, aR, aX, aS, aG, aH, aN, aW, aM, aP, aQ, bE, bD, bK, bU, bO, bV, bF, bW, bP, bM, rfl, rfl, hR⟩ := I
  unfold wpX_uncommit wpY_uncommit
  rcases rm_c v1 with ⟨r, hr, rfl⟩ | hb
  · have hR0 := hR
    obtain ⟨hp, hc, hF, hT, hG, hz, hA, hN⟩ := hR
    rcases rc_c c v2 with ⟨d, hd, rfl⟩ | hb
    · have er : aR (nI r).toNatClampNeg = aR r := rd rfl (by omega) rfl
      cases hx : bt (aR r) d with
      | false =>
        refine rx_1 hr (br_f ca_10 (cx_1 hc hd (br_f ca_10 (hx_0 hr (by omega) hx (br_t rfl ?_)))))
        exact ry_1 hr (br_f ca_10 (cy_1 hc hd (br_f ca_10 ⟨vp_in_nI hr (by decide), iy_0 (by omega) (by rw [er]; exact hx) (br_t rfl ⟨rfl, J⟩)⟩)))
      | true =>
        obtain ⟨m, hm, eL, e60, e61, hf⟩ := hF r hr
        obtain ⟨⟨t, hS0⟩, ⟨o, hS1⟩⟩ : (∃ t, sd aG aH (2 * d) (bE d) (bD d) (bK d) bO (20 * d) p t) ∧ (∃ t, sd aG aH (2 * d + 1) (bE d) (bD d) (bU d) bV (20 * d) p t) := hG d hd
        have ht := hS0.1
        have ho := hS1.1
        obtain ⟨m0, m1, m2⟩ := sd_m hS0
        obtain ⟨n0, n1, n2⟩ := sd_m hS1
        have tX := tv_sx (aL := aL) (aW := aW) e60 e61 (fun i hi => (hf i hi).1)
        have tY := tv_sy (bF := bF) (bW := bW) (r := r) (m := m)
        have hw : wv p m (fun i => bF (20 * r + i)) := fun i hi => (hf i hi).2
        refine rx_1 hr (br_f ca_10 (cx_1 hc hd (br_f ca_10 (hx_1 hr (by omega) hx (br_f ca_10 (rb_x (ra_x (st_x0 hr hm eL ?_))))))))
        rcases fd_c m (o + 2) (fun i => bF (20 * r + i)) (fun k => aG (22 * (2 * d + 1) + k)) with hNo | ⟨q, q1, q2, q3⟩
        · refine fx_n hm (by omega) (by omega) hS1.2.2.1 tX hNo (br_t rfl ?_)
          refine ry_1 hr (br_f ca_10 (cy_1 hc hd (br_f ca_10 ⟨vp_in_nI hr (by decide), iy_1 (by omega) (by rw [er]; exact hx) (br_f ca_10 (st_y0 hr hm eL ?_))⟩)))
          refine py_n hm (by omega) tY (ln_1 (by omega) hS1) (me_1 (by omega) hS1) hNo (br_t ca_n1 ⟨_, un_0 hc ?_ c 0 (by omega)⟩)
          exact ⟨rfl, rl_mk hR0⟩
        · refine fx_s hm (by omega) (by omega) hS1.2.2.1 tX q1 q2 q3 (br_f (ca_ne1 (by omega)) ⟨_, rn_x hr hc (by omega) ?_ ?_ c 0 (by omega) (fun i h => absurd h (Nat.not_lt_zero i))⟩)
          · intro hE
            refine br_f ca_10 ?_
            refine ry_1 hr (br_f ca_10 (cy_1 hc hd (br_f ca_10 ⟨vp_in_nI hr (by decide), iy_1 (by omega) (by rw [er]; exact hx) (br_f ca_10 (st_y0 hr hm eL ?_))⟩)))
            refine py_s hm (by omega) tY (ln_1 (by omega) hS1) (me_1 (by omega) hS1) q1 q2 q3 (br_f (nI_pos (by omega)) ⟨_, un_1 hr hc (by omega) (fun _ => ?_) (fun z => absurd hE z) c 0 (by omega) (fun i h => absurd h (Nat.not_lt_zero i))⟩)
            exact ⟨rfl, rl_mk hR0⟩
          · intro hE
            refine br_t rfl ?_
            by_cases h20 : m + t - o ≤ 20
            · have hs' : m + 2 + (t + 2) - (o + 2) = m + t - o + 2 := by omega
              refine rp_x1 (n := o + 2) (n' := t + 2) (by omega) (by omega) hm (by omega) (by omega) (by omega) q1 hS1.2.2.1 hS0.2.2.1 ?_
              refine br_f ca_10 ?_
              have tX' := tv_rx (mem' := fun k => aG (22 * (2 * d) + k)) (more := t) (G := fun j => aG (22 * (2 * d) + (j - q))) tX q2 q1 (m0.trans n0.symm) (m1.trans n1.symm) (fun j _ _ => rfl)
              rw [hs'] at tX' ⊢
              refine kt_x0 hr h20 ⟨vp_in_nI hr (by decide), ⟨vp_in_nI hr (by decide), nm_r (wr rfl (by omega) rfl) ⟨vp_in_nI hr (by decide), ?_⟩⟩⟩
              refine ry_1 hr (br_f ca_10 (cy_1 hc hd (br_f ca_10 ⟨vp_in_nI hr (by decide), iy_1 (by omega) (by rw [er]; exact hx) (br_f ca_10 (st_y0 hr hm eL ?_))⟩)))
              refine py_s hm (by omega) tY (ln_1 (by omega) hS1) (me_1 (by omega) hS1) q1 q2 q3 (br_f (nI_pos (by omega)) ⟨_, un_1 hr hc (by omega) (fun z => absurd z hE) (fun _ => ?_) c 0 (by omega) (fun i h => absurd h (Nat.not_lt_zero i))⟩)
              refine br_t (nI_le (by omega) (by omega)) (br_f ca_10 ⟨vp_in_nI (by omega) (by decide), vp_in_nI (by omega) (by decide), br_t ?_ ?_⟩)
              · rw [rd (a := bU) rfl (by omega) hS1.2.1, rd (a := bK) rfl (by omega) hS0.2.1, pk_sub (by omega), nI_add]
                exact nI_le (b := 20) (by omega) (by decide)
              · refine ry_x (nfl := 0) (out := o) (more := t) (mem' := fun k => aG (22 * (2 * d) + k)) (Or.inr ⟨ca_10, rfl⟩) hm h20 (by omega) (fun fs bW => me_0 (by omega) hS0) (ln_1 (by omega) hS1) (ln_0 (by omega) hS0) ?_
                have tY' := tv_ry (mem' := fun k => aG (22 * (2 * d) + k)) (more := t) (out := o) (p := q) (G := fun j => aG (22 * (2 * d) + (j - q + 1))) tY (by omega) (fun j _ _ => rfl)
                refine kt_y0 hr h20 ⟨vp_in_nI hr (by decide), ⟨vp_in_nI hr (by decide), nm_r (wr rfl (by omega) rfl) ⟨?_, ?_⟩⟩⟩
                · exact (rd rfl (by omega) pk_us).symm
                · refine rl_mk ⟨hp, hc, rl_Fk hr h20 hF tX' tY' (wv_r hw (by omega) m2), hT, hG, hz, ?_, hN⟩
                  intro r' hr' d' h1 h2
                  by_cases e : r' = r
                  · rw [e, pk_us, b_and, er, hA r hr d' h1 h2]; rfl
                  · rw [pk_un e]; exact hA r' hr' d' h1 h2
            · refine rp_x0 (n := o + 2) (n' := t + 2) (by omega) (by omega) hm (by omega) (by omega) q1 hS1.2.2.1 hS0.2.2.1 ?_
              refine br_t rfl ?_
              refine ry_1 hr (br_f ca_10 (cy_1 hc hd (br_f ca_10 ⟨vp_in_nI hr (by decide), iy_1 (by omega) (by rw [er]; exact hx) (br_f ca_10 (st_y0 hr hm eL ?_))⟩)))
              refine py_s hm (by omega) tY (ln_1 (by omega) hS1) (me_1 (by omega) hS1) q1 q2 q3 (br_f (nI_pos (by omega)) ⟨_, un_1 hr hc (by omega) (fun z => absurd z hE) (fun _ => ?_) c 0 (by omega) (fun i h => absurd h (Nat.not_lt_zero i))⟩)
              refine br_t (nI_le (by omega) (by omega)) (br_f ca_10 ⟨vp_in_nI (by omega) (by decide), vp_in_nI (by omega) (by decide), br_f ?_ ?_⟩)
              · rw [rd (a := bU) rfl (by omega) hS1.2.1, rd (a := bK) rfl (by omega) hS0.2.1, pk_sub (by omega), nI_add]
                exact nI_ge (a := 20) (by omega) (by omega)
              · exact ⟨rfl, rl_mk hR0⟩
    · refine rx_1 hr (br_f ca_10 (cx_0 hb (br_t rfl ?_)))
      exact ry_1 hr (br_f ca_10 (cy_0 hb (br_t rfl ⟨rfl, J⟩)))
  · refine rx_0 hb (br_t rfl ?_)
    exact ry_0 hb (br_t rfl ⟨rfl, J⟩)
end
section
/-! is the copy as the file -/
section
variable {fp fc ft fr : Int32} {aF aL aC aT aR aX aS aG aH aN aW aM aP aQ : Nat → Int32}
theorem xs_x {post : Int32 → Prop} {r i j l : Nat} (hr : r < 3) (hi : i < 20) (hj : j < 20) (hl : l < 60) (e : aF (22 * r + 1 + i) = nI l) (h1 : aX l = aC (20 * r + j) → post 1) (h0 : ¬ aX l = aC (20 * r + j) → post 0) : wpX_isSameText post (fp, fc, ft, fr, aF, aL, aC, aT, aR, aX, aS, aG, aH, aN, aW, aM, aP, aQ) (nI r) (nI (i + 1)) (nI (j + 1)) := by
  have e1 : nI r * 22 + nI (i + 1) = nI (22 * r + 1 + i) := by rw [xa]; exact congrArg nI (by omega)
  refine ⟨pk_in (22 * r + 1 + i) 66 (by omega) e1, nm_r (rd e1 (by omega) e) ⟨vp_in_nI hl (by decide), pk_in (20 * r + j) 60 (by omega) (xd r j), ?_⟩⟩
  rw [rd (a := aX) rfl (by omega) rfl, rd (a := aC) (xd r j) (by omega) rfl]
  exact br_c h1 h0
theorem ic_l {post : Int32 → Prop} {r m : Nat} {bF : Nat → Int32} (hr : r < 3) (hm : m ≤ 20) (eL : aL r = nI m) (hf : ∀ i, i < m → aF (22 * r + 1 + i) = bF (20 * r + i) ∧ ∃ l, l < 60 ∧ bF (20 * r + i) = nI l) (h1 : (∀ i, i < m → aX (bF (20 * r + i)).toNatClampNeg = aC (20 * r + i)) → post 1) (h0 : ¬ (∀ i, i < m → aX (bF (20 * r + i)).toNatClampNeg = aC (20 * r + i)) → post 0) : ∀ d i, i + d = m → (∀ j, j < i → aX (bF (20 * r + j)).toNatClampNeg = aC (20 * r + j)) → wX_isCopyAsFile_19 post (nI r) fp fc ft fr aF aL aC aT aR aX aS aG aH aN aW aM aP aQ (d + 1) (nI (i + 1)) := by
  intro d
  induction d with
  | zero =>
    intro i h hi
    obtain rfl : i = m := by omega
    exact ⟨vp_in_nI hr (by decide), br_t (by rw [rd rfl (by omega) eL]; exact nI_lt (by omega) (by omega)) (h1 hi)⟩
  | succ d ih =>
    intro i h hi
    obtain ⟨e1, l, hl, e2⟩ := hf i (by omega)
    have e3 : aX (bF (20 * r + i)).toNatClampNeg = aX l := by rw [e2, nI_clamp (by omega)]
    refine ⟨vp_in_nI hr (by decide), br_f (by rw [rd rfl (by omega) eL]; exact nI_nlt (by omega) (by omega)) (xs_x hr (by omega) (by omega) hl (e1.trans e2) (fun e => br_f ca_10 (nm_r (nI_1 (i + 1)) (ih (i + 1) (by omega) ?_))) (fun e => br_t rfl (h0 (fun z => e (e3.symm.trans (z i (by omega)))))))⟩
    intro j hj
    by_cases ej : j = i
    · rw [ej, e3]; exact e
    · exact hi j (by omega)
theorem ic_x {post : Int32 → Prop} {r m n : Nat} {bF : Nat → Int32} (hr : r < 3) (hm : m ≤ 20) (hn : n ≤ 20) (eL : aL r = nI m) (eT : aT r = nI n) (hf : ∀ i, i < m → aF (22 * r + 1 + i) = bF (20 * r + i) ∧ ∃ l, l < 60 ∧ bF (20 * r + i) = nI l) (h1 : (m = n ∧ ∀ i, i < m → aX (bF (20 * r + i)).toNatClampNeg = aC (20 * r + i)) → post 1) (h0 : ¬ (m = n ∧ ∀ i, i < m → aX (bF (20 * r + i)).toNatClampNeg = aC (20 * r + i)) → post 0) : wpX_isCopyAsFile post (fp, fc, ft, fr, aF, aL, aC, aT, aR, aX, aS, aG, aH, aN, aW, aM, aP, aQ) (nI r) := by
  refine ⟨vp_in_nI hr (by decide), vp_in_nI hr (by decide), ?_⟩
  rw [rd (a := aL) rfl (by omega) eL, rd (a := aT) rfl (by omega) eT]
  refine pk_eq m n (fun e => ⟨m + 1, ic_l hr hm eL hf (fun z => h1 ⟨e, z⟩) (fun z => h0 (fun q => z q.2)) m 0 (by omega) (fun j h => absurd h (Nat.not_lt_zero j))⟩) (fun e => h0 (fun q => e q.1))
end
section
variable {fp fc fs : Int32} {aX aS bE bD bK bU bO bV aN aL bF aT aC aR bW bP bM : Nat → Int32}
theorem fi_y {post : Int32 → Prop} {r i j l : Nat} (hr : r < 3) (hi : i < 20) (hj : j < 20) (hl : l < 60) (e : bF (20 * r + i) = nI l) (h1 : aX l = aC (20 * r + j) → post 1) (h0 : ¬ aX l = aC (20 * r + j) → post 0) : wpY_fits post (fp, fc, fs, aX, aS, bE, bD, bK, bU, bO, bV, aN, aL, bF, aT, aC, aR, bW, bP, bM) (nI r) (nI i) (nI j) := by
  have e1 : bF (20 * nI r + nI i).toNatClampNeg = nI l := rd (ya r i) (by omega) e
  refine ⟨pk_in (20 * r + i) 60 (by omega) (ya r i), by rw [e1]; exact vp_in_nI hl (by decide), pk_in (20 * r + j) 60 (by omega) (ya r j), ?_⟩
  rw [rd (a := aX) e1 (by omega) rfl, rd (a := aC) (ya r j) (by omega) rfl]
  exact br_c h1 h0
theorem ic_0 {post : Int32 → Prop} {r m : Nat} (hr : r < 3) (hm : m ≤ 20) (eL : aL r = nI m) (hp : post 0) (n i : Nat) (hi : i ≤ m) : wY_isClean_23 post (nI r) fp fc fs aX aS bE bD bK bU bO bV aN aL bF aT aC aR bW bP bM (n + 1) 0 (nI i) := by
  refine ⟨vp_in_nI hr (by decide), ?_⟩
  rw [rd rfl (by omega) eL]
  exact pk_le m i (fun _ => ⟨by decide, hp⟩) (fun _ => br_t rfl ⟨by decide, hp⟩)
theorem ic_1 {post : Int32 → Prop} {r m : Nat} (hr : r < 3) (hm : m ≤ 20) (eL : aL r = nI m) (hf : ∀ i, i < m → ∃ l, l < 60 ∧ bF (20 * r + i) = nI l) (h1 : (∀ i, i < m → aX (bF (20 * r + i)).toNatClampNeg = aC (20 * r + i)) → post 1) (h0 : ¬ (∀ i, i < m → aX (bF (20 * r + i)).toNatClampNeg = aC (20 * r + i)) → post 0) : ∀ d i, i + d = m → (∀ j, j < i → aX (bF (20 * r + j)).toNatClampNeg = aC (20 * r + j)) → wY_isClean_23 post (nI r) fp fc fs aX aS bE bD bK bU bO bV aN aL bF aT aC aR bW bP bM (d + 1) 1 (nI i) := by
  intro d
  induction d with
  | zero =>
    intro i h hi
    obtain rfl : i = m := by omega
    exact ⟨vp_in_nI hr (by decide), br_t (by rw [rd rfl (by omega) eL]; exact nI_le (by omega) (by omega)) ⟨by decide, h1 hi⟩⟩
  | succ d ih =>
    intro i h hi
    obtain ⟨l, hl, e2⟩ := hf i (by omega)
    have e3 : aX (bF (20 * r + i)).toNatClampNeg = aX l := by rw [e2, nI_clamp (by omega)]
    refine ⟨vp_in_nI hr (by decide), br_f (by rw [rd rfl (by omega) eL]; exact nI_ge (by omega) (by omega)) (br_f ca_10 (fi_y hr (by omega) (by omega) hl e2 (fun e => nm_r (nI_1 i) (ih (i + 1) (by omega) ?_)) (fun e => nm_r (nI_1 i) (ic_0 hr hm eL (h0 (fun z => e (e3.symm.trans (z i (by omega))))) d (i + 1) (by omega)))))⟩
    intro j hj
    by_cases ej : j = i
    · rw [ej, e3]; exact e
    · exact hi j (by omega)
theorem ic_y {post : Int32 → Prop} {r m n : Nat} (hr : r < 3) (hm : m ≤ 20) (hn : n ≤ 20) (eL : aL r = nI m) (eT : aT r = nI n) (hf : ∀ i, i < m → ∃ l, l < 60 ∧ bF (20 * r + i) = nI l) (h1 : (m = n ∧ ∀ i, i < m → aX (bF (20 * r + i)).toNatClampNeg = aC (20 * r + i)) → post 1) (h0 : ¬ (m = n ∧ ∀ i, i < m → aX (bF (20 * r + i)).toNatClampNeg = aC (20 * r + i)) → post 0) : wpY_isClean post (fp, fc, fs, aX, aS, bE, bD, bK, bU, bO, bV, aN, aL, bF, aT, aC, aR, bW, bP, bM) (nI r) := by
  refine ⟨vp_in_nI hr (by decide), vp_in_nI hr (by decide), ?_⟩
  rw [rd (a := aL) rfl (by omega) eL, rd (a := aT) rfl (by omega) eT]
  refine pk_eq m n (fun e => ⟨m + 1, ic_1 hr hm eL hf (fun z => h1 ⟨e, z⟩) (fun z => h0 (fun q => z q.2)) m 0 (by omega) (fun j h => absurd h (Nat.not_lt_zero j))⟩) (fun e => ⟨1, ic_0 hr hm eL (h0 (fun q => e q.1)) 0 0 (by omega)⟩)
end
end
section
/-! all wanted changes, made in the trial -/
section
variable {fp fc ft fr : Int32} {aF aL aC aT aR aX aS aG aH aN aW aM aP aQ : Nat → Int32} {fs : Int32} {bE bD bK bU bO bV bF bW bP bM : Nat → Int32}
theorem mk_all {c P : Nat} {wn : Int32} (hc : c ≤ 16) (hG : ∀ d, d < c → rl_C aG aH bE bD bK bU bO bV P d) : ∀ k e, e + k = c → ∀ (s made : Nat) (w : Nat → Int32), s ≤ 20 → wv P s w → ∃ (ret : Int32) (s' : Nat) (w' : Nat → Int32), s' ≤ 20 ∧ wv P s' w' ∧ (∀ (post : Int32 → SX → Prop) (aW : Nat → Int32), tvX aW s w → (∀ aW', tvX aW' s' w' → post ret (fp, nI c, nI (s' + 2), fr, aF, aL, aC, aT, aR, aX, aS, aG, aH, aN, aW', aM, aP, aQ)) → wX_makeInTrial_4 post wn (k + 1) (nI made) (nI e) fp (nI c) (nI (s + 2)) fr aF aL aC aT aR aX aS aG aH aN aW aM aP aQ) ∧ (∀ (post : Int32 → SY → Prop) (bW : Nat → Int32), tvY bW s w → (∀ bW', tvY bW' s' w' → post ret (fp, nI c, nI s', aX, aS, bE, bD, bK, bU, bO, bV, aN, aL, bF, aT, aC, aR, bW', bP, bM)) → wY_makeAll_4 post wn (k + 1) (nI made) (nI e) fp (nI c) (nI s) aX aS bE bD bK bU bO bV aN aL bF aT aC aR bW bP bM) := by
  intro k
  induction k with
  | zero =>
    intro e h s made w hs hw
    exact ⟨nI made, s, w, hs, hw, fun post aW hX hp => br_t (nI_le (by omega) (by omega)) (hp aW hX), fun post bW hY hp => br_t (nI_le (by omega) (by omega)) (hp bW hY)⟩
  | succ k ih =>
    intro e h s made w hs hw
    have hlt : ¬ nI c ≤ nI e := nI_ge (by omega) (by omega)
    cases hb : bt wn e with
    | false =>
      obtain ⟨ret, s', w', h1, h2, hX, hY⟩ := ih (e + 1) (by omega) s made w hs hw
      exact ⟨ret, s', w', h1, h2, fun post aW tx hp => br_f hlt (ix_0 (by omega) hb (br_t rfl (nm_r (nI_1 e) (hX post aW tx hp)))), fun post bW ty hp => br_f hlt (iy_0 (by omega) hb (br_t rfl (nm_r (nI_1 e) (hY post bW ty hp))))⟩
    | true =>
      obtain ⟨⟨t, hS0⟩, ⟨o, hS1⟩⟩ : (∃ t, sd aG aH (2 * e) (bE e) (bD e) (bK e) bO (20 * e) P t) ∧ (∃ t, sd aG aH (2 * e + 1) (bE e) (bD e) (bU e) bV (20 * e) P t) := hG e (by omega)
      have ht := hS0.1
      have ho := hS1.1
      obtain ⟨m0, m1, m2⟩ := sd_m hS0
      obtain ⟨n0, n1, n2⟩ := sd_m hS1
      rcases fd_c s (t + 2) w (fun k => aG (22 * (2 * e) + k)) with hNo | ⟨q, q1, q2, q3⟩
      · refine ⟨-6, s, w, hs, hw, fun post aW tx hp => br_f hlt (ix_1 (by omega) hb (br_f ca_10 (rb_x (ra_x (fx_n hs (by omega) (by omega) hS0.2.2.1 tx hNo (br_t rfl (hp aW tx))))))), fun post bW ty hp => br_f hlt (iy_1 (by omega) hb (br_f ca_10 (py_n hs (by omega) ty (ln_0 (by omega) hS0) (me_0 (by omega) hS0) hNo (br_f (by decide) (hp bW ty)))))⟩
      · by_cases h20 : s + o - t ≤ 20
        · obtain ⟨ret, s', w', h1, h2, hX, hY⟩ := ih (e + 1) (by omega) (s + o - t) (made + 1) (rpw q t o (fun k => aG (22 * (2 * e + 1) + k)) w) h20 (wv_r hw (by omega) n2)
          refine ⟨ret, s', w', h1, h2, fun post aW tx hp => br_f hlt (ix_1 (by omega) hb (br_f ca_10 (rb_x (ra_x (fx_s hs (by omega) (by omega) hS0.2.2.1 tx q1 q2 q3 (br_f (ca_ne1 (by omega)) ?_)))))), fun post bW ty hp => br_f hlt (iy_1 (by omega) hb (br_f ca_10 (py_s hs (by omega) ty (ln_0 (by omega) hS0) (me_0 (by omega) hS0) q1 q2 q3 (br_t (nI_pos' (by omega)) ⟨vp_in_nI (by omega) (by decide), vp_in_nI (by omega) (by decide), br_t ?_ ?_⟩))))⟩
          · have tX' := tv_rx (mem' := fun k => aG (22 * (2 * e + 1) + k)) (more := o) (G := fun j => aG (22 * (2 * e + 1) + (j - q))) tx q2 q1 (n0.trans m0.symm) (n1.trans m1.symm) (fun j _ _ => rfl)
            refine rp_x1 (n := t + 2) (n' := o + 2) (by omega) (by omega) hs (by omega) (by omega) (by omega) q1 hS0.2.2.1 hS1.2.2.1 ?_
            have hs' : s + 2 + (o + 2) - (t + 2) = s + o - t + 2 := by omega
            rw [hs'] at tX' ⊢
            exact br_f ca_10 (nm_r (nI_1 made) (nm_r (nI_1 e) (hX post _ tX' hp)))
          · rw [rd (a := bU) rfl (by omega) hS1.2.1, rd (a := bK) rfl (by omega) hS0.2.1, pk_sub (by omega), nI_add]
            exact nI_le (b := 20) (by omega) (by decide)
          · have tY' := tv_ry (mem' := fun k => aG (22 * (2 * e + 1) + k)) (more := o) (out := t) (p := q) (G := fun j => aG (22 * (2 * e + 1) + (j - q + 1))) ty (by omega) (fun j _ _ => rfl)
            exact ry_x (nfl := 1) (out := t) (more := o) (mem' := fun k => aG (22 * (2 * e + 1) + k)) (Or.inl ⟨rfl, rfl⟩) hs h20 (by omega) (fun fs bW => me_1 (by omega) hS1) (ln_0 (by omega) hS0) (ln_1 (by omega) hS1) (nm_r (nI_1 made) (nm_r (nI_1 e) (hY post _ tY' hp)))
        · refine ⟨-7, s, w, hs, hw, fun post aW tx hp => br_f hlt (ix_1 (by omega) hb (br_f ca_10 (rb_x (ra_x (fx_s hs (by omega) (by omega) hS0.2.2.1 tx q1 q2 q3 (br_f (ca_ne1 (by omega)) (rp_x0 (n := t + 2) (n' := o + 2) (by omega) (by omega) hs (by omega) (by omega) q1 hS0.2.2.1 hS1.2.2.1 (br_t rfl (hp aW tx))))))))), fun post bW ty hp => br_f hlt (iy_1 (by omega) hb (br_f ca_10 (py_s hs (by omega) ty (ln_0 (by omega) hS0) (me_0 (by omega) hS0) q1 q2 q3 (br_t (nI_pos' (by omega)) ⟨vp_in_nI (by omega) (by decide), vp_in_nI (by omega) (by decide), br_f ?_ (hp bW ty)⟩))))⟩
          rw [rd (a := bU) rfl (by omega) hS1.2.1, rd (a := bK) rfl (by omega) hS0.2.1, pk_sub (by omega), nI_add]
          exact nI_ge (a := 20) (by omega) (by omega)
theorem tp_all {p c : Nat} (hR : rl_R p c aF aL bF aT aR aN aG aH bE bD bK bU bO bV) (v1 v2 v3 : Int32) : ∃ ret : Int32, (ret < 0 ∧ (∀ post : Int32 → SX → Prop, (∀ (ft : Int32) (aW : Nat → Int32), post ret (nI p, nI c, ft, fr, aF, aL, aC, aT, aR, aX, aS, aG, aH, aN, aW, aM, aP, aQ)) → wpX_tryPull post (nI p, nI c, ft, fr, aF, aL, aC, aT, aR, aX, aS, aG, aH, aN, aW, aM, aP, aQ) v1 v2 v3) ∧ (∀ post : Int32 → SY → Prop, (∀ (fs : Int32) (bW : Nat → Int32), post ret (nI p, nI c, fs, aX, aS, bE, bD, bK, bU, bO, bV, aN, aL, bF, aT, aC, aR, bW, bP, bM)) → wpY_tryPull post (nI p, nI c, fs, aX, aS, bE, bD, bK, bU, bO, bV, aN, aL, bF, aT, aC, aR, bW, bP, bM) v1 v2 v3)) ∨ (¬ ret < 0 ∧ ∃ r d : Nat, r < 3 ∧ d < c ∧ v1 = nI r ∧ v3 = nI d ∧ ∃ (s : Nat) (w : Nat → Int32), s ≤ 20 ∧ wv p s w ∧ (∀ post : Int32 → SX → Prop, (∀ (aW : Nat → Int32), tvX aW s w → post ret (nI p, nI c, nI (s + 2), fr, aF, aL, aC, aT, aR, aX, aS, aG, aH, aN, aW, aM, aP, aQ)) → wpX_tryPull post (nI p, nI c, ft, fr, aF, aL, aC, aT, aR, aX, aS, aG, aH, aN, aW, aM, aP, aQ) v1 v2 v3) ∧ (∀ post : Int32 → SY → Prop, (∀ (bW : Nat → Int32), tvY bW s w → post ret (nI p, nI c, nI s, aX, aS, bE, bD, bK, bU, bO, bV, aN, aL, bF, aT, aC, aR, bW, bP, bM)) → wpY_tryPull post (nI p, nI c, fs, aX, aS, bE, bD, bK, bU, bO, bV, aN, aL, bF, aT, aC, aR, bW, bP, bM) v1 v2 v3)) := by
  obtain ⟨hp, hc, hF, hT, hG, hz, hA, hN⟩ := hR
  unfold wpX_tryPull wpY_tryPull
  rcases rm_c v1 with ⟨r, hr, rfl⟩ | hb
  · rcases rm_c v2 with ⟨f, hf3, rfl⟩ | hb
    · rcases rc_c c v3 with ⟨d, hd, rfl⟩ | hb
      · have er : aR (nI r).toNatClampNeg = aR r := rd rfl (by omega) rfl
        have ef : aR (nI f).toNatClampNeg = aR f := rd rfl (by omega) rfl
        cases hx : bt (aR f) d with
        | false =>
          refine ⟨-3, Or.inl ⟨by decide, fun post h => ?_, fun post h => ?_⟩⟩
          · exact rx_1 hr (br_f ca_10 (rx_1 hf3 (br_f ca_10 (cx_1 hc hd (br_f ca_10 (hx_0 hf3 (by omega) hx (br_t rfl (h _ _))))))))
          · exact ry_1 hr (br_f ca_10 (ry_1 hf3 (br_f ca_10 (cy_1 hc hd (br_f ca_10 ⟨vp_in_nI hf3 (by decide), iy_0 (by omega) (by rw [ef]; exact hx) (br_t rfl (h _ _))⟩)))))
        | true =>
          cases hx2 : bt (aR r) d with
          | true =>
            refine ⟨-4, Or.inl ⟨by decide, fun post h => ?_, fun post h => ?_⟩⟩
            · exact rx_1 hr (br_f ca_10 (rx_1 hf3 (br_f ca_10 (cx_1 hc hd (br_f ca_10 (hx_1 hf3 (by omega) hx (br_f ca_10 (hx_1 hr (by omega) hx2 (br_f ca_10 (h _ _))))))))))
            · exact ry_1 hr (br_f ca_10 (ry_1 hf3 (br_f ca_10 (cy_1 hc hd (br_f ca_10 ⟨vp_in_nI hf3 (by decide), iy_1 (by omega) (by rw [ef]; exact hx) (br_f ca_10 ⟨vp_in_nI hr (by decide), iy_1 (by omega) (by rw [er]; exact hx2) (br_f ca_10 (h _ _))⟩)⟩)))))
          | false =>
            obtain ⟨m, hm, eL, e60, e61, hf⟩ := hF r hr
            obtain ⟨n, hn, eT⟩ := hT r hr
            have hf' : ∀ i, i < m → aF (22 * r + 1 + i) = bF (20 * r + i) ∧ ∃ l, l < 60 ∧ bF (20 * r + i) = nI l := fun i hi => by
              obtain ⟨a, l, hl, b⟩ := hf i hi
              exact ⟨a, l, by omega, b⟩
            by_cases hcl : m = n ∧ ∀ i, i < m → aX (bF (20 * r + i)).toNatClampNeg = aC (20 * r + i)
            · have hw : wv p m (fun i => bF (20 * r + i)) := fun i hi => (hf i hi).2
              obtain ⟨ret, s, w, h1, h2, hX, hY⟩ := mk_all (fp := nI p) (fr := fr) (aF := aF) (aL := aL) (aC := aC) (aT := aT) (aR := aR) (aX := aX) (aS := aS) (aN := aN) (aM := aM) (aP := aP) (aQ := aQ) (bF := bF) (bP := bP) (bM := bM) (wn := ((aN d) ||| ((1 : Int32) <<< (nI d &&& 31))) &&& ((aR r) ^^^ (-1))) hc hG c 0 (by omega) m 0 (fun i => bF (20 * r + i)) hm hw
              have ea : aN (nI d).toNatClampNeg = aN d := rd rfl (by omega) rfl
              have tX := tv_sx (aL := aL) (aW := aW) e60 e61 (fun i hi => (hf i hi).1)
              have tY := tv_sy (bF := bF) (bW := bW) (r := r) (m := m)
              have QX : ∀ post : Int32 → SX → Prop, (∀ (aW : Nat → Int32), tvX aW s w → post ret (nI p, nI c, nI (s + 2), fr, aF, aL, aC, aT, aR, aX, aS, aG, aH, aN, aW, aM, aP, aQ)) → wpX_tryPull post (nI p, nI c, ft, fr, aF, aL, aC, aT, aR, aX, aS, aG, aH, aN, aW, aM, aP, aQ) (nI r) (nI f) (nI d) := by
                intro post h
                unfold wpX_tryPull
                refine rx_1 hr (br_f ca_10 (rx_1 hf3 (br_f ca_10 (cx_1 hc hd (br_f ca_10 (hx_1 hf3 (by omega) hx (br_f ca_10 (hx_0 hr (by omega) hx2 (br_t rfl (ic_x hr hm hn eL eT hf' (fun _ => br_f ca_10 (st_x0 hr hm eL ⟨vp_in_nI (by omega) (by decide), vp_in_nI hr (by decide), nm_r (by rw [ea, er]) ?_⟩)) (fun z => absurd hcl z))))))))))) 
                exact ⟨_, hX _ _ tX h⟩
              have QY : ∀ post : Int32 → SY → Prop, (∀ (bW : Nat → Int32), tvY bW s w → post ret (nI p, nI c, nI s, aX, aS, bE, bD, bK, bU, bO, bV, aN, aL, bF, aT, aC, aR, bW, bP, bM)) → wpY_tryPull post (nI p, nI c, fs, aX, aS, bE, bD, bK, bU, bO, bV, aN, aL, bF, aT, aC, aR, bW, bP, bM) (nI r) (nI f) (nI d) := by
                intro post h
                unfold wpY_tryPull
                refine ry_1 hr (br_f ca_10 (ry_1 hf3 (br_f ca_10 (cy_1 hc hd (br_f ca_10 ⟨vp_in_nI hf3 (by decide), iy_1 (by omega) (by rw [ef]; exact hx) (br_f ca_10 ⟨vp_in_nI hr (by decide), iy_0 (by omega) (by rw [er]; exact hx2) (br_t rfl (ic_y hr hm hn eL eT (fun i hi => (hf' i hi).2) (fun _ => br_f ca_10 (st_y0 hr hm eL ⟨vp_in_nI (by omega) (by decide), vp_in_nI hr (by decide), ?_⟩)) (fun z => absurd hcl z)))⟩)⟩)))))
                rw [ea, er]
                exact ⟨_, hY _ _ tY h⟩
              by_cases hret : ret < 0
              · have q1 : tvX (fun j => ew s w j) s w := fun j _ => rfl
                exact ⟨ret, Or.inl ⟨hret, fun post h => QX post (fun aW _ => h _ aW), fun post h => QY post (fun bW _ => h _ bW)⟩⟩
              · exact ⟨ret, Or.inr ⟨hret, r, d, hr, hd, rfl, rfl, s, w, h1, h2, QX, QY⟩⟩
            · refine ⟨-5, Or.inl ⟨by decide, fun post h => ?_, fun post h => ?_⟩⟩
              · exact rx_1 hr (br_f ca_10 (rx_1 hf3 (br_f ca_10 (cx_1 hc hd (br_f ca_10 (hx_1 hf3 (by omega) hx (br_f ca_10 (hx_0 hr (by omega) hx2 (br_t rfl (ic_x hr hm hn eL eT hf' (fun z => absurd z hcl) (fun _ => br_t rfl (h _ _)))))))))))) 
              · exact ry_1 hr (br_f ca_10 (ry_1 hf3 (br_f ca_10 (cy_1 hc hd (br_f ca_10 ⟨vp_in_nI hf3 (by decide), iy_1 (by omega) (by rw [ef]; exact hx) (br_f ca_10 ⟨vp_in_nI hr (by decide), iy_0 (by omega) (by rw [er]; exact hx2) (br_t rfl (ic_y hr hm hn eL eT (fun i hi => (hf' i hi).2) (fun z => absurd z hcl) (fun _ => br_t rfl (h _ _))))⟩)⟩)))))
      · refine ⟨-2, Or.inl ⟨by decide, fun post h => ?_, fun post h => ?_⟩⟩
        · exact rx_1 hr (br_f ca_10 (rx_1 hf3 (br_f ca_10 (cx_0 hb (br_t rfl (h _ _))))))
        · exact ry_1 hr (br_f ca_10 (ry_1 hf3 (br_f ca_10 (cy_0 hb (br_t rfl (h _ _))))))
    · refine ⟨-1, Or.inl ⟨by decide, fun post h => ?_, fun post h => ?_⟩⟩
      · exact rx_1 hr (br_f ca_10 (rx_0 hb (br_t rfl (h _ _))))
      · exact ry_1 hr (br_f ca_10 (ry_0 hb (br_t rfl (h _ _))))
  · refine ⟨-1, Or.inl ⟨by decide, fun post h => ?_, fun post h => ?_⟩⟩
    · exact rx_0 hb (br_t rfl (h _ _))
    · exact ry_0 hb (br_t rfl (h _ _))
end
end
section
theorem i_vc_canPull {k : Nat} {u : SX} {v : SY} (I : i_Rel k u v) (hk : k + 4 ≤ 2048) (v1 : Int32) (v2 : Int32) (v3 : Int32) : wpX_canPull (fun r u' => wpY_canPull (fun r' v' => r' = r ∧ i_Rel (k + 4) u' v') v v1 v2 v3) u v1 v2 v3 := by
  obtain ⟨p, c, ft, fr, fs, aF, aL, aC, aT, aR, aX, aS, aG, aH, aN, aW, aM, aP, aQ, bE, bD, bK, bU, bO, bV, bF, bW, bP, bM, rfl, rfl, hR⟩ := I
  unfold wpX_canPull wpY_canPull
  obtain ⟨ret, ⟨h0, hX, hY⟩ | ⟨h0, r, d, hr, hd, rfl, rfl, s, w, hs, hw, hX, hY⟩⟩ := tp_all (ft := ft) (fr := fr) (fs := fs) (aC := aC) (aX := aX) (aS := aS) (aW := aW) (aM := aM) (aP := aP) (aQ := aQ) (bW := bW) (bP := bP) (bM := bM) hR v1 v2 v3
  · refine hX _ (fun ft aW => br_f (fun z => absurd h0 (Int32.not_lt.mpr z)) ?_)
    exact hY _ (fun fs bW => br_t h0 ⟨rfl, rl_mk hR⟩)
  · refine hX _ (fun aW tx => br_t (Int32.not_lt.mp h0) ?_)
    exact hY _ (fun bW ty => br_f h0 ⟨rfl, rl_mk hR⟩)
theorem i_vc_pull {k : Nat} {u : SX} {v : SY} (I : i_Rel k u v) (hk : k + 4 ≤ 2048) (v1 : Int32) (v2 : Int32) (v3 : Int32) : wpX_pull (fun r u' => wpY_pull (fun r' v' => r' = r ∧ i_Rel (k + 4) u' v') v v1 v2 v3) u v1 v2 v3 := by
  obtain ⟨p, c, ft, fr, fs, aF, aL, aC, aT, aR, aX, aS, aG, aH, aN, aW, aM, aP, aQ, bE, bD, bK, bU, bO, bV, bF, bW, bP, bM, rfl, rfl, hR⟩ := I
  unfold wpX_pull wpY_pull
  obtain ⟨ret, ⟨h0, hX, hY⟩ | ⟨h0, r, d, hr, hd, rfl, rfl, s, w, hs, hw, hX, hY⟩⟩ := tp_all (ft := ft) (fr := fr) (fs := fs) (aC := aC) (aX := aX) (aS := aS) (aW := aW) (aM := aM) (aP := aP) (aQ := aQ) (bW := bW) (bP := bP) (bM := bM) hR v1 v2 v3
  · refine hX _ (fun ft aW => br_f (fun z => absurd h0 (Int32.not_lt.mpr z)) ?_)
    exact hY _ (fun fs bW => br_t h0 ⟨rfl, rl_mk hR⟩)
  · obtain ⟨hp, hc, hF, hT, hG, hz, hA, hN⟩ := hR
    refine hX _ (fun aW tx => br_t (Int32.not_lt.mp h0) (kt_x0 hr hs ?_))
    have er : aR (nI r).toNatClampNeg = aR r := rd rfl (by omega) rfl
    have ea : aN (nI d).toNatClampNeg = aN d := rd rfl (by omega) rfl
    have hF' : rl_F (bk aF (22 * r) (22 * r + (s + 2)) (fun j => aW (j - 22 * r))) (upd aL r (nI s)) (bk bF (20 * r) (20 * r + s) (fun j => w (j - 20 * r))) p := by
      refine rl_Fk (bW := w) hr hs hF tx (fun i _ => rfl) hw
    obtain ⟨m', hm', eL', e60', e61', hf'⟩ := hF' r hr
    refine cf_x0 (g := fun j => aX (bk bF (20 * r) (20 * r + s) (fun j => w (j - 20 * r)) j).toNatClampNeg) hr hm' eL' ?_ ?_
    · intro i hi
      obtain ⟨e1, l, hl, e2⟩ := hf' i hi
      exact ⟨l, by omega, e1.trans e2, by rw [e2, nI_clamp (by omega)]⟩
    · refine ⟨vp_in_nI hr (by decide), vp_in_nI (by omega) (by decide), vp_in_nI hr (by decide), nm_r (e' := upd aR r (aR r ||| (aN d ||| ((1 : Int32) <<< (nI d &&& 31))))) (wr rfl (by omega) (by rw [er, ea])) ?_⟩
      refine hY _ (fun bW ty => br_f h0 (kt_y0 hr hs ⟨vp_in_nI hr (by decide), vp_in_nI (by omega) (by decide), vp_in_nI hr (by decide), nm_r (e' := upd aR r (aR r ||| (aN d ||| ((1 : Int32) <<< (nI d &&& 31))))) (wr rfl (by omega) (by rw [er, ea, Int32.or_assoc])) ?_⟩))
      have eb : bk bF (20 * r) (20 * r + s) (fun j => bW (j - 20 * r)) = bk bF (20 * r) (20 * r + s) (fun j => w (j - 20 * r)) := bk_cg (fun j h1 h2 => ty (j - 20 * r) (by omega))
      rw [eb]
      refine cf_y0 (g := fun j => aX (bk bF (20 * r) (20 * r + s) (fun j => w (j - 20 * r)) j).toNatClampNeg) hr hm' eL' ?_ ⟨rfl, rl_mk ⟨hp, hc, hF', rl_Tu hT hm', hG, hz, ?_, hN⟩⟩
      · intro i hi
        obtain ⟨e1, l, hl, e2⟩ := hf' i hi
        exact ⟨l, by omega, e2, by rw [e2, nI_clamp (by omega)]⟩
      · intro r' hr' d' h1 h2
        by_cases e : r' = r
        · rw [e, pk_us, b_or, b_or, hA r hr d' h1 h2, hN d hd d' h1 h2, bq_sh h2 (by omega), decide_eq_false (by omega)]; rfl
        · rw [pk_un e]; exact hA r' hr' d' h1 h2
end
section
/-! the table of the component -/
def dX (q : Nat → Nat → Bool) (m n : Nat) (aM : Nat → Int32) (e f : Nat) : Prop := ∀ i j, i ≤ m → j ≤ n → (e ≤ i ∨ (i + 1 = e ∧ f ≤ j)) → aM (22 * (i + 1) + (j + 1)) = nI (gT q m n i j)
theorem dX_u {q : Nat → Nat → Bool} {m n e f : Nat} {aM : Nat → Int32} {x : Int32} (hn : n ≤ 20) (hf : f ≤ n) (h : dX q m n aM (e + 1) (f + 1)) (hx : x = nI (gT q m n e f)) : dX q m n (upd aM (22 * (e + 1) + (f + 1)) x) (e + 1) f := by
  intro i j hi hj hd
  by_cases e1 : i = e ∧ j = f
  · rw [e1.1, e1.2, pk_us, hx]
  · rw [pk_un (by omega)]
    exact h i j hi hj (by omega)
theorem dX_n {q : Nat → Nat → Bool} {m n e : Nat} {aM : Nat → Int32} (h : dX q m n aM (e + 1) 0) : dX q m n aM e (n + 1) := by
  intro i j hi hj hd
  exact h i j hi hj (by omega)
def fit (aX aC bF : Nat → Int32) (r : Nat) : Nat → Nat → Bool := fun i j => decide (aX (bF (20 * r + i)).toNatClampNeg = aC (20 * r + j))
section
variable {fp fc ft fr : Int32} {aF aL aC aT aR aX aS aG aH aN aW aM aP aQ : Nat → Int32} {bF : Nat → Int32}
theorem xs_f {post : Int32 → Prop} {r i j l : Nat} (hr : r < 3) (hi : i < 20) (hj : j < 20) (hl : l < 60) (e1 : aF (22 * r + 1 + i) = bF (20 * r + i)) (e2 : bF (20 * r + i) = nI l) (h1 : fit aX aC bF r i j = true → post 1) (h0 : fit aX aC bF r i j = false → post 0) : wpX_isSameText post (fp, fc, ft, fr, aF, aL, aC, aT, aR, aX, aS, aG, aH, aN, aW, aM, aP, aQ) (nI r) (nI (i + 1)) (nI (j + 1)) := by
  have e3 : aX (bF (20 * r + i)).toNatClampNeg = aX l := by rw [e2, nI_clamp (by omega)]
  refine xs_x hr hi hj hl (e1.trans e2) (fun z => h1 ?_) (fun z => h0 ?_)
  · unfold fit; rw [e3, z]; simp
  · unfold fit; rw [e3]; exact decide_eq_false z
theorem gt_x {post : Int32 → Prop} {a b : Nat} (ha : a < 1000) (hb : b < 1000) (hp : post (nI (max a b))) : wpX_greater post (nI a) (nI b) := by
  refine pk_le a b (fun h => ?_) (fun h => ?_)
  · rw [Nat.max_eq_right h] at hp; exact hp
  · rw [Nat.max_eq_left (by omega)] at hp; exact hp
theorem mc_i {post : SX → Prop} {J : Int32 → (Nat → Int32) → (Nat → Int32) → (Nat → Int32) → (Nat → Int32) → (Nat → Int32) → (Nat → Int32) → (Nat → Int32) → (Nat → Int32) → (Nat → Int32) → (Nat → Int32) → (Nat → Int32) → (Nat → Int32) → (Nat → Int32) → (Nat → Int32) → Prop} {r m n e : Nat} (hr : r < 3) (hm : m ≤ 20) (hn : n ≤ 20) (he : e ≤ m) (hf : ∀ i, i < m → aF (22 * r + 1 + i) = bF (20 * r + i) ∧ ∃ l, l < 60 ∧ bF (20 * r + i) = nI l) (hJ : ∀ aM, dX (fit aX aC bF r) m n aM e (n + 1) → J (nI e) aF aL aC aT aR aX aS aG aH aN aW aM aP aQ) : ∀ f, f ≤ n + 1 → ∀ aM, dX (fit aX aC bF r) m n aM (e + 1) f → wX_measureCommon_30 post J (nI r) (nI m) (nI n) (nI (e + 1)) fp fc ft fr (f + 1) (nI f) aF aL aC aT aR aX aS aG aH aN aW aM aP aQ := by
  intro f
  induction f with
  | zero =>
    intro _ aM hd
    exact br_t (by decide) (nm_r (pk_m1 e) (hJ aM (dX_n hd)))
  | succ f ih =>
    intro hfn aM hd
    have e1 : nI (e + 1) * 22 + nI (f + 1) = nI (22 * (e + 1) + (f + 1)) := xa _ _
    have w0 : gT (fit aX aC bF r) m n e f = 0 → wX_measureCommon_58 post J (wX_measureCommon_30 post J (nI r) (nI m) (nI n) (nI (e + 1)) fp fc ft fr (f + 1)) (nI r) (nI m) (nI n) (nI (e + 1)) (nI (f + 1)) (nI (22 * (e + 1) + (f + 1))) fp fc ft fr aF aL aC aT aR aX aS aG aH aN aW aM aP aQ := fun z =>
      ⟨vp_in_nI (by omega) (by decide), nm_r (wr rfl (by omega) rfl) (nm_r (pk_m1 f) (ih (by omega) _ (dX_u hn (by omega) hd (by rw [z]; rfl))))⟩
    refine br_f (nI_nlt (b := 1) (by omega) (by omega)) (nm_r e1 ?_)
    by_cases h1 : m < e + 1
    · exact br_t (nI_lt h1 (by omega)) (w0 (gT_i _ (by omega)))
    · refine br_f (nI_nlt (by omega) (by omega)) ?_
      by_cases h2 : f + 1 ≤ n
      · obtain ⟨a1, l, hl, a2⟩ := hf e (by omega)
        refine br_t (nI_le h2 (by omega)) (xs_f hr (by omega) (by omega) hl a1 a2 (fun hy => ?_) (fun hy => ?_))
        · have e2 : nI (22 * (e + 1) + (f + 1)) + 22 + 1 = nI (22 * (e + 1 + 1) + (f + 1 + 1)) := by rw [ca_22, nI_1]; exact congrArg nI (by omega)
          refine br_f ca_10 ⟨pk_in _ 484 (by omega) e2, ⟨vp_in_nI (by omega) (by decide), nm_r (wr rfl (by omega) rfl) (nm_r (pk_m1 f) (ih (by omega) _ (dX_u hn (by omega) hd ?_)))⟩⟩
          rw [rd (a := aM) e2 (by omega) (hd (e + 1) (f + 1) (by omega) (by omega) (by omega)), nI_1, gT_t _ (by omega) (by omega) hy]
        · have e2 : nI (22 * (e + 1) + (f + 1)) + 22 = nI (22 * (e + 1 + 1) + (f + 1)) := by rw [ca_22]; exact congrArg nI (by omega)
          have e3 : nI (22 * (e + 1) + (f + 1)) + 1 = nI (22 * (e + 1) + (f + 1 + 1)) := nI_1 _
          refine br_t rfl ⟨pk_in _ 484 (by omega) e2, pk_in _ 484 (by omega) e3, ?_⟩
          rw [rd (a := aM) e2 (by omega) (hd (e + 1) f (by omega) (by omega) (by omega)), rd (a := aM) e3 (by omega) (hd e (f + 1) (by omega) (by omega) (by omega))]
          have b1 := gT_le (fit aX aC bF r) m n (e + 1) f
          have b2 := gT_le (fit aX aC bF r) m n e (f + 1)
          exact gt_x (by omega) (by omega) ⟨vp_in_nI (by omega) (by decide), nm_r (wr rfl (by omega) rfl) (nm_r (pk_m1 f) (ih (by omega) _ (dX_u hn (by omega) hd (by rw [gT_f _ (by omega) (by omega) hy]))))⟩
      · exact br_f (nI_ge (by omega) (by omega)) (w0 (gT_j _ (by omega)))
theorem mc_o {post : SX → Prop} {r m n : Nat} (hr : r < 3) (hm : m ≤ 20) (hn : n ≤ 20) (hf : ∀ i, i < m → aF (22 * r + 1 + i) = bF (20 * r + i) ∧ ∃ l, l < 60 ∧ bF (20 * r + i) = nI l) (hp : ∀ aM, dX (fit aX aC bF r) m n aM 0 (n + 1) → post (fp, fc, ft, fr, aF, aL, aC, aT, aR, aX, aS, aG, aH, aN, aW, aM, aP, aQ)) : ∀ e, e ≤ m + 1 → ∀ aM, dX (fit aX aC bF r) m n aM e (n + 1) → wX_measureCommon_19 post (nI r) (nI m) (nI n) fp fc ft fr (e + 1) (nI e) aF aL aC aT aR aX aS aG aH aN aW aM aP aQ := by
  intro e
  induction e with
  | zero => intro _ aM hd; exact br_t (by decide) (hp aM hd)
  | succ e ih =>
    intro he aM hd
    refine br_f (nI_nlt (b := 1) (by omega) (by omega)) (nm_r (nI_1 n) ⟨n + 1 + 1, mc_i hr hm hn (by omega) hf (fun aM' hd' => ih (by omega) aM' hd') (n + 1) (Nat.le_refl _) aM ?_⟩)
    exact hd
theorem mc_x {post : SX → Prop} {r m n : Nat} (hr : r < 3) (hm : m ≤ 20) (hn : n ≤ 20) (eL : aL r = nI m) (eT : aT r = nI n) (hf : ∀ i, i < m → aF (22 * r + 1 + i) = bF (20 * r + i) ∧ ∃ l, l < 60 ∧ bF (20 * r + i) = nI l) (hp : ∀ aM, dX (fit aX aC bF r) m n aM 0 (n + 1) → post (fp, fc, ft, fr, aF, aL, aC, aT, aR, aX, aS, aG, aH, aN, aW, aM, aP, aQ)) : wpX_measureCommon post (fp, fc, ft, fr, aF, aL, aC, aT, aR, aX, aS, aG, aH, aN, aW, aM, aP, aQ) (nI r) :=
  ⟨vp_in_nI hr (by decide), nm_r (rd rfl (by omega) eL) ⟨vp_in_nI hr (by decide), nm_r (rd rfl (by omega) eT) (nm_r (nI_1 m) ⟨_, mc_o hr hm hn hf hp (m + 1) (Nat.le_refl _) aM (fun i j hi hj hd => by omega)⟩)⟩⟩
/-! the first partner -/
theorem fp_l {post : Int32 → Prop} {r m n i fr0 : Nat} (hr : r < 3) (hm : m ≤ 20) (hn : n ≤ 20) (hi : i < m) (eT : aT r = nI n) (hf : ∀ i, i < m → aF (22 * r + 1 + i) = bF (20 * r + i) ∧ ∃ l, l < 60 ∧ bF (20 * r + i) = nI l) (hd : dX (fit aX aC bF r) m n aM 0 (n + 1)) : ∀ d j, j + d = n → (∀ k, gf (gP (fit aX aC bF r) m n i fr0) d j = some k → post (nI (k + 1))) → (gf (gP (fit aX aC bF r) m n i fr0) d j = none → post (-1)) → wX_firstPartner_28 post (nI r) (nI (i + 1)) (nI (gT (fit aX aC bF r) m n i fr0)) fp fc ft fr aF aL aC aT aR aX aS aG aH aN aW aM aP aQ (d + 1) (nI (j + 1)) := by
  intro d
  induction d with
  | zero =>
    intro j h hS hN
    exact ⟨vp_in_nI hr (by decide), br_t (by rw [rd (a := aT) rfl (by omega) eT]; exact nI_lt (by omega) (by omega)) (hN rfl)⟩
  | succ d ih =>
    intro j h hS hN
    have e2 : (nI (i + 1) + 1) * 22 + nI (j + 1) + 1 = nI (22 * (i + 1 + 1) + (j + 1 + 1)) := by rw [nI_1 (i + 1), xa, nI_1]; exact congrArg nI (by omega)
    have b1 := gT_le (fit aX aC bF r) m n (i + 1) (j + 1)
    have b2 := gT_le (fit aX aC bF r) m n i fr0
    refine ⟨vp_in_nI hr (by decide), br_f (by rw [rd (a := aT) rfl (by omega) eT]; exact nI_nlt (by omega) (by omega)) ⟨pk_in _ 484 (by omega) e2, ?_⟩⟩
    rw [rd (a := aM) e2 (by omega) (hd (i + 1) (j + 1) (by omega) (by omega) (by omega)), nI_1 (gT (fit aX aC bF r) m n (i + 1) (j + 1))]
    have nx : gP (fit aX aC bF r) m n i fr0 j = false → wX_firstPartner_28 post (nI r) (nI (i + 1)) (nI (gT (fit aX aC bF r) m n i fr0)) fp fc ft fr aF aL aC aT aR aX aS aG aH aN aW aM aP aQ (d + 1) (nI (j + 1 + 1)) := by
      intro z
      rw [gf_f z] at hS hN
      exact ih (j + 1) (by omega) hS hN
    obtain ⟨a1, l, hl, a2⟩ := hf i hi
    refine pk_eq (gT (fit aX aC bF r) m n (i + 1) (j + 1) + 1) (gT (fit aX aC bF r) m n i fr0) (fun hy => ?_) (fun hy => ?_)
    · refine br_f ca_10 (xs_f hr (by omega) (by omega) hl a1 a2 (fun hz => br_f ca_10 (hS j ?_)) (fun hz => br_t rfl (nm_r (nI_1 (j + 1)) (nx ?_))))
      · exact gf_t (by unfold gP; rw [hz, hy]; simp)
      · unfold gP; rw [hz]; rfl
    · refine br_t rfl (nm_r (nI_1 (j + 1)) (nx ?_))
      unfold gP
      rw [beq_eq_false_iff_ne.mpr hy, Bool.and_false]
theorem fp_x {post : Int32 → Prop} {r m n i np fr0 : Nat} (hr : r < 3) (hm : m ≤ 20) (hn : n ≤ 20) (hi : i < m) (hnp : np < 22) (hfr : fr0 ≤ n) (eT : aT r = nI n) (hf : ∀ i, i < m → aF (22 * r + 1 + i) = bF (20 * r + i) ∧ ∃ l, l < 60 ∧ bF (20 * r + i) = nI l) (hd : dX (fit aX aC bF r) m n aM 0 (n + 1)) (eQ : aQ np = nI fr0) (hS : ∀ k, gf (gP (fit aX aC bF r) m n i fr0) (n - fr0) fr0 = some k → post (nI (k + 1))) (hN : gf (gP (fit aX aC bF r) m n i fr0) (n - fr0) fr0 = none → post (-1)) : wpX_firstPartner post (fp, fc, ft, nI np, aF, aL, aC, aT, aR, aX, aS, aG, aH, aN, aW, aM, aP, aQ) (nI r) (nI (i + 1)) := by
  have e1 : nI (i + 1) * 22 + nI (fr0 + 1) = nI (22 * (i + 1) + (fr0 + 1)) := xa _ _
  exact ⟨vp_in_nI hnp (by decide), nm_r (e' := nI (fr0 + 1)) (by rw [rd (a := aQ) rfl (by omega) eQ, nI_1]) ⟨pk_in _ 484 (by omega) e1, nm_r (rd (a := aM) e1 (by omega) (hd i fr0 (by omega) (by omega) (by omega))) ⟨_, fp_l hr hm hn hi eT hf hd (n - fr0) fr0 (by omega) hS hN⟩⟩⟩
/-! the pairs -/
def pX (aP aQ : Nat → Int32) (s : Nat × (Nat → Nat) × (Nat → Nat)) : Prop := ∀ k, k ≤ s.1 → aP k = nI (s.2.1 k) ∧ aQ k = nI (s.2.2 k)
theorem mt_l {post : SX → Prop} {r m n : Nat} (hr : r < 3) (hm : m ≤ 20) (hn : n ≤ 20) (eL : aL r = nI m) (eT : aT r = nI n) (hf : ∀ i, i < m → aF (22 * r + 1 + i) = bF (20 * r + i) ∧ ∃ l, l < 60 ∧ bF (20 * r + i) = nI l) (hd : dX (fit aX aC bF r) m n aM 0 (n + 1)) (hp : ∀ aP aQ, pX aP aQ (gs (fit aX aC bF r) m n m) → aP ((gs (fit aX aC bF r) m n m).1 + 1) = nI (m + 1) → aQ ((gs (fit aX aC bF r) m n m).1 + 1) = nI (n + 1) → post (fp, fc, ft, nI (gs (fit aX aC bF r) m n m).1, aF, aL, aC, aT, aR, aX, aS, aG, aH, aN, aW, aM, aP, aQ)) : ∀ d i, i + d = m → ∀ aP aQ, pX aP aQ (gs (fit aX aC bF r) m n i) → wX_matchTexts_26 post (nI r) fp fc ft (d + 1) (nI (i + 1)) (nI (gs (fit aX aC bF r) m n i).1) aF aL aC aT aR aX aS aG aH aN aW aM aP aQ := by
  intro d
  induction d with
  | zero =>
    intro i h aP aQ hP
    obtain rfl : i = m := by omega
    have g := gI_i (q := fit aX aC bF r) (m := i) (n := n) i (Nat.le_refl _)
    have g1 := g.1
    have e1 : nI (gs (fit aX aC bF r) i n i).1 + 1 = nI ((gs (fit aX aC bF r) i n i).1 + 1) := nI_1 _
    refine ⟨vp_in_nI hr (by decide), br_t (by rw [rd (a := aL) rfl (by omega) eL]; exact nI_lt (by omega) (by omega)) ⟨vp_in_nI hr (by decide), ⟨pk_in _ 22 (by omega) e1, nm_r (wr e1 (by omega) (by rw [rd (a := aL) rfl (by omega) eL, nI_1])) ⟨vp_in_nI hr (by decide), ⟨pk_in _ 22 (by omega) e1, nm_r (wr e1 (by omega) (by rw [rd (a := aT) rfl (by omega) eT, nI_1])) (hp _ _ ?_ pk_us pk_us)⟩⟩⟩⟩⟩
    intro k hk
    rw [pk_un (by omega), pk_un (by omega)]
    exact hP k hk
  | succ d ih =>
    intro i h aP aQ hP
    have g := gI_i (q := fit aX aC bF r) (m := m) (n := n) i (by omega)
    have g1 := g.1
    have g2 := g.2.1
    refine ⟨vp_in_nI hr (by decide), br_f (by rw [rd (a := aL) rfl (by omega) eL]; exact nI_nlt (by omega) (by omega)) (fp_x hr hm hn (by omega) (by omega) g2 eT hf hd (hP _ (Nat.le_refl _)).2 (fun k hk => br_f (ca_ne1 ?_) (nm_r (nI_1 _) ⟨vp_in_nI (by omega) (by decide), nm_r (wr rfl (by omega) rfl) ⟨vp_in_nI (by omega) (by decide), nm_r (wr rfl (by omega) rfl) (nm_r (nI_1 (i + 1)) ?_)⟩⟩)) (fun hk => br_t rfl (nm_r (nI_1 (i + 1)) ?_)))⟩
    · have := gf_s hk; omega
    · have e0 : gs (fit aX aC bF r) m n (i + 1) = _ := gst_s hk
      have := ih (i + 1) (by omega) (upd aP ((gs (fit aX aC bF r) m n i).1 + 1) (nI (i + 1))) (upd aQ ((gs (fit aX aC bF r) m n i).1 + 1) (nI (k + 1)))
      rw [e0] at this
      refine this ?_
      intro x hx
      dsimp only at hx ⊢
      by_cases ex : x = (gs (fit aX aC bF r) m n i).1 + 1
      · rw [ex, pk_us, pk_us, nu_s, nu_s]; exact ⟨rfl, rfl⟩
      · rw [pk_un ex, pk_un ex, nu_n ex, nu_n ex]; exact hP x (by omega)
    · have e0 : gs (fit aX aC bF r) m n (i + 1) = _ := gst_n hk
      have := ih (i + 1) (by omega) aP aQ
      rw [e0] at this
      exact this hP
theorem mt_X {post : SX → Prop} {r m n : Nat} (hr : r < 3) (hm : m ≤ 20) (hn : n ≤ 20) (eL : aL r = nI m) (eT : aT r = nI n) (hf : ∀ i, i < m → aF (22 * r + 1 + i) = bF (20 * r + i) ∧ ∃ l, l < 60 ∧ bF (20 * r + i) = nI l) (hp : ∀ aM aP aQ, pX aP aQ (gs (fit aX aC bF r) m n m) → aP ((gs (fit aX aC bF r) m n m).1 + 1) = nI (m + 1) → aQ ((gs (fit aX aC bF r) m n m).1 + 1) = nI (n + 1) → post (fp, fc, ft, nI (gs (fit aX aC bF r) m n m).1, aF, aL, aC, aT, aR, aX, aS, aG, aH, aN, aW, aM, aP, aQ)) : wpX_matchTexts post (fp, fc, ft, fr, aF, aL, aC, aT, aR, aX, aS, aG, aH, aN, aW, aM, aP, aQ) (nI r) := by
  unfold wpX_matchTexts
  refine mc_x hr hm hn eL eT hf (fun aM hd => nm_r rfl (nm_r rfl ⟨m + 1, mt_l hr hm hn eL eT hf hd (fun aP aQ h1 h2 h3 => hp aM aP aQ h1 h2 h3) m 0 (by omega) _ _ ?_⟩))
  intro k hk
  obtain rfl : k = 0 := by
    have : (gs (fit aX aC bF r) m n 0).1 = 0 := rfl
    omega
  rw [pk_us, pk_us]
  exact ⟨rfl, rfl⟩
end
end
section
/-! the table of the reference -/
def dY (q : Nat → Nat → Bool) (m n : Nat) (bM : Nat → Int32) (e f : Nat) : Prop := ∀ i j, i ≤ m → j ≤ n → (e ≤ i ∨ (i + 1 = e ∧ f ≤ j)) → bM (22 * i + j) = nI (gT q m n i j)
theorem dY_u {q : Nat → Nat → Bool} {m n e f : Nat} {bM : Nat → Int32} {x : Int32} (hn : n ≤ 20) (hf : f ≤ n) (h : dY q m n bM (e + 1) (f + 1)) (hx : x = nI (gT q m n e f)) : dY q m n (upd bM (22 * e + f) x) (e + 1) f := by
  intro i j hi hj hd
  by_cases e1 : i = e ∧ j = f
  · rw [e1.1, e1.2, pk_us, hx]
  · rw [pk_un (by omega)]
    exact h i j hi hj (by omega)
theorem dY_n {q : Nat → Nat → Bool} {m n e : Nat} {bM : Nat → Int32} (h : dY q m n bM (e + 1) 0) : dY q m n bM e (n + 1) := by
  intro i j hi hj hd
  exact h i j hi hj (by omega)
theorem ca_m10 : nI 0 - 1 = (-1 : Int32) := by decide
theorem ca_pm (a : Nat) : nI a + (-1) = nI a - 1 := (Int32.sub_eq_add_neg _ _).symm
section
variable {fp fc fs : Int32} {aX aS bE bD bK bU bO bV aN aL bF aT aC aR bW bP bM : Nat → Int32}
theorem fi_f {post : Int32 → Prop} {r i j l : Nat} (hr : r < 3) (hi : i < 20) (hj : j < 20) (hl : l < 60) (e2 : bF (20 * r + i) = nI l) (h1 : fit aX aC bF r i j = true → post 1) (h0 : fit aX aC bF r i j = false → post 0) : wpY_fits post (fp, fc, fs, aX, aS, bE, bD, bK, bU, bO, bV, aN, aL, bF, aT, aC, aR, bW, bP, bM) (nI r) (nI i) (nI j) := by
  have e3 : aX (bF (20 * r + i)).toNatClampNeg = aX l := by rw [e2, nI_clamp (by omega)]
  refine fi_y hr hi hj hl e2 (fun z => h1 ?_) (fun z => h0 ?_)
  · unfold fit; rw [e3, z]; simp
  · unfold fit; rw [e3]; exact decide_eq_false z
theorem cp_8 {post : SY → Prop} {J K : Int32 → (Nat → Int32) → (Nat → Int32) → (Nat → Int32) → (Nat → Int32) → (Nat → Int32) → (Nat → Int32) → (Nat → Int32) → (Nat → Int32) → (Nat → Int32) → (Nat → Int32) → (Nat → Int32) → (Nat → Int32) → (Nat → Int32) → (Nat → Int32) → (Nat → Int32) → (Nat → Int32) → (Nat → Int32) → Prop} {x1 x2 x3 : Int32} {a b c : Nat} (ha : a < 1000) (hb : b < 1000) (hc : c < 1000) (hp : wY_countPairs_142 post J K x1 x2 x3 (nI (max (max a b) c)) fp fc fs aX aS bE bD bK bU bO bV aN aL bF aT aC aR bW bP bM) : wY_countPairs_108 post J K x1 x2 x3 (nI a) (nI b) (nI c) fp fc fs aX aS bE bD bK bU bO bV aN aL bF aT aC aR bW bP bM := by
  refine pk_le a b (fun h => ?_) (fun h => ?_)
  · refine pk_le c b (fun h2 => ?_) (fun h2 => ?_)
    · rw [show max (max a b) c = b by omega] at hp; exact hp
    · rw [show max (max a b) c = c by omega] at hp; exact hp
  · refine pk_le c a (fun h2 => ?_) (fun h2 => ?_)
    · rw [show max (max a b) c = a by omega] at hp; exact hp
    · rw [show max (max a b) c = c by omega] at hp; exact hp
theorem cp_i {post : SY → Prop} {J : Int32 → (Nat → Int32) → (Nat → Int32) → (Nat → Int32) → (Nat → Int32) → (Nat → Int32) → (Nat → Int32) → (Nat → Int32) → (Nat → Int32) → (Nat → Int32) → (Nat → Int32) → (Nat → Int32) → (Nat → Int32) → (Nat → Int32) → (Nat → Int32) → (Nat → Int32) → (Nat → Int32) → (Nat → Int32) → Prop} {r m n e : Nat} (hr : r < 3) (hm : m ≤ 20) (hn : n ≤ 20) (he : e ≤ m) (eL : aL r = nI m) (eT : aT r = nI n) (hf : ∀ i, i < m → ∃ l, l < 60 ∧ bF (20 * r + i) = nI l) (hJ : ∀ bM, dY (fit aX aC bF r) m n bM e (n + 1) → J (nI e - 1) aX aS bE bD bK bU bO bV aN aL bF aT aC aR bW bP bM) : ∀ f, f ≤ n + 1 → ∀ bM, dY (fit aX aC bF r) m n bM (e + 1) f → wY_countPairs_18 post J (nI r) (nI e) fp fc fs (f + 1) (nI f - 1) aX aS bE bD bK bU bO bV aN aL bF aT aC aR bW bP bM := by
  intro f
  induction f with
  | zero =>
    intro _ bM hd
    exact br_t (by decide) (nm_r (ca_pm e) (hJ bM (dY_n hd)))
  | succ f ih =>
    intro hfn bM hd
    rw [show nI (f + 1) - 1 = nI f from ca_z f]
    have e1 : 22 * nI e + nI f = nI (22 * e + f) := by rw [ca_l22, nI_add]
    have wz : ∀ x, x = nI (gT (fit aX aC bF r) m n e f) → wY_countPairs_142 post J (wY_countPairs_18 post J (nI r) (nI e) fp fc fs (f + 1)) (nI r) (nI e) (nI f) x fp fc fs aX aS bE bD bK bU bO bV aN aL bF aT aC aR bW bP bM := fun x z =>
      ⟨pk_in _ 484 (by omega) e1, nm_r (wr e1 (by omega) rfl) (nm_r (ca_pm f) (ih (by omega) _ (dY_u hn (by omega) hd z)))⟩
    refine br_f (nI_pos (by omega)) ⟨vp_in_nI hr (by decide), ?_⟩
    rw [rd (a := aL) rfl (by omega) eL]
    by_cases h1 : m ≤ e
    · exact br_t (nI_le h1 (by omega)) (wz 0 (by rw [gT_i _ (by omega)]; rfl))
    · refine br_f (nI_ge (by omega) (by omega)) ⟨vp_in_nI hr (by decide), ?_⟩
      rw [rd (a := aT) rfl (by omega) eT]
      by_cases h2 : n ≤ f
      · exact br_t (nI_le h2 (by omega)) (wz 0 (by rw [gT_j _ (by omega)]; rfl))
      · have e2 : 22 * nI e + 22 + nI f = nI (22 * (e + 1) + f) := by rw [ca_l22, ca_22, nI_add]; exact congrArg nI (by omega)
        have e3 : 22 * nI e + nI f + 1 = nI (22 * e + (f + 1)) := by rw [e1, nI_1]; rfl
        have e4 : 22 * nI e + 22 + nI f + 1 = nI (22 * (e + 1) + (f + 1)) := by rw [e2, nI_1]; rfl
        have b1 := gT_le (fit aX aC bF r) m n (e + 1) f
        have b2 := gT_le (fit aX aC bF r) m n e (f + 1)
        have b3 := gT_le (fit aX aC bF r) m n (e + 1) (f + 1)
        have b4 := gT_ge (fit aX aC bF r) m n e f
        obtain ⟨l, hl, a2⟩ := hf e (by omega)
        refine br_f (nI_ge (by omega) (by omega)) ⟨pk_in _ 484 (by omega) e2, nm_r (rd (a := bM) e2 (by omega) (hd (e + 1) f (by omega) (by omega) (by omega))) ⟨pk_in _ 484 (by omega) e3, nm_r (rd (a := bM) e3 (by omega) (hd e (f + 1) (by omega) (by omega) (by omega))) (fi_f hr (by omega) (by omega) hl a2 (fun hy => br_f ca_10 ⟨pk_in _ 484 (by omega) e4, ?_⟩) (fun hy => br_t rfl ?_))⟩⟩
        · rw [rd (a := bM) e4 (by omega) (hd (e + 1) (f + 1) (by omega) (by omega) (by omega)), nI_1 (gT (fit aX aC bF r) m n (e + 1) (f + 1))]
          have b5 := gT_t (fit aX aC bF r) (m := m) (n := n) (by omega) (by omega) hy
          exact cp_8 (by omega) (by omega) (by omega) (wz _ (congrArg nI (by omega)))
        · have b5 := gT_f (fit aX aC bF r) (m := m) (n := n) (by omega) (by omega) hy
          exact cp_8 (c := 0) (by omega) (by omega) (by omega) (wz _ (congrArg nI (by omega)))
theorem cp_o {post : SY → Prop} {r m n : Nat} (hr : r < 3) (hm : m ≤ 20) (hn : n ≤ 20) (eL : aL r = nI m) (eT : aT r = nI n) (hf : ∀ i, i < m → ∃ l, l < 60 ∧ bF (20 * r + i) = nI l) (hp : ∀ bM, dY (fit aX aC bF r) m n bM 0 (n + 1) → post (fp, fc, fs, aX, aS, bE, bD, bK, bU, bO, bV, aN, aL, bF, aT, aC, aR, bW, bP, bM)) : ∀ e, e ≤ m + 1 → ∀ bM, dY (fit aX aC bF r) m n bM e (n + 1) → wY_countPairs_7 post (nI r) fp fc fs (e + 1) (nI e - 1) aX aS bE bD bK bU bO bV aN aL bF aT aC aR bW bP bM := by
  intro e
  induction e with
  | zero => intro _ bM hd; exact br_t (by decide) (hp bM hd)
  | succ e ih =>
    intro he bM hd
    rw [show nI (e + 1) - 1 = nI e from ca_z e]
    refine br_f (nI_pos (by omega)) ⟨vp_in_nI hr (by decide), nm_r (e' := nI (n + 1) - 1) (by rw [rd (a := aT) rfl (by omega) eT, ca_z]) ⟨n + 1 + 1, cp_i hr hm hn (by omega) eL eT hf (fun bM' hd' => ih (by omega) bM' hd') (n + 1) (Nat.le_refl _) bM hd⟩⟩
theorem cp_y {post : SY → Prop} {r m n : Nat} (hr : r < 3) (hm : m ≤ 20) (hn : n ≤ 20) (eL : aL r = nI m) (eT : aT r = nI n) (hf : ∀ i, i < m → ∃ l, l < 60 ∧ bF (20 * r + i) = nI l) (hp : ∀ bM, dY (fit aX aC bF r) m n bM 0 (n + 1) → post (fp, fc, fs, aX, aS, bE, bD, bK, bU, bO, bV, aN, aL, bF, aT, aC, aR, bW, bP, bM)) : wpY_countPairs post (fp, fc, fs, aX, aS, bE, bD, bK, bU, bO, bV, aN, aL, bF, aT, aC, aR, bW, bP, bM) (nI r) :=
  ⟨vp_in_nI hr (by decide), nm_r (e' := nI (m + 1) - 1) (by rw [rd (a := aL) rfl (by omega) eL, ca_z]) ⟨_, cp_o hr hm hn eL eT hf hp (m + 1) (Nat.le_refl _) bM (fun i j hi hj hd => by omega)⟩⟩
/-! the pairs -/
def fo : Option Nat → Int32
  | none => -1
  | some j => nI j
def pY (bP : Nat → Int32) (s : Nat × (Nat → Nat) × (Nat → Nat)) : Prop := (∀ k, k < s.1 → bP (s.2.2 (k + 1) - 1) = nI (s.2.1 (k + 1) - 1)) ∧ (∀ j, j < 21 → (∀ k, k < s.1 → s.2.2 (k + 1) ≠ j + 1) → bP j = -1)
theorem ma_f {post : Int32 → SY → Prop} {J : Int32 → Int32 → Int32 → (Nat → Int32) → (Nat → Int32) → (Nat → Int32) → (Nat → Int32) → (Nat → Int32) → (Nat → Int32) → (Nat → Int32) → (Nat → Int32) → (Nat → Int32) → (Nat → Int32) → (Nat → Int32) → (Nat → Int32) → (Nat → Int32) → (Nat → Int32) → (Nat → Int32) → (Nat → Int32) → (Nat → Int32) → Prop} {r m n i np fr0 : Nat} (hr : r < 3) (hm : m ≤ 20) (hn : n ≤ 20) (hi : i < m) (hfr : fr0 ≤ n) (hf : ∀ i, i < m → ∃ l, l < 60 ∧ bF (20 * r + i) = nI l) (hd : dY (fit aX aC bF r) m n bM 0 (n + 1)) (hS : ∀ k, gf (gP (fit aX aC bF r) m n i fr0) (n - fr0) fr0 = some k → J (nI (np + 1)) (nI (k + 1)) (nI (i + 1)) aX aS bE bD bK bU bO bV aN aL bF aT aC aR bW (upd bP k (nI i)) bM) (hN : gf (gP (fit aX aC bF r) m n i fr0) (n - fr0) fr0 = none → J (nI np) (nI fr0) (nI (i + 1)) aX aS bE bD bK bU bO bV aN aL bF aT aC aR bW bP bM) : ∀ d, fr0 + d ≤ n → wY_match_67 post J (nI r) (nI np) (nI fr0) (nI i) (nI (gT (fit aX aC bF r) m n i fr0)) fp fc fs aX aS bE bD bK bU bO bV aN aL bF aT aC aR bW bP bM (d + 1) (fo (gf (gP (fit aX aC bF r) m n i fr0) (n - (fr0 + d)) (fr0 + d))) (nI (fr0 + d) - 1) := by
  intro d
  induction d with
  | zero =>
    intro h
    refine br_t (ca_pl (by omega)) ?_
    rw [Nat.add_zero]
    cases hg : gf (gP (fit aX aC bF r) m n i fr0) (n - fr0) fr0 with
    | none => exact br_t ca_n1 (nm_r (nI_1 i) (hN hg))
    | some k =>
      have := gf_s hg
      exact br_f (nI_pos (by omega)) ⟨vp_in_nI (by omega) (by decide), nm_r (wr rfl (by omega) rfl) (nm_r (nI_1 k) (nm_r (nI_1 np) (nm_r (nI_1 i) (hS k hg))))⟩
  | succ d ih =>
    intro h
    rw [show nI (fr0 + (d + 1)) - 1 = nI (fr0 + d) from ca_z _]
    have g1 : ∀ z, gP (fit aX aC bF r) m n i fr0 (fr0 + d) = z → gf (gP (fit aX aC bF r) m n i fr0) (n - (fr0 + d)) (fr0 + d) = if z = true then some (fr0 + d) else gf (gP (fit aX aC bF r) m n i fr0) (n - (fr0 + (d + 1))) (fr0 + (d + 1)) := by
      intro z hz
      rw [show n - (fr0 + d) = n - (fr0 + (d + 1)) + 1 by omega]
      cases z with
      | true => rw [gf_t hz, if_pos rfl]
      | false => rw [gf_f hz, if_neg (by decide)]; rfl
    have ih' := ih (by omega)
    have b1 := gT_le (fit aX aC bF r) m n (i + 1) (fr0 + d + 1)
    have b2 := gT_le (fit aX aC bF r) m n i fr0
    have ff : gP (fit aX aC bF r) m n i fr0 (fr0 + d) = false → wY_match_67 post J (nI r) (nI np) (nI fr0) (nI i) (nI (gT (fit aX aC bF r) m n i fr0)) fp fc fs aX aS bE bD bK bU bO bV aN aL bF aT aC aR bW bP bM (d + 1) (fo (gf (gP (fit aX aC bF r) m n i fr0) (n - (fr0 + (d + 1))) (fr0 + (d + 1)))) (nI (fr0 + d) - 1) := by
      intro z
      rw [g1 _ z, if_neg (by decide)] at ih'
      exact ih'
    refine br_f (nI_nlt (by omega) (by omega)) ?_
    refine pk_le (gT (fit aX aC bF r) m n i fr0) 0 (fun hz => nm_r (ca_pm _) (ff ?_)) (fun hz => ?_)
    · unfold gP
      rw [beq_eq_false_iff_ne.mpr (by omega), Bool.and_false]
    · obtain ⟨l, hl, a2⟩ := hf i hi
      have e4 : 22 * nI i + 22 + nI (fr0 + d) + 1 = nI (22 * (i + 1) + (fr0 + d + 1)) := by rw [ca_l22, ca_22, nI_add, nI_1]; exact congrArg nI (by omega)
      refine fi_f hr (by omega) (by omega) hl a2 (fun hy => br_f ca_10 ⟨pk_in _ 484 (by omega) e4, ?_⟩) (fun hy => br_t rfl (nm_r (ca_pm _) (ff (by unfold gP; rw [hy]; rfl))))
      rw [rd (a := bM) e4 (by omega) (hd (i + 1) (fr0 + d + 1) (by omega) (by omega) (by omega)), nI_1 (gT (fit aX aC bF r) m n (i + 1) (fr0 + d + 1))]
      refine pk_eq (gT (fit aX aC bF r) m n (i + 1) (fr0 + d + 1) + 1) (gT (fit aX aC bF r) m n i fr0) (fun he => nm_r (ca_pm _) ?_) (fun he => nm_r (ca_pm _) (ff ?_))
      · have z : gP (fit aX aC bF r) m n i fr0 (fr0 + d) = true := by unfold gP; rw [hy, he]; simp
        rw [g1 _ z, if_pos rfl] at ih'
        exact ih'
      · unfold gP
        rw [beq_eq_false_iff_ne.mpr he, Bool.and_false]
theorem ma_l {post : Int32 → SY → Prop} {r m n : Nat} (hr : r < 3) (hm : m ≤ 20) (hn : n ≤ 20) (eL : aL r = nI m) (eT : aT r = nI n) (hf : ∀ i, i < m → ∃ l, l < 60 ∧ bF (20 * r + i) = nI l) (hd : dY (fit aX aC bF r) m n bM 0 (n + 1)) (hp : ∀ bP, pY bP (gs (fit aX aC bF r) m n m) → post (nI (gs (fit aX aC bF r) m n m).1) (fp, fc, fs, aX, aS, bE, bD, bK, bU, bO, bV, aN, aL, bF, aT, aC, aR, bW, bP, bM)) : ∀ d i, i + d = m → ∀ bP, pY bP (gs (fit aX aC bF r) m n i) → wY_match_33 post (nI r) fp fc fs (d + 1) (nI (gs (fit aX aC bF r) m n i).1) (nI ((gs (fit aX aC bF r) m n i).2.2 (gs (fit aX aC bF r) m n i).1)) (nI i) aX aS bE bD bK bU bO bV aN aL bF aT aC aR bW bP bM := by
  intro d
  induction d with
  | zero =>
    intro i h bP hP
    obtain rfl : i = m := by omega
    exact ⟨vp_in_nI hr (by decide), br_t (by rw [rd (a := aL) rfl (by omega) eL]; exact nI_le (by omega) (by omega)) (hp bP hP)⟩
  | succ d ih =>
    intro i h bP hP
    have g := gI_i (q := fit aX aC bF r) (m := m) (n := n) i (by omega)
    obtain ⟨g1, g2, g3, g4, g5, g6, g7, g8⟩ := g
    have e0 : bM 0 = nI (gT (fit aX aC bF r) m n 0 0) := hd 0 0 (by omega) (by omega) (by omega)
    refine ⟨vp_in_nI hr (by decide), br_f (by rw [rd (a := aL) rfl (by omega) eL]; exact nI_ge (by omega) (by omega)) (nm_r (e' := nI (gT (fit aX aC bF r) m n i ((gs (fit aX aC bF r) m n i).2.2 (gs (fit aX aC bF r) m n i).1))) (by rw [e0, pk_sub (by omega)]; exact congrArg nI (by omega)) ⟨vp_in_nI hr (by decide), nm_r (e' := nI n - 1) (by rw [rd (a := aT) rfl (by omega) eT]) ?_⟩)⟩
    have t := ma_f (fp := fp) (fc := fc) (fs := fs) (aX := aX) (aS := aS) (bE := bE) (bD := bD) (bK := bK) (bU := bU) (bO := bO) (bV := bV) (aN := aN) (aL := aL) (bF := bF) (aT := aT) (aC := aC) (aR := aR) (bW := bW) (bP := bP) (bM := bM) (m := m) (n := n) (i := i) (post := post) (J := wY_match_33 post (nI r) fp fc fs (d + 1)) (np := (gs (fit aX aC bF r) m n i).1) hr hm hn (by omega) g2 hf hd ?_ ?_ (n - (gs (fit aX aC bF r) m n i).2.2 (gs (fit aX aC bF r) m n i).1) (by omega)
    · rw [show (gs (fit aX aC bF r) m n i).2.2 (gs (fit aX aC bF r) m n i).1 + (n - (gs (fit aX aC bF r) m n i).2.2 (gs (fit aX aC bF r) m n i).1) = n by omega, Nat.sub_self] at t
      exact ⟨_, t⟩
    · intro k hk
      have e1 : gs (fit aX aC bF r) m n (i + 1) = _ := gst_s hk
      have := ih (i + 1) (by omega) (upd bP k (nI i))
      rw [e1] at this
      dsimp only at this
      rw [nu_s] at this
      refine this ⟨?_, ?_⟩
      · intro x hx
        dsimp only at hx ⊢
        by_cases ex : x = (gs (fit aX aC bF r) m n i).1
        · rw [ex, nu_s, nu_s]
          show upd bP k (nI i) k = _
          rw [pk_us]; rfl
        · have a1 := gf_s hk
          rw [nu_n (by omega), nu_n (by omega), pk_un]
          · exact hP.1 x (by omega)
          · have a2 : ∀ y, y ≤ (gs (fit aX aC bF r) m n i).1 → (gs (fit aX aC bF r) m n i).2.2 y ≤ (gs (fit aX aC bF r) m n i).2.2 (gs (fit aX aC bF r) m n i).1 := by
              intro y hy
              obtain ⟨z, hz⟩ : ∃ z, y + z = (gs (fit aX aC bF r) m n i).1 := ⟨_, Nat.add_sub_of_le hy⟩
              clear this ex hx
              induction z generalizing y with
              | zero => rw [← hz]; exact Nat.le_refl _
              | succ z ihz =>
                have b1 := ihz (y + 1) (by omega) (by omega)
                have b2 := (g8 y (by omega)).2
                omega
            have a3 := a2 (x + 1) (by omega)
            have a4 := (g8 x (by omega)).2
            omega
      · intro j hj hne
        dsimp only at hne
        have a5 := hne (gs (fit aX aC bF r) m n i).1 (by omega)
        rw [nu_s] at a5
        rw [pk_un (by omega)]
        refine hP.2 j hj (fun x hx => ?_)
        have a6 := hne x (by omega)
        rw [nu_n (by omega)] at a6
        exact a6
    · intro hk
      have e1 : gs (fit aX aC bF r) m n (i + 1) = _ := gst_n hk
      have := ih (i + 1) (by omega) bP
      rw [e1] at this
      exact this hP
theorem ma_7 {post : Int32 → SY → Prop} {r : Nat} (hp : ∀ bP, (∀ j, j < 21 → bP j = -1) → ∃ n, wY_match_33 post (nI r) fp fc fs n 0 0 0 aX aS bE bD bK bU bO bV aN aL bF aT aC aR bW bP bM) : ∀ d i, i + d = 21 → ∀ bP, (∀ j, j < i → bP j = -1) → wY_match_7 post (nI r) fp fc fs (d + 1) (nI i) aX aS bE bD bK bU bO bV aN aL bF aT aC aR bW bP bM := by
  intro d
  induction d with
  | zero =>
    intro i h bP hP
    obtain rfl : i = 21 := by omega
    exact br_t (by decide) (hp bP hP)
  | succ d ih =>
    intro i h bP hP
    refine br_f (nI_ge (b := 21) (by omega) (by decide)) ⟨vp_in_nI (by omega) (by decide), nm_r (wr rfl (by omega) rfl) (nm_r (nI_1 i) (ih (i + 1) (by omega) _ (fun j hj => ?_)))⟩
    by_cases e : j = i
    · rw [e, pk_us]
    · rw [pk_un e]; exact hP j (by omega)
theorem mt_Y {post : Int32 → SY → Prop} {r m n : Nat} (hr : r < 3) (hm : m ≤ 20) (hn : n ≤ 20) (eL : aL r = nI m) (eT : aT r = nI n) (hf : ∀ i, i < m → ∃ l, l < 60 ∧ bF (20 * r + i) = nI l) (hp : ∀ bM bP, pY bP (gs (fit aX aC bF r) m n m) → post (nI (gs (fit aX aC bF r) m n m).1) (fp, fc, fs, aX, aS, bE, bD, bK, bU, bO, bV, aN, aL, bF, aT, aC, aR, bW, bP, bM)) : wpY_match post (fp, fc, fs, aX, aS, bE, bD, bK, bU, bO, bV, aN, aL, bF, aT, aC, aR, bW, bP, bM) (nI r) := by
  unfold wpY_match
  refine cp_y hr hm hn eL eT hf (fun bM hd => ⟨22, ma_7 (fun bP h1 => ⟨_, ma_l hr hm hn eL eT hf hd (fun bP hP => hp bM bP hP) m 0 (by omega) bP ⟨?_, ?_⟩⟩) 21 0 (by omega) bP (fun j h => absurd h (Nat.not_lt_zero j))⟩)
  · intro k hk; exact absurd hk (Nat.not_lt_zero k)
  · intro j hj _; exact h1 j hj
end
theorem i_vc_unrecorded {k : Nat} {u : SX} {v : SY} (I : i_Rel k u v) (hk : k + 4 ≤ 2048) (v1 : Int32) : wpX_unrecorded (fun r u' => wpY_unrecorded (fun r' v' => r' = r ∧ i_Rel (k + 4) u' v') v v1) u v1 := by
  have J := i_up I
  obtain ⟨p, c, ft, fr, fs, aF, aL, aC, aT, aR, aX, aS, aG, aH, aN, aW, aM, aP, aQ, bE, bD, bK, bU, bO, bV, bF, bW, bP, bM, rfl, rfl, hR⟩ := I
  unfold wpX_unrecorded wpY_unrecorded
  rcases rm_c v1 with ⟨r, hr, rfl⟩ | hb
  · have hR0 := hR
    obtain ⟨hp, hc, hF, hT, hR'⟩ := hR
    obtain ⟨m, hm, eL, e60, e61, hf⟩ := hF r hr
    obtain ⟨n, hn, eT⟩ := hT r hr
    have hf' : ∀ i, i < m → aF (22 * r + 1 + i) = bF (20 * r + i) ∧ ∃ l, l < 60 ∧ bF (20 * r + i) = nI l := fun i hi => by
      obtain ⟨a, l, hl, b⟩ := hf i hi
      exact ⟨a, l, by omega, b⟩
    refine rx_1 hr (br_f ca_10 (mt_X hr hm hn eL eT hf' (fun aM aP aQ _ _ _ => ⟨vp_in_nI hr (by decide), vp_in_nI hr (by decide), ?_⟩)))
    refine ry_1 hr (br_f ca_10 (mt_Y hr hm hn eL eT (fun i hi => (hf' i hi).2) (fun bM bP _ => ⟨vp_in_nI hr (by decide), vp_in_nI hr (by decide), rfl, rl_mk hR0⟩)))
  · refine rx_0 hb (br_t rfl ?_)
    exact ry_0 hb (br_t rfl ⟨rfl, J⟩)
end
section
/-! pairs with both ends: strictly rising -/
def pp (np m n : Nat) (PL PT : Nat → Nat) : Prop := PL 0 = 0 ∧ PT 0 = 0 ∧ PL (np + 1) = m + 1 ∧ PT (np + 1) = n + 1 ∧ ∀ k, k ≤ np → PL k < PL (k + 1) ∧ PT k < PT (k + 1)
theorem pp_m {np m n : Nat} {PL PT : Nat → Nat} (h : pp np m n PL PT) : ∀ d i, i + d ≤ np + 1 → PL i + d ≤ PL (i + d) ∧ PT i + d ≤ PT (i + d) := by
  intro d
  induction d with
  | zero => intro i _; exact ⟨Nat.le_refl _, Nat.le_refl _⟩
  | succ d ih =>
    intro i hi
    have a := ih i (by omega)
    have b := h.2.2.2.2 (i + d) (by omega)
    rw [show i + (d + 1) = i + d + 1 from rfl]
    omega
theorem pp_b {np m n k : Nat} {PL PT : Nat → Nat} (h : pp np m n PL PT) (hk : k ≤ np + 1) : PL k ≤ m + 1 ∧ PT k ≤ n + 1 ∧ k ≤ PL k ∧ k ≤ PT k ∧ PL k + (np + 1 - k) ≤ m + 1 ∧ PT k + (np + 1 - k) ≤ n + 1 := by
  have a := pp_m h (np + 1 - k) k (by omega)
  have b := pp_m h k 0 (by omega)
  rw [show k + (np + 1 - k) = np + 1 by omega, h.2.2.1, h.2.2.2.1] at a
  rw [Nat.zero_add, h.1, h.2.1] at b
  omega
theorem pp_lt {np m n i j : Nat} {PL PT : Nat → Nat} (h : pp np m n PL PT) (hij : i < j) (hj : j ≤ np + 1) : PL i < PL j ∧ PT i < PT j := by
  have a := pp_m h (j - i) i (by omega)
  rw [show i + (j - i) = j by omega] at a
  omega
def gc (PL PT : Nat → Nat) : Nat → Nat
  | 0 => 0
  | k + 1 => if 1 < PL (k + 1) - PL k ∨ 1 < PT (k + 1) - PT k then gc PL PT k + 1 else gc PL PT k
theorem gc_le (PL PT : Nat → Nat) (k : Nat) : gc PL PT k ≤ k := by
  induction k with
  | zero => exact Nat.le_refl _
  | succ k ih => rw [gc]; split <;> omega
theorem gc_m (PL PT : Nat → Nat) : ∀ d k, gc PL PT k ≤ gc PL PT (k + d) := by
  intro d
  induction d with
  | zero => intro k; exact Nat.le_refl _
  | succ d ih =>
    intro k
    refine Nat.le_trans (ih k) ?_
    rw [show k + (d + 1) = k + d + 1 from rfl, gc]; split <;> omega
theorem pp_gs {q : Nat → Nat → Bool} {m n : Nat} {s : Nat × (Nat → Nat) × (Nat → Nat)} (h : gI q m n m s) : pp s.1 m n (fun k => if k ≤ s.1 then s.2.1 k else m + 1) (fun k => if k ≤ s.1 then s.2.2 k else n + 1) := by
  obtain ⟨h1, h2, h3, h4, h5, h6, h7, h8⟩ := h
  refine ⟨?_, ?_, ?_, ?_, ?_⟩ <;> dsimp only
  · rw [if_pos (by omega), h5]
  · rw [if_pos (by omega), h6]
  · rw [if_neg (by omega)]
  · rw [if_neg (by omega)]
  · intro k hk
    rw [if_pos hk, if_pos hk]
    by_cases e : k < s.1
    · rw [if_pos (by omega), if_pos (by omega)]; exact h8 k e
    · obtain rfl : k = s.1 := by omega
      rw [if_neg (by omega), if_neg (by omega)]; omega
/-! who joined two -/
def jo (G H : Nat → Int32) (hd u v : Int32) (e : Nat) : Prop := bt hd e = true ∧ ∃ k, k + 1 < (H (2 * e + 1)).toNatClampNeg ∧ G (22 * (2 * e + 1) + k) = u ∧ G (22 * (2 * e + 1) + (k + 1)) = v
noncomputable def jn (G H : Nat → Int32) (hd u v : Int32) : Nat → Nat
  | 0 => 0
  | e + 1 => @ite Nat (jo G H hd u v e) (Classical.propDecidable _) (e + 1) (jn G H hd u v e)
theorem jn_t {G H : Nat → Int32} {hd u v : Int32} {e : Nat} (h : jo G H hd u v e) : jn G H hd u v (e + 1) = e + 1 := by rw [jn]; exact if_pos h
theorem jn_f {G H : Nat → Int32} {hd u v : Int32} {e : Nat} (h : ¬ jo G H hd u v e) : jn G H hd u v (e + 1) = jn G H hd u v e := by rw [jn]; exact if_neg h
theorem jn_s {G H : Nat → Int32} {hd u v : Int32} : ∀ {N e : Nat}, jn G H hd u v N = e + 1 → e < N ∧ jo G H hd u v e := by
  intro N
  induction N with
  | zero => intro e h; exact absurd h (by rw [jn]; omega)
  | succ N ih =>
    intro e h
    by_cases hj : jo G H hd u v N
    · rw [jn_t hj] at h
      obtain rfl : N = e := by omega
      exact ⟨by omega, hj⟩
    · rw [jn_f hj] at h
      have := ih h
      exact ⟨by omega, this.2⟩
theorem jn_c {G H G0 H0 : Nat → Int32} {hd u v : Int32} {c0 : Nat} (hG : ∀ x, x < 44 * c0 → G x = G0 x) (hH : ∀ q, q < 2 * c0 → H q = H0 q) (hl : ∀ q, q < 2 * c0 → (H0 q).toNatClampNeg ≤ 22) : ∀ N, N ≤ c0 → jn G H hd u v N = jn G0 H0 hd u v N := by
  intro N
  induction N with
  | zero => intro _; rw [jn, jn]
  | succ N ih =>
    intro hN
    have e : jo G H hd u v N ↔ jo G0 H0 hd u v N := by
      unfold jo
      rw [hH _ (by omega)]
      have hb := hl (2 * N + 1) (by omega)
      constructor
      · rintro ⟨h1, k, h2, h3, h4⟩
        exact ⟨h1, k, h2, by rw [← hG _ (by omega)]; exact h3, by rw [← hG _ (by omega)]; exact h4⟩
      · rintro ⟨h1, k, h2, h3, h4⟩
        exact ⟨h1, k, h2, by rw [hG _ (by omega)]; exact h3, by rw [hG _ (by omega)]; exact h4⟩
    by_cases hj : jo G H hd u v N
    · rw [jn_t hj, jn_t (e.mp hj)]
    · rw [jn_f hj, jn_f (fun z => hj (e.mpr z)), ih (by omega)]
theorem jn_h {G H : Nat → Int32} {hd u v : Int32} {c0 : Nat} (hb : ∀ d, c0 ≤ d → d < 32 → bt hd d = false) : ∀ d, c0 + d ≤ 32 → jn G H hd u v (c0 + d) = jn G H hd u v c0 := by
  intro d
  induction d with
  | zero => intro _; rfl
  | succ d ih =>
    intro h
    rw [show c0 + (d + 1) = c0 + d + 1 from rfl, jn_f, ih (by omega)]
    intro z
    have := z.1
    rw [hb (c0 + d) (by omega) (by omega)] at this
    cases this
def jr : Nat → Int32
  | 0 => -1
  | e + 1 => nI e
def ns (N0 : Nat → Int32) (x : Int32) : Nat → Int32
  | 0 => x
  | e + 1 => x ||| (N0 e ||| ((1 : Int32) <<< (nI e &&& 31)))
def nval (J : Int32 → Int32 → Nat) (N0 B : Nat → Int32) : Nat → Int32
  | 0 => 0
  | k + 1 => ns N0 (nval J N0 B k) (J (B k) (B (k + 1)))
theorem nval_c {J : Int32 → Int32 → Nat} {N0 B B' : Nat → Int32} : ∀ n, (∀ k, k ≤ n → B k = B' k) → nval J N0 B n = nval J N0 B' n := by
  intro n
  induction n with
  | zero => intro _; rfl
  | succ n ih =>
    intro h
    rw [nval, nval, ih (fun k hk => h k (by omega)), h n (by omega), h (n + 1) (by omega)]
theorem nval_b {J : Int32 → Int32 → Nat} {N0 B : Nat → Int32} {c0 : Nat} (hc : c0 ≤ 32) (hJ : ∀ u v e, J u v = e + 1 → e < c0) (hN : ∀ e, e < c0 → ∀ d, c0 ≤ d → d < 32 → bt (N0 e) d = false) : ∀ n d, c0 ≤ d → d < 32 → bt (nval J N0 B n) d = false := by
  intro n
  induction n with
  | zero => intro d _ _; exact b_0 d
  | succ n ih =>
    intro d h1 h2
    rw [nval]
    cases hj : J (B n) (B (n + 1)) with
    | zero => exact ih d h1 h2
    | succ e =>
      have he := hJ _ _ _ hj
      rw [ns, b_or, b_or, ih d h1 h2, hN e he d h1 h2, bq_sh h2 (by omega), decide_eq_false (by omega)]; rfl
def orb (x : Int32) (c0 : Nat) : Nat → Int32
  | 0 => x
  | e + 1 => orb x c0 e ||| ((1 : Int32) <<< (nI (c0 + e) &&& 31))
theorem orb_b {x : Int32} {c0 : Nat} (hx : ∀ d, c0 ≤ d → d < 32 → bt x d = false) : ∀ e, c0 + e ≤ 32 → ∀ d, c0 + e ≤ d → d < 32 → bt (orb x c0 e) d = false := by
  intro e
  induction e with
  | zero => intro _ d h1 h2; exact hx d h1 h2
  | succ e ih =>
    intro h d h1 h2
    rw [orb, b_or, ih (by omega) d (by omega) h2, bq_sh h2 (by omega), decide_eq_false (by omega)]; rfl
end
section
/-! the gaps, by the component -/
def pXX (aP aQ : Nat → Int32) (np : Nat) (PL PT : Nat → Nat) : Prop := ∀ k, k ≤ np + 1 → aP k = nI (PL k) ∧ aQ k = nI (PT k)
section
variable {fp fc ft fr : Int32} {aF aL aC aT aR aX aS aG aH aN aW aM aP aQ : Nat → Int32}
theorem ig_x {post : Int32 → Prop} {np m n k : Nat} {PL PT : Nat → Nat} (hm : m ≤ 20) (hn : n ≤ 20) (hpp : pp np m n PL PT) (hP : pXX aP aQ np PL PT) (hk : k ≤ np) (h1 : (1 < PL (k + 1) - PL k ∨ 1 < PT (k + 1) - PT k) → post 1) (h0 : ¬ (1 < PL (k + 1) - PL k ∨ 1 < PT (k + 1) - PT k) → post 0) : wpX_isGap post (fp, fc, ft, fr, aF, aL, aC, aT, aR, aX, aS, aG, aH, aN, aW, aM, aP, aQ) (nI k) := by
  have b0 := pp_b hpp (show k ≤ np + 1 by omega)
  have b1 := pp_b hpp (show k + 1 ≤ np + 1 by omega)
  have b2 := hpp.2.2.2.2 k hk
  obtain ⟨p1, p2⟩ := hP k (by omega)
  obtain ⟨p3, p4⟩ := hP (k + 1) (by omega)
  refine ⟨pk_in (k + 1) 22 (by omega) (nI_1 k), vp_in_nI (by omega) (by decide), ?_⟩
  rw [rd (a := aP) (nI_1 k) (by omega) p3, rd (a := aP) rfl (by omega) p1, rd (a := aQ) (nI_1 k) (by omega) p4, rd (a := aQ) rfl (by omega) p2, pk_sub (by omega), pk_sub (by omega)]
  refine pk_lt 1 (PL (k + 1) - PL k) (fun h => h1 (Or.inl h)) (fun h => ⟨pk_in (k + 1) 22 (by omega) (nI_1 k), vp_in_nI (by omega) (by decide), pk_le (PT (k + 1) - PT k) 1 (fun h2 => h0 (by omega)) (fun h2 => h1 (Or.inr h2))⟩)
theorem cg_x {post : Int32 → Prop} {np m n : Nat} {PL PT : Nat → Nat} (hm : m ≤ 20) (hn : n ≤ 20) (hpp : pp np m n PL PT) (hP : pXX aP aQ np PL PT) (hp : post (nI (gc PL PT (np + 1)))) : ∀ d k, k + d = np + 1 → wX_countGaps_4 post fp fc ft (nI np) aF aL aC aT aR aX aS aG aH aN aW aM aP aQ (d + 1) (nI (gc PL PT k)) (nI k) := by
  have b0 := pp_b hpp (Nat.le_refl (np + 1))
  intro d
  induction d with
  | zero =>
    intro k h
    obtain rfl : k = np + 1 := by omega
    exact br_t (nI_lt (by omega) (by omega)) hp
  | succ d ih =>
    intro k h
    refine br_f (nI_nlt (by omega) (by omega)) (ig_x hm hn hpp hP (by omega) (fun hg => br_f ca_10 (nm_r (nI_1 _) (nm_r (nI_1 k) ?_))) (fun hg => br_t rfl (nm_r (nI_1 k) ?_)))
    · have t := ih (k + 1) (by omega)
      rw [gc, if_pos hg] at t
      exact t
    · have t := ih (k + 1) (by omega)
      rw [gc, if_neg hg] at t
      exact t
theorem ad_x {post : SX → Prop} {q e : Nat} {x : Int32} (hq : q < 32) (he : e < 22) (eH : aH q = nI e) (hp : post (fp, fc, ft, fr, aF, aL, aC, aT, aR, aX, aS, upd aG (22 * q + e) x, upd aH q (nI (e + 1)), aN, aW, aM, aP, aQ)) : wpX_addToRun post (fp, fc, ft, fr, aF, aL, aC, aT, aR, aX, aS, aG, aH, aN, aW, aM, aP, aQ) (nI q) x := by
  have eH' : aH (nI q).toNatClampNeg = nI e := rd rfl (by omega) eH
  have e1 : nI q * 22 + aH (nI q).toNatClampNeg = nI (22 * q + e) := by rw [eH', xa]
  exact ⟨vp_in_nI hq (by decide), ⟨pk_in (22 * q + e) 704 (by omega) e1, nm_r (wr e1 (by omega) rfl) ⟨vp_in_nI hq (by decide), ⟨vp_in_nI hq (by decide), nm_r (wr rfl (by omega) (by rw [eH', nI_1])) hp⟩⟩⟩⟩
/-- the run after -/
theorem rg_3 {post : SX → Prop} {r k c a b q : Nat} (hr : r < 3) (hk : k < 21) (hq : q < 32) (hab : a ≤ b) (hb : b < 22) (eQ : aQ (k + 1) = nI b) (hp : post (fp, fc + 1, ft, fr, aF, aL, aC, aT, upd aR r (aR r ||| ((1 : Int32) <<< (nI c &&& 31))), aX, aS, bk aG (22 * q) (22 * q + (b - a + 1)) (fun x => aW (a + (x - 22 * q))), upd aH q (nI (b - a + 1)), aN, aW, aM, aP, aQ)) : ∀ d e, e + d = b - a + 1 → wX_recordGap_153 post (nI r) (nI k) (nI c) (nI q) (d + 1) (nI (a + e)) fp fc ft fr aF aL aC aT aR aX aS (bk aG (22 * q) (22 * q + e) (fun x => aW (a + (x - 22 * q)))) (upd aH q (nI e)) aN aW aM aP aQ := by
  intro d
  induction d with
  | zero =>
    intro e h
    obtain rfl : e = b - a + 1 := by omega
    exact ⟨pk_in (k + 1) 22 (by omega) (nI_1 k), br_t (by rw [rd (a := aQ) (nI_1 k) (by omega) eQ]; exact nI_lt (by omega) (by omega)) ⟨vp_in_nI hr (by decide), ⟨vp_in_nI hr (by decide), nm_r (wr rfl (by omega) (by rw [nI_clamp (by omega)])) (nm_r rfl hp)⟩⟩⟩
  | succ d ih =>
    intro e h
    refine ⟨pk_in (k + 1) 22 (by omega) (nI_1 k), br_f (by rw [rd (a := aQ) (nI_1 k) (by omega) eQ]; exact nI_nlt (by omega) (by omega)) ⟨vp_in_nI (by omega) (by decide), ad_x (e := e) hq (by omega) pk_us (nm_r (nI_1 _) ?_)⟩⟩
    rw [ud_ud, bk_up (f := aG) (by omega) (by rw [nI_clamp (by omega)]; exact congrArg aW (by omega))]
    exact ih (e + 1) (by omega)
/-- the run before -/
theorem rg_2 {post : SX → Prop} {r k c a u v q q' : Nat} (hr : r < 3) (hk : k < 21) (hq : q < 32) (huv : u ≤ v) (hv : v < 22) (eP : aP (k + 1) = nI v) (eQ : aQ k = nI a) (hp : ∃ n, wX_recordGap_153 post (nI r) (nI k) (nI c) (nI q') n (nI a) fp fc ft fr aF aL aC aT aR aX aS (bk aG (22 * q) (22 * q + (v - u + 1)) (fun x => aF (22 * r + (u + (x - 22 * q))))) (upd aH q (nI (v - u + 1))) aN aW aM aP aQ) : ∀ d e, e + d = v - u + 1 → wX_recordGap_108 post (nI r) (nI k) (nI c) (nI q) (nI q') (d + 1) (nI (u + e)) fp fc ft fr aF aL aC aT aR aX aS (bk aG (22 * q) (22 * q + e) (fun x => aF (22 * r + (u + (x - 22 * q))))) (upd aH q (nI e)) aN aW aM aP aQ := by
  intro d
  induction d with
  | zero =>
    intro e h
    obtain rfl : e = v - u + 1 := by omega
    exact ⟨pk_in (k + 1) 22 (by omega) (nI_1 k), br_t (by rw [rd (a := aP) (nI_1 k) (by omega) eP]; exact nI_lt (by omega) (by omega)) ⟨vp_in_nI (by omega) (by decide), nm_r (rd (a := aQ) rfl (by omega) eQ) hp⟩⟩
  | succ d ih =>
    intro e h
    refine ⟨pk_in (k + 1) 22 (by omega) (nI_1 k), br_f (by rw [rd (a := aP) (nI_1 k) (by omega) eP]; exact nI_nlt (by omega) (by omega)) ⟨pk_in (22 * r + (u + e)) 66 (by omega) (xa _ _), ad_x (e := e) hq (by omega) pk_us (nm_r (nI_1 _) ?_)⟩⟩
    rw [ud_ud, bk_up (f := aG) (by omega) (by rw [cl_xa (by omega)]; exact congrArg aF (by omega))]
    exact ih (e + 1) (by omega)
/-- the new lines -/
theorem rg_1 {post : SX → Prop} {r k c a b u q q' p : Nat} (hr : r < 3) (hk : k < 21) (hab : a < b) (hb : b < 22) (hp60 : p + (b - a - 1) ≤ 60) (eQ' : aQ (k + 1) = nI b) (eP : aP k = nI u) (hp : ∃ n, wX_recordGap_108 post (nI r) (nI k) (nI c) (nI q) (nI q') n (nI u) (nI (p + (b - a - 1))) fc ft fr aF aL aC aT aR (bk aX p (p + (b - a - 1)) (fun x => aC (20 * r + (a + (x - p))))) (bk aS p (p + (b - a - 1)) (fun _ => nI c)) aG aH aN (bk aW (a + 1) (a + 1 + (b - a - 1)) (fun x => nI (p + (x - (a + 1))))) aM aP aQ) : ∀ d e, e + d = b - a - 1 → wX_recordGap_27 post (nI r) (nI k) (nI c) (nI q) (nI q') fc ft fr (d + 1) (nI (a + 1 + e)) (nI (p + e)) aF aL aC aT aR (bk aX p (p + e) (fun x => aC (20 * r + (a + (x - p))))) (bk aS p (p + e) (fun _ => nI c)) aG aH aN (bk aW (a + 1) (a + 1 + e) (fun x => nI (p + (x - (a + 1))))) aM aP aQ := by
  intro d
  induction d with
  | zero =>
    intro e h
    obtain rfl : e = b - a - 1 := by omega
    exact ⟨pk_in (k + 1) 22 (by omega) (nI_1 k), br_t (by rw [rd (a := aQ) (nI_1 k) (by omega) eQ']; exact nI_le (by omega) (by omega)) ⟨vp_in_nI (by omega) (by decide), nm_r (rd (a := aP) rfl (by omega) eP) hp⟩⟩
  | succ d ih =>
    intro e h
    have e1 : nI r * 20 + nI (a + 1 + e) - 1 = nI (20 * r + (a + e)) := by rw [show a + 1 + e = a + e + 1 by omega]; exact xd r (a + e)
    exact ⟨pk_in (k + 1) 22 (by omega) (nI_1 k), br_f (by rw [rd (a := aQ) (nI_1 k) (by omega) eQ']; exact nI_ge (by omega) (by omega)) ⟨pk_in (20 * r + (a + e)) 60 (by omega) e1, ⟨vp_in_nI (by omega) (by decide), nm_r ((wr rfl (by omega) (rd (a := aC) e1 (by omega) rfl)).trans (bk_up (by omega) (congrArg aC (by omega)))) ⟨vp_in_nI (by omega) (by decide), nm_r ((wr rfl (by omega) rfl).trans (bk_up (by omega) rfl)) ⟨vp_in_nI (by omega) (by decide), nm_r ((wr rfl (by omega) rfl).trans (bk_up (by omega) (congrArg nI (by omega)))) (nm_r (nI_1 _) (nm_r (nI_1 _) (ih (e + 1) (by omega))))⟩⟩⟩⟩⟩
theorem rg_x {post : SX → Prop} {r k c a b u v p : Nat} (hr : r < 3) (hk : k < 21) (hc : c < 16) (hab : a < b) (hb : b < 22) (huv : u < v) (hv : v < 22) (hp60 : p + (b - a - 1) ≤ 60) (eQ : aQ k = nI a) (eQ' : aQ (k + 1) = nI b) (eP : aP k = nI u) (eP' : aP (k + 1) = nI v) (z1 : aH (2 * c) = 0) (z2 : aH (2 * c + 1) = 0) (hp : post (nI (p + (b - a - 1)), nI (c + 1), ft, fr, aF, aL, aC, aT, upd aR r (aR r ||| ((1 : Int32) <<< (nI c &&& 31))), bk aX p (p + (b - a - 1)) (fun x => aC (20 * r + (a + (x - p)))), bk aS p (p + (b - a - 1)) (fun _ => nI c), bk (bk aG (22 * (2 * c)) (22 * (2 * c) + (v - u + 1)) (fun x => aF (22 * r + (u + (x - 22 * (2 * c)))))) (22 * (2 * c + 1)) (22 * (2 * c + 1) + (b - a + 1)) (fun x => bk aW (a + 1) (a + 1 + (b - a - 1)) (fun x => nI (p + (x - (a + 1)))) (a + (x - 22 * (2 * c + 1)))), upd (upd aH (2 * c) (nI (v - u + 1))) (2 * c + 1) (nI (b - a + 1)), aN, bk aW (a + 1) (a + 1 + (b - a - 1)) (fun x => nI (p + (x - (a + 1)))), aM, aP, aQ)) : wpX_recordGap post (nI p, nI c, ft, fr, aF, aL, aC, aT, aR, aX, aS, aG, aH, aN, aW, aM, aP, aQ) (nI r) (nI k) := by
  unfold wpX_recordGap
  refine rb_x (ra_x ⟨vp_in_nI (by omega) (by decide), nm_r (e' := nI (a + 1)) (by rw [rd (a := aQ) rfl (by omega) eQ, nI_1]) ?_⟩)
  have t3 := rg_3 (post := post) (fp := nI (p + (b - a - 1))) (fc := nI c) (ft := ft) (fr := fr) (aF := aF) (aL := aL) (aC := aC) (aT := aT) (aR := aR) (aX := bk aX p (p + (b - a - 1)) (fun x => aC (20 * r + (a + (x - p))))) (aS := bk aS p (p + (b - a - 1)) (fun _ => nI c)) (aG := bk aG (22 * (2 * c)) (22 * (2 * c) + (v - u + 1)) (fun x => aF (22 * r + (u + (x - 22 * (2 * c)))))) (aH := upd aH (2 * c) (nI (v - u + 1))) (aN := aN) (aW := bk aW (a + 1) (a + 1 + (b - a - 1)) (fun x => nI (p + (x - (a + 1))))) (aM := aM) (aP := aP) (aQ := aQ) (c := c) (q := 2 * c + 1) hr hk (by omega) (Nat.le_of_lt hab) hb eQ' (by rw [nI_1 c]; exact hp) (b - a + 1) 0 (by omega)
  have u3 : upd (upd aH (2 * c) (nI (v - u + 1))) (2 * c + 1) (nI 0) = upd aH (2 * c) (nI (v - u + 1)) := by
    have := ud_id (upd aH (2 * c) (nI (v - u + 1))) (2 * c + 1)
    rw [pk_un (by omega), z2] at this
    exact this
  rw [u3, bk_0 (f := bk aG (22 * (2 * c)) (22 * (2 * c) + (v - u + 1)) (fun x => aF (22 * r + (u + (x - 22 * (2 * c)))))) (Nat.le_of_eq (Nat.add_zero _))] at t3
  have t2 := rg_2 (post := post) (fp := nI (p + (b - a - 1))) (fc := nI c) (ft := ft) (fr := fr) (aF := aF) (aL := aL) (aC := aC) (aT := aT) (aR := aR) (aX := bk aX p (p + (b - a - 1)) (fun x => aC (20 * r + (a + (x - p))))) (aS := bk aS p (p + (b - a - 1)) (fun _ => nI c)) (aG := aG) (aH := aH) (aN := aN) (aW := bk aW (a + 1) (a + 1 + (b - a - 1)) (fun x => nI (p + (x - (a + 1))))) (aM := aM) (aP := aP) (aQ := aQ) (c := c) (q := 2 * c) (q' := 2 * c + 1) hr hk (by omega) (Nat.le_of_lt huv) hv eP' eQ ⟨_, t3⟩ (v - u + 1) 0 (by omega)
  have u2 : upd aH (2 * c) (nI 0) = aH := by
    have := ud_id aH (2 * c)
    rw [z1] at this
    exact this
  rw [u2, bk_0 (f := aG) (Nat.le_of_eq (Nat.add_zero _))] at t2
  have t1 := rg_1 (post := post) (fc := nI c) (ft := ft) (fr := fr) (aF := aF) (aL := aL) (aC := aC) (aT := aT) (aR := aR) (aX := aX) (aS := aS) (aG := aG) (aH := aH) (aN := aN) (aW := aW) (aM := aM) (aP := aP) (aQ := aQ) (c := c) (q := 2 * c) (q' := 2 * c + 1) (p := p) hr hk hab hb hp60 eQ' eP ⟨_, t2⟩ (b - a - 1) 0 (by omega)
  rw [bk_0 (f := aX) (Nat.le_of_eq (Nat.add_zero _)), bk_0 (f := aS) (Nat.le_of_eq (Nat.add_zero _)), bk_0 (f := aW) (Nat.le_of_eq (Nat.add_zero _))] at t1
  exact ⟨_, t1⟩
end
end
section
/-! what a change needs, by the component -/
section
variable {fp fc ft fr : Int32} {aF aL aC aT aR aX aS aG aH aN aW aM aP aQ : Nat → Int32}
theorem an_l {post : Int32 → Prop} {q len : Nat} {u v : Int32} (hq : q < 32) (hl : len ≤ 22) (eH : aH q = nI len) (h1 : (∃ k, k + 1 < len ∧ aG (22 * q + k) = u ∧ aG (22 * q + (k + 1)) = v) → post 1) (h0 : (¬ ∃ k, k + 1 < len ∧ aG (22 * q + k) = u ∧ aG (22 * q + (k + 1)) = v) → post 0) : ∀ d i, i + d + 1 = len → (∀ k, k < i → ¬ (aG (22 * q + k) = u ∧ aG (22 * q + (k + 1)) = v)) → wX_areNeighbours_6 post u v (nI q) fp fc ft fr aF aL aC aT aR aX aS aG aH aN aW aM aP aQ (d + 1) (nI (22 * q + i)) := by
  intro d
  induction d with
  | zero =>
    intro i h hi
    refine ⟨vp_in_nI hq (by decide), br_t (by rw [rd (a := aH) rfl (by omega) eH, xa, ca_s1 (by omega)]; exact nI_le (by omega) (by omega)) (h0 ?_)⟩
    rintro ⟨k, h2, h3⟩
    exact hi k (by omega) h3
  | succ d ih =>
    intro i h hi
    have nx : ¬ (aG (22 * q + i) = u ∧ aG (22 * q + (i + 1)) = v) → wX_areNeighbours_6 post u v (nI q) fp fc ft fr aF aL aC aT aR aX aS aG aH aN aW aM aP aQ (d + 1) (nI (22 * q + i + 1)) := by
      intro z
      refine ih (i + 1) (by omega) (fun k hk => ?_)
      by_cases e : k = i
      · rw [e]; exact z
      · exact hi k (by omega)
    refine ⟨vp_in_nI hq (by decide), br_f (by rw [rd (a := aH) rfl (by omega) eH, xa, ca_s1 (by omega)]; exact nI_ge (by omega) (by omega)) ⟨vp_in_nI (by omega) (by decide), ?_⟩⟩
    rw [nI_clamp (by omega)]
    refine br_c (fun e => ⟨pk_in (22 * q + i + 1) 704 (by omega) (nI_1 _), ?_⟩) (fun e => nm_r (nI_1 _) (nx (fun z => e z.1)))
    rw [rd (a := aG) (nI_1 (22 * q + i)) (by omega) rfl]
    exact br_c (fun e2 => h1 ⟨i, by omega, e, e2⟩) (fun e2 => nm_r (nI_1 _) (nx (fun z => e2 z.2)))
theorem an_x {post : Int32 → Prop} {q len : Nat} {u v : Int32} (hq : q < 32) (h0l : 1 ≤ len) (hl : len ≤ 22) (eH : aH q = nI len) (h1 : (∃ k, k + 1 < len ∧ aG (22 * q + k) = u ∧ aG (22 * q + (k + 1)) = v) → post 1) (h0 : (¬ ∃ k, k + 1 < len ∧ aG (22 * q + k) = u ∧ aG (22 * q + (k + 1)) = v) → post 0) : wpX_areNeighbours post (fp, fc, ft, fr, aF, aL, aC, aT, aR, aX, aS, aG, aH, aN, aW, aM, aP, aQ) u v (nI q) :=
  nm_r (ca_m22 q) ⟨_, an_l hq hl eH h1 h0 (len - 1) 0 (by omega) (fun k h => absurd h (Nat.not_lt_zero k))⟩
theorem lj_l {post : Int32 → Prop} {N : Nat} {u v hd : Int32} (hN : N ≤ 16) (hH : ∀ e, e < N → ∃ len, 1 ≤ len ∧ len ≤ 22 ∧ aH (2 * e + 1) = nI len) : ∀ e, e ≤ N → post (jr (jn aG aH hd u v e)) → wX_lastJoiner_8 post u v hd fp fc ft fr aF aL aC aT aR aX aS aG aH aN aW aM aP aQ (e + 1) (nI e - 1) := by
  intro e
  induction e with
  | zero => intro _ hp; exact br_t (by decide) hp
  | succ e ih =>
    intro he hp
    rw [show nI (e + 1) - 1 = nI e from ca_z e]
    obtain ⟨len, l1, l2, l3⟩ := hH e (by omega)
    have l4 : (aH (2 * e + 1)).toNatClampNeg = len := by rw [l3, nI_clamp (by omega)]
    refine br_f (nI_pos (by omega)) (ra_x ?_)
    cases hb : bt hd e with
    | false =>
      rw [jn_f (fun z => by rw [z.1] at hb; cases hb)] at hp
      exact ix_0 (by omega) hb (br_t rfl (nm_r (ca_pm e) (ih (by omega) hp)))
    | true =>
      refine ix_1 (by omega) hb (br_f ca_10 (an_x (by omega) l1 l2 l3 (fun hz => br_f ca_10 ?_) (fun hz => br_t rfl (nm_r (ca_pm e) (ih (by omega) ?_)))))
      · rw [jn_t ⟨hb, by rw [l4]; exact hz⟩] at hp
        exact hp
      · rw [jn_f (fun z => hz (by have := z.2; rw [l4] at this; exact this))] at hp
        exact hp
theorem lj_x {post : Int32 → Prop} {N : Nat} {u v hd : Int32} (hN : N ≤ 16) (hH : ∀ e, e < N → ∃ len, 1 ≤ len ∧ len ≤ 22 ∧ aH (2 * e + 1) = nI len) (hp : post (jr (jn aG aH hd u v N))) : wpX_lastJoiner post (fp, nI N, ft, fr, aF, aL, aC, aT, aR, aX, aS, aG, aH, aN, aW, aM, aP, aQ) u v hd := nm_r rfl ⟨_, lj_l hN hH N (Nat.le_refl _) hp⟩
theorem fn_l {post : Int32 → Prop} {N d len : Nat} {hd : Int32} {J : Int32 → Int32 → Nat} {N0 : Nat → Int32} (hN : N ≤ 16) (hH : ∀ e, e < N → ∃ len, 1 ≤ len ∧ len ≤ 22 ∧ aH (2 * e + 1) = nI len) (hd16 : d < 16) (hl : len ≤ 22) (eH : aH (2 * d) = nI len) (hJ : ∀ u v, jn aG aH hd u v N = J u v) (hN0 : ∀ u v e, J u v = e + 1 → e < 16 ∧ aN e = N0 e) (hp : post (nval J N0 (fun k => aG (22 * (2 * d) + k)) (len - 1))) : ∀ e i, i + e + 1 = len → wX_findNeeded_11 post hd (nI (2 * d)) fp (nI N) ft fr aF aL aC aT aR aX aS aG aH aN aW aM aP aQ (e + 1) (nval J N0 (fun k => aG (22 * (2 * d) + k)) i) (nI i) := by
  intro e
  induction e with
  | zero =>
    intro i h
    obtain rfl : len = i + 1 := by omega
    exact ⟨vp_in_nI (by omega) (by decide), br_t (by rw [rd (a := aH) rfl (by omega) eH, ca_z]; exact nI_le (by omega) (by omega)) hp⟩
  | succ e ih =>
    intro i h
    have t := ih (i + 1) (by omega)
    rw [nval] at t
    have e1 : nI (2 * d) * 22 + nI i + 1 = nI (22 * (2 * d) + (i + 1)) := by rw [xa, nI_1]; rfl
    refine ⟨vp_in_nI (by omega) (by decide), br_f (by rw [rd (a := aH) rfl (by omega) eH, ca_s1 (by omega)]; exact nI_ge (by omega) (by omega)) ⟨pk_in (22 * (2 * d) + i) 704 (by omega) (xa _ _), pk_in (22 * (2 * d) + (i + 1)) 704 (by omega) e1, ?_⟩⟩
    rw [rd (a := aG) (xa (2 * d) i) (by omega) rfl, rd (a := aG) e1 (by omega) rfl]
    refine lj_x hN hH ?_
    rw [hJ]
    cases hj : J (aG (22 * (2 * d) + i)) (aG (22 * (2 * d) + (i + 1))) with
    | zero =>
      rw [hj] at t
      exact br_t rfl (nm_r (nI_1 i) t)
    | succ x =>
      rw [hj] at t
      obtain ⟨hx, hn⟩ := hN0 _ _ _ hj
      exact br_f (ca_ne1 (by omega)) ⟨vp_in_nI hx (by decide), nm_r (by rw [show jr (x + 1) = nI x from rfl, rd (a := aN) rfl (by omega) hn]; rfl) (nm_r (nI_1 i) t)⟩
theorem fn_x {post : Int32 → Prop} {N d len : Nat} {hd : Int32} {J : Int32 → Int32 → Nat} {N0 : Nat → Int32} (hN : N ≤ 16) (hH : ∀ e, e < N → ∃ len, 1 ≤ len ∧ len ≤ 22 ∧ aH (2 * e + 1) = nI len) (hd16 : d < 16) (h0l : 1 ≤ len) (hl : len ≤ 22) (eH : aH (2 * d) = nI len) (hJ : ∀ u v, jn aG aH hd u v N = J u v) (hN0 : ∀ u v e, J u v = e + 1 → e < 16 ∧ aN e = N0 e) (hp : post (nval J N0 (fun k => aG (22 * (2 * d) + k)) (len - 1))) : wpX_findNeeded post (fp, nI N, ft, fr, aF, aL, aC, aT, aR, aX, aS, aG, aH, aN, aW, aM, aP, aQ) (nI d) hd := by
  unfold wpX_findNeeded
  exact rb_x ⟨_, fn_l hN hH hd16 hl eH hJ hN0 hp (len - 1) 0 (by omega)⟩
/-! the first and the last loop of a record -/
theorem it_l {post : SX → Prop} {r np m n : Nat} {hd c0 : Int32} {PL PT : Nat → Nat} (hr : r < 3) (hm : m ≤ 20) (hn : n ≤ 20) (hpp : pp np m n PL PT) (hP : pXX aP aQ np PL PT) (eT : aT r = nI n) (hp : ∀ aW, (∀ j, j ≤ np + 1 → aW (PT j) = aF (22 * r + PL j)) → ∃ x, wX_recordGaps_76 post (nI r) hd c0 x 0 fp fc (nI (n + 2)) (nI np) aF aL aC aT aR aX aS aG aH aN aW aM aP aQ) : ∀ d k, k + d = np + 2 → ∀ aW, (∀ j, j < k → aW (PT j) = aF (22 * r + PL j)) → wX_recordGaps_15 post (nI r) hd c0 fp fc ft (nI np) (d + 1) (nI k) aF aL aC aT aR aX aS aG aH aN aW aM aP aQ := by
  have b0 := pp_b hpp (Nat.le_refl (np + 1))
  intro d
  induction d with
  | zero =>
    intro k h aW hW
    obtain rfl : k = np + 2 := by omega
    exact br_t (by rw [nI_1]; exact nI_lt (by omega) (by omega)) ⟨vp_in_nI hr (by decide), nm_r (by rw [rd (a := aT) rfl (by omega) eT, ca_p2]) (hp aW (fun j hj => hW j (by omega)))⟩
  | succ d ih =>
    intro k h aW hW
    obtain ⟨p1, p2⟩ := hP k (by omega)
    have b1 := pp_b hpp (show k ≤ np + 1 by omega)
    have q1 : aP (nI k).toNatClampNeg = nI (PL k) := rd rfl (by omega) p1
    have q2 : aQ (nI k).toNatClampNeg = nI (PT k) := rd rfl (by omega) p2
    have e1 : nI r * 22 + aP (nI k).toNatClampNeg = nI (22 * r + PL k) := by rw [q1, xa]
    refine br_f (by rw [nI_1]; exact nI_nlt (by omega) (by omega)) ⟨vp_in_nI (by omega) (by decide), ⟨vp_in_nI (by omega) (by decide), ⟨pk_in _ 66 (by omega) e1, ⟨pk_in (PT k) 22 (by omega) q2, nm_r (wr q2 (by omega) (rd (a := aF) e1 (by omega) rfl)) (nm_r (nI_1 k) (ih (k + 1) (by omega) _ (fun j hj => ?_)))⟩⟩⟩⟩
    by_cases e : j = k
    · rw [e, pk_us]
    · have := pp_lt hpp (show j < k by omega) (by omega)
      rw [pk_un (by omega)]; exact hW j (by omega)
theorem rr_l {post : SX → Prop} {r n c0 N : Nat} {hd : Int32} {J : Int32 → Int32 → Nat} {N0 : Nat → Int32} (hr : r < 3) (hn : n ≤ 20) (hN : N ≤ 16) (hH : ∀ e, e < N → ∃ len, 1 ≤ len ∧ len ≤ 22 ∧ aH (2 * e + 1) = nI len) (hH' : ∀ e, e < N → ∃ len, 1 ≤ len ∧ len ≤ 22 ∧ aH (2 * e) = nI len) (hJ : ∀ u v, jn aG aH hd u v N = J u v) (hJc : ∀ u v e, J u v = e + 1 → e < c0) (hc0 : c0 ≤ N) (hp : post (fp, nI N, nI (n + 2), fr, bk aF (22 * r) (22 * r + (n + 2)) (fun j => aW (j - 22 * r)), upd aL r (nI n), aC, aT, aR, aX, aS, aG, aH, bk N0 c0 N (fun d => nval J N0 (fun k => aG (22 * (2 * d) + k)) ((aH (2 * d)).toNatClampNeg - 1)), aW, aM, aP, aQ)) : ∀ e d, d + e = N → c0 ≤ d → wX_recordGaps_110 post (nI r) hd fp (nI N) (nI (n + 2)) fr (e + 1) (nI d) aF aL aC aT aR aX aS aG aH (bk N0 c0 d (fun d => nval J N0 (fun k => aG (22 * (2 * d) + k)) ((aH (2 * d)).toNatClampNeg - 1))) aW aM aP aQ := by
  intro e
  induction e with
  | zero =>
    intro d h hd0
    obtain rfl : d = N := by omega
    exact br_t (nI_le (by omega) (by omega)) (kt_x0 hr hn hp)
  | succ e ih =>
    intro d h hd0
    obtain ⟨len, l1, l2, l3⟩ := hH' d (by omega)
    have l4 : (aH (2 * d)).toNatClampNeg = len := by rw [l3, nI_clamp (by omega)]
    refine br_f (nI_ge (by omega) (by omega)) (fn_x (N0 := N0) hN hH (by omega) l1 l2 l3 hJ (fun u v x hx => ?_) ⟨vp_in_nI (by omega) (by decide), nm_r ((wr rfl (by omega) rfl).trans (bk_up hd0 (by rw [l4]))) (nm_r (nI_1 d) (ih (d + 1) (by omega) (by omega)))⟩)
    have := hJc u v x hx
    exact ⟨by omega, bk_lo (by omega)⟩
end
end
section
/-! what a change needs, by the reference -/
section
variable {fp fc fs : Int32} {aX aS bE bD bK bU bO bV aN aL bF aT aC aR bW bP bM : Nat → Int32} {aG aH : Nat → Int32}
theorem mo_l {post : Int32 → Prop} {J : Int32 → Int32 → Prop} {r e len : Nat} {u v old : Int32} {mem : Nat → Int32} (hr : r < 3) (he : e < 16) (hb : bt (aR r) e = true) (hl : len ≤ 22) (hL : ∀ (post : Int32 → Prop), post (nI len) → wpY_length post (fp, fc, fs, aX, aS, bE, bD, bK, bU, bO, bV, aN, aL, bF, aT, aC, aR, bW, bP, bM) (nI e) 1) (hM : ∀ (post : Int32 → Prop) (k : Nat), k < len → post (mem k) → wpY_member post (fp, fc, fs, aX, aS, bE, bD, bK, bU, bO, bV, aN, aL, bF, aT, aC, aR, bW, bP, bM) (nI e) 1 (nI k)) (h1 : (∃ k, k + 1 < len ∧ mem k = u ∧ mem (k + 1) = v) → J (nI e) (nI (e + 1))) (h0 : (¬ ∃ k, k + 1 < len ∧ mem k = u ∧ mem (k + 1) = v) → J old (nI (e + 1))) : ∀ d k x4, k + d + 1 = len → ((x4 = nI e ∧ ∃ k, k + 1 < len ∧ mem k = u ∧ mem (k + 1) = v) ∨ (x4 = old ∧ ∀ i, i < k → ¬ (mem i = u ∧ mem (i + 1) = v))) → wY_makerOf_18 post J (nI r) u v (nI e) fp fc fs aX aS bE bD bK bU bO bV aN aL bF aT aC aR bW bP bM (d + 1) x4 (nI k) := by
  intro d
  induction d with
  | zero =>
    intro k x4 h hx
    unfold wY_makerOf_18
    refine hL _ (br_t (by rw [nI_1]; exact nI_le (by omega) (by omega)) (nm_r (nI_1 e) ?_))
    rcases hx with ⟨e1, hE⟩ | ⟨e1, hN⟩
    · rw [e1]; exact h1 hE
    · rw [e1]; exact h0 (fun ⟨i, h2, h3⟩ => hN i (by omega) h3)
  | succ d ih =>
    intro k x4 h hx
    have er : aR (nI r).toNatClampNeg = aR r := rd rfl (by omega) rfl
    have nx : ¬ (mem k = u ∧ mem (k + 1) = v) → wY_makerOf_18 post J (nI r) u v (nI e) fp fc fs aX aS bE bD bK bU bO bV aN aL bF aT aC aR bW bP bM (d + 1) x4 (nI (k + 1)) := by
      intro z
      refine ih (k + 1) x4 (by omega) ?_
      rcases hx with hx | ⟨e1, hN⟩
      · exact Or.inl hx
      · refine Or.inr ⟨e1, fun i hi => ?_⟩
        by_cases ei : i = k
        · rw [ei]; exact z
        · exact hN i (by omega)
    unfold wY_makerOf_18
    rw [nI_1 k]
    refine hL _ (br_f (nI_ge (by omega) (by omega)) ⟨vp_in_nI hr (by decide), iy_1 (by omega) (by rw [er]; exact hb) (br_f ca_10 (hM _ k (by omega) (br_c (fun e1 => hM _ (k + 1) (by omega) (br_c (fun e2 => nm_r rfl (ih (k + 1) (nI e) (by omega) (Or.inl ⟨rfl, k, by omega, e1, e2⟩))) (fun e2 => nm_r rfl (nx (fun z => e2 z.2))))) (fun e1 => nm_r rfl (nx (fun z => e1 z.1))))))⟩)
theorem mo_o {post : Int32 → Prop} {r c P : Nat} {u v : Int32} (hr : r < 3) (hc : c ≤ 16) (hC : ∀ e, e < c → rl_C aG aH bE bD bK bU bO bV P e) (hp : post (jr (jn aG aH (aR r) u v c))) : ∀ d e, e + d = c → wY_makerOf_6 post (nI r) u v fp (nI c) fs aX aS bE bD bK bU bO bV aN aL bF aT aC aR bW bP bM (d + 1) (jr (jn aG aH (aR r) u v e)) (nI e) := by
  intro d
  induction d with
  | zero =>
    intro e h
    obtain rfl : e = c := by omega
    exact br_t (nI_le (by omega) (by omega)) hp
  | succ d ih =>
    intro e h
    have t := ih (e + 1) (by omega)
    obtain ⟨o, hS1⟩ : ∃ t, sd aG aH (2 * e + 1) (bE e) (bD e) (bU e) bV (20 * e) P t := (hC e (by omega)).2
    have ho := hS1.1
    have l4 : (aH (2 * e + 1)).toNatClampNeg = o + 2 := by rw [hS1.2.2.1, nI_clamp (by omega)]
    refine br_f (nI_ge (by omega) (by omega)) ?_
    cases hb : bt (aR r) e with
    | false =>
      rw [jn_f (fun z => by rw [z.1] at hb; cases hb)] at t
      have er : aR (nI r).toNatClampNeg = aR r := rd rfl (by omega) rfl
      refine ⟨1, ?_⟩
      unfold wY_makerOf_18
      exact ln_1 (by omega) hS1 _ (br_f (nI_ge (a := 1) (by omega) (by omega)) ⟨vp_in_nI hr (by decide), iy_0 (by omega) (by rw [er]; exact hb) (br_t rfl (nm_r (nI_1 e) t))⟩)
    | true =>
      refine ⟨_, mo_l (mem := fun k => aG (22 * (2 * e + 1) + k)) hr (by omega) hb (show o + 2 ≤ 22 by omega) (ln_1 (by omega) hS1) (me_1 (by omega) hS1) (fun hz => ?_) (fun hz => ?_) (o + 1) 0 _ (by omega) (Or.inr ⟨rfl, fun i h => absurd h (Nat.not_lt_zero i)⟩)⟩
      · rw [jn_t ⟨hb, by rw [l4]; exact hz⟩] at t
        exact t
      · rw [jn_f (fun z => hz (by have := z.2; rw [l4] at this; exact this))] at t
        exact t
theorem fs_l {post : SY → Prop} {r c len P : Nat} {J : Int32 → Int32 → Nat} {N0 B : Nat → Int32} (hr : r < 3) (hc : c < 16) (hl : len ≤ 22) (hC : ∀ e, e < c → rl_C aG aH bE bD bK bU bO bV P e) (hL : ∀ (aN : Nat → Int32) (post : Int32 → Prop), post (nI len) → wpY_length post (fp, nI c, fs, aX, aS, bE, bD, bK, bU, bO, bV, aN, aL, bF, aT, aC, aR, bW, bP, bM) (nI c) 0) (hM : ∀ (aN : Nat → Int32) (post : Int32 → Prop) (k : Nat), k < len → post (B k) → wpY_member post (fp, nI c, fs, aX, aS, bE, bD, bK, bU, bO, bV, aN, aL, bF, aT, aC, aR, bW, bP, bM) (nI c) 0 (nI k)) (hJ : ∀ u v, jn aG aH (aR r) u v c = J u v) (hN0 : ∀ u v e, J u v = e + 1 → e < c ∧ aN e = N0 e) (hp : post (fp, nI c, fs, aX, aS, bE, bD, bK, bU, bO, bV, upd aN c (nval J N0 B (len - 1)), aL, bF, aT, aC, aR, bW, bP, bM)) : ∀ e i, i + e + 1 = len → wY_findNeeds_9 post (nI r) (nI c) fp (nI c) fs (e + 1) (nI i) aX aS bE bD bK bU bO bV (upd aN c (nval J N0 B i)) aL bF aT aC aR bW bP bM := by
  intro e
  induction e with
  | zero =>
    intro i h
    obtain rfl : len = i + 1 := by omega
    unfold wY_findNeeds_9
    exact hL _ _ (br_t (by rw [nI_1]; exact nI_le (by omega) (by omega)) hp)
  | succ e ih =>
    intro i h
    have t := ih (i + 1) (by omega)
    rw [nval] at t
    unfold wY_findNeeds_9
    rw [nI_1 i]
    refine hL _ _ (br_f (nI_ge (by omega) (by omega)) (hM _ _ i (by omega) (hM _ _ (i + 1) (by omega) ⟨_, mo_o (P := P) hr (by omega) hC ?_ c 0 (by omega)⟩)))
    rw [hJ]
    cases hj : J (B i) (B (i + 1)) with
    | zero =>
      rw [hj] at t
      exact br_t ca_n1 ⟨vp_in_nI hc (by decide), ⟨vp_in_nI hc (by decide), nm_r ((wr rfl (by omega) (rd rfl (by omega) pk_us)).trans (ud_ud _ _ _ _)) (nm_r rfl t)⟩⟩
    | succ x =>
      rw [hj] at t
      obtain ⟨hx, hn⟩ := hN0 _ _ _ hj
      refine br_f (nI_pos (by omega)) ⟨vp_in_nI hc (by decide), ⟨vp_in_nI (by omega) (by decide), ⟨vp_in_nI hc (by decide), nm_r ((wr rfl (by omega) ?_).trans (ud_ud _ _ _ _)) (nm_r rfl t)⟩⟩⟩
      rw [show jr (x + 1) = nI x from rfl, rd (a := upd aN c (nval J N0 B i)) (k := c) rfl (by omega) pk_us, rd (a := upd aN c (nval J N0 B i)) (k := x) rfl (by omega) ((pk_un (by omega)).trans hn), Int32.or_assoc]
      rfl
theorem fs_y {post : SY → Prop} {r c len P : Nat} {J : Int32 → Int32 → Nat} {N0 B : Nat → Int32} (hr : r < 3) (hc : c < 16) (h0l : 1 ≤ len) (hl : len ≤ 22) (hC : ∀ e, e < c → rl_C aG aH bE bD bK bU bO bV P e) (hL : ∀ (aN : Nat → Int32) (post : Int32 → Prop), post (nI len) → wpY_length post (fp, nI c, fs, aX, aS, bE, bD, bK, bU, bO, bV, aN, aL, bF, aT, aC, aR, bW, bP, bM) (nI c) 0) (hM : ∀ (aN : Nat → Int32) (post : Int32 → Prop) (k : Nat), k < len → post (B k) → wpY_member post (fp, nI c, fs, aX, aS, bE, bD, bK, bU, bO, bV, aN, aL, bF, aT, aC, aR, bW, bP, bM) (nI c) 0 (nI k)) (hJ : ∀ u v, jn aG aH (aR r) u v c = J u v) (hN0 : ∀ u v e, J u v = e + 1 → e < c ∧ aN e = N0 e) (hp : post (fp, nI c, fs, aX, aS, bE, bD, bK, bU, bO, bV, upd aN c (nval J N0 B (len - 1)), aL, bF, aT, aC, aR, bW, bP, bM)) : wpY_findNeeds post (fp, nI c, fs, aX, aS, bE, bD, bK, bU, bO, bV, aN, aL, bF, aT, aC, aR, bW, bP, bM) (nI r) (nI c) :=
  ⟨vp_in_nI hc (by decide), nm_r (wr rfl (by omega) rfl) ⟨_, fs_l hr hc hl hC hL hM hJ hN0 hp (len - 1) 0 (by omega)⟩⟩
/-! a change is made -/
theorem mc_3 {post : SY → Prop} {r c a b p : Nat} (hr : r < 3) (hc : c < 16) (hab : a < b) (hb : b < 22) (hp60 : p + (b - a - 1) ≤ 60) (hp : wpY_findNeeds (fun u => match u with | (fp, fc, fs, aX, aS, bE, bD, bK, bU, bO, bV, aN, aL, bF, aT, aC, aR, bW, bP, bM) => (∀ fc' : Int32, fc' = fc + 1 → post (fp, fc', fs, aX, aS, bE, bD, bK, bU, bO, bV, aN, aL, bF, aT, aC, aR, bW, bP, bM))) (nI (p + (b - a - 1)), fc, fs, bk aX p (p + (b - a - 1)) (fun x => aC (20 * r + (a + (x - p)))), bk aS p (p + (b - a - 1)) (fun _ => nI c), bE, bD, bK, upd bU c (nI (b - a - 1)), bO, bk bV (20 * c) (20 * c + (b - a - 1)) (fun x => nI (p + (x - 20 * c))), aN, aL, bF, aT, aC, aR, bk bW a (a + (b - a - 1)) (fun x => nI (p + (x - a))), bP, bM) (nI r) (nI c)) : ∀ d e, e + d = b - a - 1 → wY_makeChange_146 post (nI r) (nI b - 1) (nI c) fc fs (d + 1) (nI (a + e)) (nI (p + e)) (bk aX p (p + e) (fun x => aC (20 * r + (a + (x - p))))) (bk aS p (p + e) (fun _ => nI c)) bE bD bK (upd bU c (nI e)) bO (bk bV (20 * c) (20 * c + e) (fun x => nI (p + (x - 20 * c)))) aN aL bF aT aC aR (bk bW a (a + e) (fun x => nI (p + (x - a)))) bP bM := by
  intro d
  induction d with
  | zero =>
    intro e h
    obtain rfl : e = b - a - 1 := by omega
    exact br_t (by rw [ca_s1 (by omega)]; exact nI_le (by omega) (by omega)) hp
  | succ d ih =>
    intro e h
    have e2 : 20 * nI c + upd bU c (nI e) (nI c).toNatClampNeg = nI (20 * c + e) := by rw [rd (a := upd bU c (nI e)) rfl (by omega) pk_us, ya]
    exact br_f (by rw [ca_s1 (by omega)]; exact nI_ge (by omega) (by omega)) ⟨pk_in (20 * r + (a + e)) 60 (by omega) (ya _ _), ⟨vp_in_nI (by omega) (by decide), nm_r ((wr rfl (by omega) (rd (a := aC) (ya _ _) (by omega) rfl)).trans (bk_up (by omega) (congrArg aC (by omega)))) ⟨vp_in_nI (by omega) (by decide), nm_r ((wr rfl (by omega) rfl).trans (bk_up (by omega) rfl)) ⟨vp_in_nI hc (by decide), ⟨pk_in (20 * c + e) 320 (by omega) e2, nm_r ((wr e2 (by omega) rfl).trans (bk_up (by omega) (congrArg nI (by omega)))) ⟨vp_in_nI (by omega) (by decide), nm_r ((wr rfl (by omega) rfl).trans (bk_up (by omega) (congrArg nI (by omega)))) ⟨vp_in_nI hc (by decide), ⟨vp_in_nI hc (by decide), nm_r ((wr rfl (by omega) (by rw [rd (a := upd bU c (nI e)) rfl (by omega) pk_us, nI_1])).trans (ud_ud _ _ _ _)) (nm_r (nI_1 _) (nm_r (nI_1 _) (ih (e + 1) (by omega))))⟩⟩⟩⟩⟩⟩⟩⟩
theorem mc_2 {post : SY → Prop} {r c u v a b : Nat} (hr : r < 3) (hc : c < 16) (huv : u < v) (hv : v < 22) (hp : ∃ n, wY_makeChange_146 post (nI r) (nI b - 1) (nI c) fc fs n (nI a) fp aX aS bE bD (upd bK c (nI (v - u - 1))) bU (bk bO (20 * c) (20 * c + (v - u - 1)) (fun x => bF (20 * r + (u + (x - 20 * c))))) bV aN aL bF aT aC aR bW bP bM) : ∀ d e, e + d = v - u - 1 → wY_makeChange_87 post (nI r) (nI v - 1) (nI a - 1) (nI b - 1) (nI c) fp fc fs (d + 1) (nI (u + e)) aX aS bE bD (upd bK c (nI e)) bU (bk bO (20 * c) (20 * c + e) (fun x => bF (20 * r + (u + (x - 20 * c))))) bV aN aL bF aT aC aR bW bP bM := by
  intro d
  induction d with
  | zero =>
    intro e h
    obtain rfl : e = v - u - 1 := by omega
    exact br_t (by rw [ca_s1 (by omega)]; exact nI_le (by omega) (by omega)) (nm_r (Int32.sub_add_cancel _ _) hp)
  | succ d ih =>
    intro e h
    have e2 : 20 * nI c + upd bK c (nI e) (nI c).toNatClampNeg = nI (20 * c + e) := by rw [rd (a := upd bK c (nI e)) rfl (by omega) pk_us, ya]
    exact br_f (by rw [ca_s1 (by omega)]; exact nI_ge (by omega) (by omega)) ⟨vp_in_nI hc (by decide), ⟨pk_in (20 * r + (u + e)) 60 (by omega) (ya _ _), ⟨pk_in (20 * c + e) 320 (by omega) e2, nm_r ((wr e2 (by omega) (rd (a := bF) (ya _ _) (by omega) rfl)).trans (bk_up (by omega) (congrArg bF (by omega)))) ⟨vp_in_nI hc (by decide), ⟨vp_in_nI hc (by decide), nm_r ((wr rfl (by omega) (by rw [rd (a := upd bK c (nI e)) rfl (by omega) pk_us, nI_1])).trans (ud_ud _ _ _ _)) (nm_r (nI_1 _) (ih (e + 1) (by omega)))⟩⟩⟩⟩⟩
theorem mc_y {post : SY → Prop} {r c u v a b p m : Nat} {aF : Nat → Int32} (hr : r < 3) (hc : c < 16) (hm : m ≤ 20) (hab : a < b) (hb : b < 22) (huv : u < v) (hv : v ≤ m + 1) (hp60 : p + (b - a - 1) ≤ 60) (eL : aL r = nI m) (e60 : aF (22 * r) = 60) (e61 : aF (22 * r + 1 + m) = 61) (hf : ∀ i, i < m → aF (22 * r + 1 + i) = bF (20 * r + i)) (hp : wpY_findNeeds (fun u => match u with | (fp, fc, fs, aX, aS, bE, bD, bK, bU, bO, bV, aN, aL, bF, aT, aC, aR, bW, bP, bM) => (∀ fc' : Int32, fc' = fc + 1 → post (fp, fc', fs, aX, aS, bE, bD, bK, bU, bO, bV, aN, aL, bF, aT, aC, aR, bW, bP, bM))) (nI (p + (b - a - 1)), nI c, fs, bk aX p (p + (b - a - 1)) (fun x => aC (20 * r + (a + (x - p)))), bk aS p (p + (b - a - 1)) (fun _ => nI c), upd bE c (aF (22 * r + u)), upd bD c (aF (22 * r + v)), upd bK c (nI (v - u - 1)), upd bU c (nI (b - a - 1)), bk bO (20 * c) (20 * c + (v - u - 1)) (fun x => bF (20 * r + (u + (x - 20 * c)))), bk bV (20 * c) (20 * c + (b - a - 1)) (fun x => nI (p + (x - 20 * c))), aN, aL, bF, aT, aC, aR, bk bW a (a + (b - a - 1)) (fun x => nI (p + (x - a))), bP, bM) (nI r) (nI c)) : wpY_makeChange post (nI p, nI c, fs, aX, aS, bE, bD, bK, bU, bO, bV, aN, aL, bF, aT, aC, aR, bW, bP, bM) (nI r) (nI u - 1) (nI v - 1) (nI a - 1) (nI b - 1) := by
  have t3 := mc_3 (post := post) (fc := nI c) (fs := fs) (aX := aX) (aS := aS) (bE := upd bE c (aF (22 * r + u))) (bD := upd bD c (aF (22 * r + v))) (bK := upd bK c (nI (v - u - 1))) (bU := bU) (bO := bk bO (20 * c) (20 * c + (v - u - 1)) (fun x => bF (20 * r + (u + (x - 20 * c))))) (bV := bV) (aN := aN) (aL := aL) (bF := bF) (aT := aT) (aC := aC) (aR := aR) (bW := bW) (bP := bP) (bM := bM) hr hc hab hb hp60 hp (b - a - 1) 0 (by omega)
  rw [bk_0 (f := aX) (Nat.le_of_eq (Nat.add_zero _)), bk_0 (f := aS) (Nat.le_of_eq (Nat.add_zero _)), bk_0 (f := bV) (Nat.le_of_eq (Nat.add_zero _)), bk_0 (f := bW) (Nat.le_of_eq (Nat.add_zero _))] at t3
  have t2 := mc_2 (post := post) (fp := nI p) (fc := nI c) (fs := fs) (aX := aX) (aS := aS) (bE := upd bE c (aF (22 * r + u))) (bD := upd bD c (aF (22 * r + v))) (bK := bK) (bU := upd bU c (nI 0)) (bO := bO) (bV := bV) (aN := aN) (aL := aL) (bF := bF) (aT := aT) (aC := aC) (aR := aR) (bW := bW) (bP := bP) (bM := bM) (a := a) (b := b) hr hc huv (by omega) ⟨_, t3⟩ (v - u - 1) 0 (by omega)
  rw [bk_0 (f := bO) (Nat.le_of_eq (Nat.add_zero _))] at t2
  have k65 : ∀ z, z = aF (22 * r + v) → wY_makeChange_65 post (nI r) (nI u - 1) (nI v - 1) (nI a - 1) (nI b - 1) (nI c) z (nI c) (nI p) (nI c) fs aX aS (upd bE c (aF (22 * r + u))) bD bK bU bO bV aN aL bF aT aC aR bW bP bM := by
    intro z hz
    exact ⟨vp_in_nI hc (by decide), nm_r (wr rfl (by omega) hz) ⟨vp_in_nI hc (by decide), nm_r (wr rfl (by omega) rfl) ⟨vp_in_nI hc (by decide), nm_r (wr rfl (by omega) rfl) (nm_r (Int32.sub_add_cancel _ _) ⟨_, t2⟩)⟩⟩⟩
  have k32 : ∀ z, z = aF (22 * r + u) → wY_makeChange_32 post (nI r) (nI u - 1) (nI v - 1) (nI a - 1) (nI b - 1) (nI c) z (nI c) (nI p) (nI c) fs aX aS bE bD bK bU bO bV aN aL bF aT aC aR bW bP bM := by
    intro z hz
    refine ⟨vp_in_nI hc (by decide), nm_r (wr rfl (by omega) hz) ⟨vp_in_nI hr (by decide), ?_⟩⟩
    rw [rd (a := aL) rfl (by omega) eL]
    by_cases h1 : m ≤ v - 1
    · refine br_t (by rw [ca_s1 (by omega)]; exact nI_le h1 (by omega)) (k65 61 ?_)
      rw [← e61]; exact congrArg aF (by omega)
    · have e1 : 20 * nI r + (nI v - 1) = nI (20 * r + (v - 1)) := by rw [ca_s1 (by omega), ya]
      refine br_f (by rw [ca_s1 (by omega)]; exact nI_ge (by omega) (by omega)) ⟨pk_in (20 * r + (v - 1)) 60 (by omega) e1, k65 _ ?_⟩
      rw [rd (a := bF) e1 (by omega) (hf (v - 1) (by omega)).symm]
      exact congrArg aF (by omega)
  by_cases h0 : u = 0
  · subst h0
    exact br_f (by decide) (k32 60 e60.symm)
  · have e1 : 20 * nI r + (nI u - 1) = nI (20 * r + (u - 1)) := by rw [ca_s1 (by omega), ya]
    refine br_t (by rw [ca_s1 (by omega)]; exact nI_pos' (by omega)) ⟨pk_in (20 * r + (u - 1)) 60 (by omega) e1, k32 _ ?_⟩
    rw [rd (a := bF) e1 (by omega) (hf (u - 1) (by omega)).symm]
    exact congrArg aF (by omega)
end
end
section
/-! the stretches, by the reference -/
def pYY (bP : Nat → Int32) (np : Nat) (PL PT : Nat → Nat) : Prop := ∀ k, k ≤ np → (∀ j, PT k ≤ j → j + 1 < PT (k + 1) → bP j = -1) ∧ (k < np → bP (PT (k + 1) - 1) = nI (PL (k + 1)) - 1)
theorem ca_dd {u v : Nat} (h : u ≤ v) : (nI v - 1) - (nI u - 1) = nI (v - u) := by
  rw [← pk_sub h]
  grind
section
variable {fp fc fs : Int32} {aX aS bE bD bK bU bO bV aN aL bF aT aC aR bW bP bM : Nat → Int32}
theorem sk_y {post : Int32 → SY → Prop} {r np m n k F : Nat} {PL PT : Nat → Nat} {x2 x3 x4 x5 : Int32} (hr : r < 3) (hm : m ≤ 20) (hn : n ≤ 20) (hpp : pp np m n PL PT) (hP : pYY bP np PL PT) (hk : k ≤ np) (eL : aL r = nI m) (eT : aT r = nI n) (hp : wY_stretches_49 post (wY_stretches_11 post (nI r) x2 F) (nI r) x2 x3 x4 x5 (nI (PT (k + 1)) - 1) (nI (PL (k + 1)) - 1) fp fc fs aX aS bE bD bK bU bO bV aN aL bF aT aC aR bW bP bM) : ∀ d j, j + d + 1 = PT (k + 1) → PT k ≤ j → wY_stretches_11 post (nI r) x2 (F + d + 1) x3 x4 x5 (nI j) fp fc fs aX aS bE bD bK bU bO bV aN aL bF aT aC aR bW bP bM := by
  have b1 := pp_b hpp (show k + 1 ≤ np + 1 by omega)
  intro d
  induction d with
  | zero =>
    intro j h hj
    have ej : nI (PT (k + 1)) - 1 = nI j := by rw [ca_s1 (by omega)]; exact congrArg nI (by omega)
    rw [ej] at hp
    refine ⟨vp_in_nI hr (by decide), br_f (by rw [rd (a := aT) rfl (by omega) eT]; exact nI_nlt (by omega) (by omega)) ⟨vp_in_nI hr (by decide), ?_⟩⟩
    by_cases hkn : k < np
    · have b2 := pp_b hpp (show k + 2 ≤ np + 1 by omega)
      refine br_f (by rw [rd (a := aT) rfl (by omega) eT]; exact nI_ge (by omega) (by omega)) ⟨vp_in_nI (by omega) (by decide), ?_⟩
      have := (hP k hk).2 hkn
      rw [show PT (k + 1) - 1 = j by omega] at this
      rw [rd (a := bP) rfl (by omega) this]
      exact hp
    · obtain rfl : k = np := by omega
      have := hpp.2.2.2.1
      refine br_t (by rw [rd (a := aT) rfl (by omega) eT]; exact nI_le (by omega) (by omega)) ⟨vp_in_nI hr (by decide), ?_⟩
      rw [hpp.2.2.1, ca_z] at hp
      rw [rd (a := aL) rfl (by omega) eL]
      exact hp
  | succ d ih =>
    intro j h hj
    refine ⟨vp_in_nI hr (by decide), br_f (by rw [rd (a := aT) rfl (by omega) eT]; exact nI_nlt (by omega) (by omega)) ⟨vp_in_nI hr (by decide), br_f (by rw [rd (a := aT) rfl (by omega) eT]; exact nI_ge (by omega) (by omega)) ⟨vp_in_nI (by omega) (by decide), ?_⟩⟩⟩
    rw [rd (a := bP) rfl (by omega) ((hP k hk).1 j hj (by omega))]
    exact br_t ca_n1 (nm_r (nI_1 j) (ih (j + 1) (by omega) (by omega)))
theorem cs_y {post : Int32 → SY → Prop} {r np m n : Nat} {PL PT : Nat → Nat} (hr : r < 3) (hm : m ≤ 20) (hn : n ≤ 20) (hpp : pp np m n PL PT) (hP : pYY bP np PL PT) (eL : aL r = nI m) (eT : aT r = nI n) (hp : post (nI (gc PL PT (np + 1))) (fp, fc, fs, aX, aS, bE, bD, bK, bU, bO, bV, aN, aL, bF, aT, aC, aR, bW, bP, bM)) : ∀ d k, k + d = np + 1 → ∃ F, wY_stretches_11 post (nI r) 0 F (nI (gc PL PT k)) (nI (PL k) - 1) (nI (PT k) - 1) (nI (PT k)) fp fc fs aX aS bE bD bK bU bO bV aN aL bF aT aC aR bW bP bM := by
  intro d
  induction d with
  | zero =>
    intro k h
    obtain rfl : k = np + 1 := by omega
    rw [hpp.2.2.2.1]
    exact ⟨1, ⟨vp_in_nI hr (by decide), br_t (by rw [rd (a := aT) rfl (by omega) eT]; exact nI_lt (by omega) (by omega)) hp⟩⟩
  | succ d ih =>
    intro k h
    obtain ⟨F, t⟩ := ih (k + 1) (by omega)
    have b0 := pp_b hpp (show k ≤ np + 1 by omega)
    have b1 := pp_b hpp (show k + 1 ≤ np + 1 by omega)
    have b2 := hpp.2.2.2.2 k (by omega)
    have g94 : ∀ x3, x3 = nI (gc PL PT (k + 1)) → wY_stretches_94 post (wY_stretches_11 post (nI r) 0 F) (nI r) 0 x3 (nI (PT (k + 1)) - 1) (nI (PL (k + 1)) - 1) fp fc fs aX aS bE bD bK bU bO bV aN aL bF aT aC aR bW bP bM := by
      intro x3 hx
      rw [hx]
      exact br_t rfl (nm_r (Int32.sub_add_cancel _ _) t)
    refine ⟨F + (PT (k + 1) - 1 - PT k) + 1, sk_y hr hm hn hpp hP (by omega) eL eT ?_ (PT (k + 1) - 1 - PT k) (PT k) (by omega) (Nat.le_refl _)⟩
    refine br_f (by rw [ca_s1 (by omega)]; exact nI_pos (by omega)) ?_
    rw [ca_dd (by omega), ca_dd (by omega)]
    by_cases hg : 1 < PL (k + 1) - PL k ∨ 1 < PT (k + 1) - PT k
    · have g74 : wY_stretches_74 post (wY_stretches_11 post (nI r) 0 F) (nI r) 0 (nI (gc PL PT k)) (nI (PL k) - 1) (nI (PT k) - 1) (nI (PT (k + 1)) - 1) (nI (PL (k + 1)) - 1) fp fc fs aX aS bE bD bK bU bO bV aN aL bF aT aC aR bW bP bM :=
        nm_r (nI_1 _) (br_t rfl (g94 _ (by rw [gc, if_pos hg])))
      exact pk_lt 1 (PL (k + 1) - PL k) (fun _ => g74) (fun h1 => pk_le (PT (k + 1) - PT k) 1 (fun h2 => absurd hg (by omega)) (fun _ => g74))
    · exact pk_lt 1 (PL (k + 1) - PL k) (fun h1 => absurd (Or.inl h1) hg) (fun h1 => pk_le (PT (k + 1) - PT k) 1 (fun _ => g94 _ (by rw [gc, if_neg hg])) (fun h2 => absurd (Or.inr h2) hg))
theorem cm_l {post : Int32 → SY → Prop} {r c0 x : Nat} {ret : Int32} {R0 : Nat → Int32} (hr : r < 3) (hc : c0 + x ≤ 16) (hp : post ret (fp, nI (c0 + x), fs, aX, aS, bE, bD, bK, bU, bO, bV, aN, aL, bF, aT, aC, upd R0 r (orb (R0 r) c0 x), bW, bP, bM)) : ∀ d e, e + d = x → wY_commit_90 post (nI r) ret fp (nI (c0 + x)) fs (d + 1) (nI (c0 + e)) aX aS bE bD bK bU bO bV aN aL bF aT aC (upd R0 r (orb (R0 r) c0 e)) bW bP bM := by
  intro d
  induction d with
  | zero =>
    intro e h
    obtain rfl : e = x := by omega
    exact br_t (nI_le (by omega) (by omega)) hp
  | succ d ih =>
    intro e h
    refine br_f (nI_ge (by omega) (by omega)) ⟨vp_in_nI hr (by decide), ⟨vp_in_nI hr (by decide), nm_r ((wr rfl (by omega) ?_).trans (ud_ud _ _ _ _)) (nm_r (nI_1 _) (ih (e + 1) (by omega)))⟩⟩
    rw [rd (a := upd R0 r (orb (R0 r) c0 e)) rfl (by omega) pk_us]
    rfl
end
end
section
/-! both sides, pair by pair -/
noncomputable def nvd (G0 H0 : Nat → Int32) (hd : Int32) (c0 : Nat) (N0 aG aH : Nat → Int32) (d : Nat) : Int32 := nval (fun u v => jn G0 H0 hd u v c0) N0 (fun k => aG (22 * (2 * d) + k)) ((aH (2 * d)).toNatClampNeg - 1)
def ci (r n np : Nat) (PL PT : Nat → Nat) (c0 : Nat) (G0 H0 N0 aF : Nat → Int32) (hd : Int32) (P c T : Nat) (aG aH aW bE bD bK bU bO bV bW aN : Nat → Int32) : Prop :=
  (∀ d, d < c → rl_C aG aH bE bD bK bU bO bV P d) ∧ (∀ d, c ≤ d → d < 16 → aH (2 * d) = 0 ∧ aH (2 * d + 1) = 0) ∧ (∀ x, x < 44 * c0 → aG x = G0 x) ∧ (∀ q, q < 2 * c0 → aH q = H0 q) ∧ (∀ j, j ≤ np + 1 → aW (PT j) = aF (22 * r + PL j)) ∧ (∀ j, j < T → j < n → bW j = aW (j + 1) ∧ ∃ l, l < P ∧ aW (j + 1) = nI l) ∧ (∀ d, c0 ≤ d → d < c → aN d = nvd G0 H0 hd c0 N0 aG aH d) ∧ (∀ d, ¬ (c0 ≤ d ∧ d < c) → aN d = N0 d)
theorem rs_c {aG aH aG' aH' A A' : Nat → Int32} {q b p p' : Nat} {e d k : Int32} (h : rl_S aG aH q e d k A b p) (hG : ∀ x, x < 22 → aG' (22 * q + x) = aG (22 * q + x)) (hH : aH' q = aH q) (hA : ∀ i, i < 20 → A' (b + i) = A (b + i)) (hp : p ≤ p') : rl_S aG' aH' q e d k A' b p' := by
  obtain ⟨t, ht, eK, eH, e1, e2, e3⟩ := h
  refine ⟨t, ht, eK, hH.trans eH, (hG 0 (by omega)).trans e1, ?_, fun i hi => ?_⟩
  · rw [Nat.add_assoc, hG (1 + t) (by omega), ← Nat.add_assoc]; exact e2
  · obtain ⟨a1, l, hl, a2⟩ := e3 i hi
    rw [Nat.add_assoc, hG (1 + i) (by omega), ← Nat.add_assoc, hA i (by omega)]
    exact ⟨a1, l, by omega, a2⟩
theorem ci_g {r m n np k c0 P c p0 : Nat} {PL PT : Nat → Nat} {G0 H0 N0 aF bF : Nat → Int32} {hd : Int32} {aG aH aW bE bD bK bU bO bV bW aN : Nat → Int32} (hm : m ≤ 20) (hn : n ≤ 20) (hpp : pp np m n PL PT) (hk : k ≤ np) (hc0 : c0 ≤ c) (hpP : p0 ≤ P) (hf : ∀ i, i < m → aF (22 * r + 1 + i) = bF (20 * r + i) ∧ ∃ l, l < p0 ∧ bF (20 * r + i) = nI l) (h : ci r n np PL PT c0 G0 H0 N0 aF hd P c (PT k) aG aH aW bE bD bK bU bO bV bW aN) :
    ci r n np PL PT c0 G0 H0 N0 aF hd (P + (PT (k + 1) - PT k - 1)) (c + 1) (PT (k + 1) - 1) (bk (bk aG (22 * (2 * c)) (22 * (2 * c) + (PL (k + 1) - PL k + 1)) (fun x => aF (22 * r + (PL k + (x - 22 * (2 * c)))))) (22 * (2 * c + 1)) (22 * (2 * c + 1) + (PT (k + 1) - PT k + 1)) (fun x => bk aW (PT k + 1) (PT k + 1 + (PT (k + 1) - PT k - 1)) (fun x => nI (P + (x - (PT k + 1)))) (PT k + (x - 22 * (2 * c + 1))))) (upd (upd aH (2 * c) (nI (PL (k + 1) - PL k + 1))) (2 * c + 1) (nI (PT (k + 1) - PT k + 1))) (bk aW (PT k + 1) (PT k + 1 + (PT (k + 1) - PT k - 1)) (fun x => nI (P + (x - (PT k + 1))))) (upd bE c (aF (22 * r + PL k))) (upd bD c (aF (22 * r + PL (k + 1)))) (upd bK c (nI (PL (k + 1) - PL k - 1))) (upd bU c (nI (PT (k + 1) - PT k - 1))) (bk bO (20 * c) (20 * c + (PL (k + 1) - PL k - 1)) (fun x => bF (20 * r + (PL k + (x - 20 * c))))) (bk bV (20 * c) (20 * c + (PT (k + 1) - PT k - 1)) (fun x => nI (P + (x - 20 * c)))) (bk bW (PT k) (PT k + (PT (k + 1) - PT k - 1)) (fun x => nI (P + (x - PT k)))) (upd aN c (nval (fun u v => jn G0 H0 hd u v c0) N0 (fun y => (bk (bk aG (22 * (2 * c)) (22 * (2 * c) + (PL (k + 1) - PL k + 1)) (fun x => aF (22 * r + (PL k + (x - 22 * (2 * c)))))) (22 * (2 * c + 1)) (22 * (2 * c + 1) + (PT (k + 1) - PT k + 1)) (fun x => bk aW (PT k + 1) (PT k + 1 + (PT (k + 1) - PT k - 1)) (fun x => nI (P + (x - (PT k + 1)))) (PT k + (x - 22 * (2 * c + 1))))) (22 * (2 * c) + y)) (PL (k + 1) - PL k + 1 - 1))) := by
  have b0 := pp_b hpp (show k ≤ np + 1 by omega)
  have b1 := pp_b hpp (show k + 1 ≤ np + 1 by omega)
  have b2 := hpp.2.2.2.2 k hk
  have hlo : ∀ j, j ≤ k → PT j ≤ PT k := fun j hj => by
    by_cases e : j = k
    · rw [e]; exact Nat.le_refl _
    · exact Nat.le_of_lt (pp_lt hpp (show j < k by omega) (by omega)).2
  have hhi : ∀ j, k + 1 ≤ j → j ≤ np + 1 → PT (k + 1) ≤ PT j := fun j hj hj2 => by
    by_cases e : j = k + 1
    · rw [e]; exact Nat.le_refl _
    · exact Nat.le_of_lt (pp_lt hpp (show k + 1 < j by omega) hj2).2
  obtain ⟨hC, hz, hG, hH, hW, hB, hN, hN'⟩ := h
  generalize eu : PL k = u at *
  generalize ev : PL (k + 1) = v at *
  generalize ea : PT k = a at *
  generalize eb : PT (k + 1) = b at *
  have wA : ∀ x, ¬ (a + 1 ≤ x ∧ x < b) → bk aW (a + 1) (a + 1 + (b - a - 1)) (fun x => nI (P + (x - (a + 1)))) x = aW x := fun x hx => bk_out (by omega)
  have hCd : ∀ d, d < c → (∀ x, x < 44 → (bk (bk aG (22 * (2 * c)) (22 * (2 * c) + (v - u + 1)) (fun x => aF (22 * r + (u + (x - 22 * (2 * c)))))) (22 * (2 * c + 1)) (22 * (2 * c + 1) + (b - a + 1)) (fun x => bk aW (a + 1) (a + 1 + (b - a - 1)) (fun x => nI (P + (x - (a + 1)))) (a + (x - 22 * (2 * c + 1))))) (44 * d + x) = aG (44 * d + x)) := fun d hd x hx => by
    rw [bk_lo (by omega), bk_lo (by omega)]
  refine ⟨fun d hd => ?_, fun d h1 h2 => ?_, fun x hx => ?_, fun q hq => ?_, fun j hj => ?_, fun j hj hjn => ?_, fun d h1 h2 => ?_, fun d h1 => ?_⟩
  · by_cases e : d = c
    · subst e
      refine ⟨⟨v - u - 1, by omega, pk_us, ?_, ?_, ?_, fun i hi => ?_⟩, ⟨b - a - 1, by omega, pk_us, ?_, ?_, ?_, fun i hi => ?_⟩⟩
      · rw [pk_un (by omega), pk_us]; exact congrArg nI (by omega)
      · rw [pk_us, bk_lo (by omega), bk_in (Nat.le_refl _) (by omega), Nat.sub_self]; rfl
      · rw [pk_us, bk_lo (by omega), bk_in (by omega) (by omega)]; exact congrArg aF (by omega)
      · obtain ⟨a1, l, hl, a2⟩ := hf (u + i) (by omega)
        rw [bk_lo (by omega), bk_in (by omega) (by omega), bk_in (by omega) (by omega), show 20 * d + i - 20 * d = i by omega, ← a1]
        exact ⟨congrArg aF (by omega), l, by omega, a1.trans a2⟩
      · rw [pk_us]; exact congrArg nI (by omega)
      · rw [pk_us, bk_in (Nat.le_refl _) (by omega), Nat.sub_self, wA _ (by omega), Nat.add_zero, ← ea, hW k (by omega), eu]
      · rw [pk_us, bk_in (by omega) (by omega), wA _ (by omega), show a + (22 * (2 * d + 1) + 1 + (b - a - 1) - 22 * (2 * d + 1)) = b by omega, ← eb, hW (k + 1) (by omega), ev]
      · rw [bk_in (by omega) (by omega), bk_in (by omega) (by omega), bk_in (by omega) (by omega)]
        exact ⟨congrArg nI (by omega), P + (20 * d + i - 20 * d), by omega, rfl⟩
    · obtain ⟨s0, s1⟩ := hC d (by omega)
      have hx := hCd d (by omega)
      refine ⟨?_, ?_⟩
      · rw [pk_un (by omega), pk_un (by omega), pk_un (by omega)]
        refine rs_c s0 (fun x hx2 => ?_) (by rw [pk_un (by omega), pk_un (by omega)]) (fun i hi => bk_lo (by omega)) (by omega)
        have := hx x (by omega)
        rw [show 22 * (2 * d) + x = 44 * d + x by omega]; exact this
      · rw [pk_un (by omega), pk_un (by omega), pk_un (by omega)]
        refine rs_c s1 (fun x hx2 => ?_) (by rw [pk_un (by omega), pk_un (by omega)]) (fun i hi => bk_lo (by omega)) (by omega)
        have := hx (22 + x) (by omega)
        rw [show 22 * (2 * d + 1) + x = 44 * d + (22 + x) by omega]; exact this
  · rw [pk_un (by omega), pk_un (by omega), pk_un (by omega), pk_un (by omega)]; exact hz d (by omega) h2
  · rw [bk_lo (by omega), bk_lo (by omega)]; exact hG x hx
  · rw [pk_un (by omega), pk_un (by omega)]; exact hH q hq
  · rw [wA]
    · exact hW j hj
    · by_cases e : j ≤ k
      · have := hlo j e; omega
      · have := hhi j (by omega) hj; omega
  · by_cases e : j < a
    · rw [bk_lo e, wA _ (by omega)]
      obtain ⟨a1, l, hl, a2⟩ := hB j e hjn
      exact ⟨a1, l, by omega, a2⟩
    · rw [bk_in (by omega) (by omega), bk_in (by omega) (by omega)]
      exact ⟨congrArg nI (by omega), P + (j + 1 - (a + 1)), by omega, rfl⟩
  · by_cases e : d = c
    · subst e
      rw [pk_us]
      unfold nvd
      rw [pk_un (by omega), pk_us, nI_clamp (by omega)]
    · rw [pk_un e, hN d h1 (by omega)]
      unfold nvd
      obtain ⟨⟨t, ht, eK, eH, -⟩, -⟩ := hC d (by omega)
      rw [pk_un (by omega), pk_un (by omega), eH, nI_clamp (by omega)]
      refine nval_c _ (fun y hy => ?_)
      have := hCd d (by omega) y (by omega)
      rw [show 22 * (2 * d) + y = 44 * d + y by omega, this]
  · rw [pk_un (by omega)]; exact hN' d (by omega)
end
section
section
variable {fp fc ft fr : Int32} {aF aL aC aT aR aX aS aG aH aN aW aM aP aQ : Nat → Int32} {fs : Int32} {bE bD bK bU bO bV bF bW bP bM : Nat → Int32}
theorem st_94 {r m n np k c0 p0 P c : Nat} {PL PT : Nat → Nat} {G0 H0 N0 : Nat → Int32} {hd : Int32} (hr : r < 3) (hm : m ≤ 20) (hn : n ≤ 20) (hpp : pp np m n PL PT) (hk : k ≤ np) (hpP : p0 ≤ P) (eT : aT r = nI n) (hf : ∀ i, i < m → aF (22 * r + 1 + i) = bF (20 * r + i) ∧ ∃ l, l < p0 ∧ bF (20 * r + i) = nI l) (h : ci r n np PL PT c0 G0 H0 N0 aF hd P c (PT (k + 1) - 1) aG aH aW bE bD bK bU bO bV bW aN) : ∃ bW', ci r n np PL PT c0 G0 H0 N0 aF hd P c (PT (k + 1)) aG aH aW bE bD bK bU bO bV bW' aN ∧ ∀ (bP bM : Nat → Int32) (post : Int32 → SY → Prop) (F : Nat) (x3 : Int32), wY_stretches_11 post (nI r) 1 F x3 (nI (PL (k + 1)) - 1) (nI (PT (k + 1)) - 1) (nI (PT (k + 1))) fp fc fs aX aS bE bD bK bU bO bV aN aL bF aT aC aR bW' bP bM → wY_stretches_94 post (wY_stretches_11 post (nI r) 1 F) (nI r) 1 x3 (nI (PT (k + 1)) - 1) (nI (PL (k + 1)) - 1) fp fc fs aX aS bE bD bK bU bO bV aN aL bF aT aC aR bW bP bM := by
  have b1 := pp_b hpp (show k + 1 ≤ np + 1 by omega)
  obtain ⟨hC, hz, hG, hH, hW, hB, hN, hN'⟩ := h
  by_cases hkn : k < np
  · have b2 := pp_b hpp (show k + 2 ≤ np + 1 by omega)
    have e1 : 20 * nI r + (nI (PL (k + 1)) - 1) = nI (20 * r + (PL (k + 1) - 1)) := by rw [ca_s1 (by omega), ya]
    have e2 : nI (PT (k + 1)) - 1 = nI (PT (k + 1) - 1) := ca_s1 (by omega)
    refine ⟨upd bW (PT (k + 1) - 1) (bF (20 * r + (PL (k + 1) - 1))), ⟨hC, hz, hG, hH, hW, fun j h1 h2 => ?_, hN, hN'⟩, fun bP bM post F x3 t => ?_⟩
    · by_cases e : j = PT (k + 1) - 1
      · obtain ⟨a1, l, hl, a2⟩ := hf (PL (k + 1) - 1) (by omega)
        have a3 := hW (k + 1) (by omega)
        rw [show PT (k + 1) = j + 1 by omega] at a3
        have a4 : aW (j + 1) = bF (20 * r + (PL (k + 1) - 1)) := by
          rw [a3, ← a1]; exact congrArg aF (by omega)
        rw [e, pk_us, ← e, a4]
        exact ⟨rfl, l, by omega, a2⟩
      · rw [pk_un e]; exact hB j (by omega) h2
    · exact br_f ca_10 ⟨vp_in_nI hr (by decide), br_f (by rw [rd (a := aT) rfl (by omega) eT, e2]; exact nI_ge (by omega) (by omega)) ⟨pk_in _ 60 (by omega) e1, ⟨pk_in (PT (k + 1) - 1) 20 (by omega) e2, nm_r (wr e2 (by omega) (rd (a := bF) e1 (by omega) rfl)) (nm_r (Int32.sub_add_cancel _ _) t)⟩⟩⟩
  · obtain rfl : k = np := by omega
    have e3 := hpp.2.2.2.1
    have e2 : nI (PT (k + 1)) - 1 = nI (PT (k + 1) - 1) := ca_s1 (by omega)
    refine ⟨bW, ⟨hC, hz, hG, hH, hW, fun j h1 h2 => hB j (by omega) h2, hN, hN'⟩, fun bP bM post F x3 t => ?_⟩
    exact br_f ca_10 ⟨vp_in_nI hr (by decide), br_t (by rw [rd (a := aT) rfl (by omega) eT, e2]; exact nI_le (by omega) (by omega)) (nm_r (Int32.sub_add_cancel _ _) t)⟩
theorem st_k {r m n np k c0 p0 : Nat} {PL PT : Nat → Nat} {G0 H0 N0 R0 : Nat → Int32} (hr : r < 3) (hm : m ≤ 20) (hn : n ≤ 20) (hpp : pp np m n PL PT) (hPX : pXX aP aQ np PL PT) (hk : k ≤ np) (eL : aL r = nI m) (eT : aT r = nI n) (e60 : aF (22 * r) = 60) (e61 : aF (22 * r + 1 + m) = 61) (hf : ∀ i, i < m → aF (22 * r + 1 + i) = bF (20 * r + i) ∧ ∃ l, l < p0 ∧ bF (20 * r + i) = nI l) (hc16 : c0 + gc PL PT (np + 1) ≤ 16) (hp60 : p0 + n - np ≤ 60) (hb : ∀ d, c0 ≤ d → d < 32 → bt (R0 r) d = false) (hl : ∀ q, q < 2 * c0 → (H0 q).toNatClampNeg ≤ 22) (h : ci r n np PL PT c0 G0 H0 N0 aF (R0 r) (p0 + PT k - k) (c0 + gc PL PT k) (PT k) aG aH aW bE bD bK bU bO bV bW aN) :
    ∃ (aX' aS' aG' aH' aW' bE' bD' bK' bU' bO' bV' bW' aN' : Nat → Int32), ci r n np PL PT c0 G0 H0 N0 aF (R0 r) (p0 + PT (k + 1) - (k + 1)) (c0 + gc PL PT (k + 1)) (PT (k + 1)) aG' aH' aW' bE' bD' bK' bU' bO' bV' bW' aN' ∧ (∀ (post : SX → Prop) (F : Nat) (hd c : Int32), wX_recordGaps_76 post (nI r) hd c F (nI (k + 1)) (nI (p0 + PT (k + 1) - (k + 1))) (nI (c0 + gc PL PT (k + 1))) ft (nI np) aF aL aC aT (upd R0 r (orb (R0 r) c0 (gc PL PT (k + 1)))) aX' aS' aG' aH' N0 aW' aM aP aQ → wX_recordGaps_76 post (nI r) hd c (F + 1) (nI k) (nI (p0 + PT k - k)) (nI (c0 + gc PL PT k)) ft (nI np) aF aL aC aT (upd R0 r (orb (R0 r) c0 (gc PL PT k))) aX aS aG aH N0 aW aM aP aQ) ∧ (∀ (bP bM : Nat → Int32), pYY bP np PL PT → ∀ (post : Int32 → SY → Prop) (F : Nat), wY_stretches_11 post (nI r) 1 F (nI (gc PL PT (k + 1))) (nI (PL (k + 1)) - 1) (nI (PT (k + 1)) - 1) (nI (PT (k + 1))) (nI (p0 + PT (k + 1) - (k + 1))) (nI (c0 + gc PL PT (k + 1))) fs aX' aS' bE' bD' bK' bU' bO' bV' aN' aL bF aT aC R0 bW' bP bM → ∃ F', wY_stretches_11 post (nI r) 1 F' (nI (gc PL PT k)) (nI (PL k) - 1) (nI (PT k) - 1) (nI (PT k)) (nI (p0 + PT k - k)) (nI (c0 + gc PL PT k)) fs aX aS bE bD bK bU bO bV aN aL bF aT aC R0 bW bP bM) := by
  have b0 := pp_b hpp (show k ≤ np + 1 by omega)
  have b1 := pp_b hpp (show k + 1 ≤ np + 1 by omega)
  have b2 := hpp.2.2.2.2 k hk
  have bn := pp_b hpp (Nat.le_refl (np + 1))
  obtain ⟨p1, p2⟩ := hPX k (by omega)
  obtain ⟨p3, p4⟩ := hPX (k + 1) (by omega)
  have gm := gc_m PL PT (np + 1 - (k + 1)) (k + 1)
  rw [show k + 1 + (np + 1 - (k + 1)) = np + 1 by omega] at gm
  by_cases hg : 1 < PL (k + 1) - PL k ∨ 1 < PT (k + 1) - PT k
  · have eg : gc PL PT (k + 1) = gc PL PT k + 1 := by rw [gc, if_pos hg]
    have eP : p0 + PT k - k + (PT (k + 1) - PT k - 1) = p0 + PT (k + 1) - (k + 1) := by omega
    have hci := ci_g hm hn hpp hk (by omega) (show p0 ≤ p0 + PT k - k by omega) hf h
    obtain ⟨z1, z2⟩ := h.2.1 (c0 + gc PL PT k) (Nat.le_refl _) (by omega)
    have hNn := h.2.2.2.2.2.2.2
    have hci0 := hci
    rw [eP] at hci
    obtain ⟨bW', hci2, h94⟩ := st_94 (fp := nI (p0 + PT (k + 1) - (k + 1))) (fc := nI (c0 + gc PL PT k + 1)) (fs := fs) (aL := aL) (aC := aC) (aR := R0) (aX := bk aX (p0 + PT k - k) (p0 + PT k - k + (PT (k + 1) - PT k - 1)) (fun x => aC (20 * r + (PT k + (x - (p0 + PT k - k)))))) (aS := bk aS (p0 + PT k - k) (p0 + PT k - k + (PT (k + 1) - PT k - 1)) (fun _ => nI (c0 + gc PL PT k))) (p0 := p0) hr hm hn hpp hk (by omega) eT hf hci
    refine ⟨bk aX (p0 + PT k - k) (p0 + PT k - k + (PT (k + 1) - PT k - 1)) (fun x => aC (20 * r + (PT k + (x - (p0 + PT k - k))))), bk aS (p0 + PT k - k) (p0 + PT k - k + (PT (k + 1) - PT k - 1)) (fun _ => nI (c0 + gc PL PT k)), _, _, _, _, _, _, _, _, _, _, _, by rw [eg]; exact hci2, fun post F hd c t => ?_, fun bP bM hPY post F t => ?_⟩
    · rw [eg] at t
      refine br_f (nI_nlt (by omega) (by omega)) (ig_x hm hn hpp hPX hk (fun _ => br_f ca_10 (rg_x (a := PT k) (b := PT (k + 1)) (u := PL k) (v := PL (k + 1)) hr (by omega) (by omega) b2.2 (by omega) b2.1 (by omega) (by omega) p2 p4 p1 p3 z1 z2 (nm_r (nI_1 k) ?_))) (fun z => absurd hg z))
      rw [ud_ud, pk_us, eP]
      rw [eP] at t
      exact t
    · rw [eg] at t
      have g94 := h94 bP bM post F (nI (gc PL PT k + 1)) t
      refine ⟨F + (PT (k + 1) - 1 - PT k) + 1, sk_y hr hm hn hpp hPY hk eL eT ?_ (PT (k + 1) - 1 - PT k) (PT k) (by omega) (Nat.le_refl _)⟩
      refine br_f (by rw [ca_s1 (by omega)]; exact nI_pos (by omega)) ?_
      rw [ca_dd (by omega), ca_dd (by omega)]
      have g74 : wY_stretches_74 post (wY_stretches_11 post (nI r) 1 F) (nI r) 1 (nI (gc PL PT k)) (nI (PL k) - 1) (nI (PT k) - 1) (nI (PT (k + 1)) - 1) (nI (PL (k + 1)) - 1) (nI (p0 + PT k - k)) (nI (c0 + gc PL PT k)) fs aX aS bE bD bK bU bO bV aN aL bF aT aC R0 bW bP bM := by
        refine nm_r (nI_1 _) (br_f ca_10 (mc_y (m := m) (aF := aF) hr (by omega) hm b2.2 (by omega) b2.1 (by omega) (by omega) eL e60 e61 (fun i hi => (hf i hi).1) ?_))
        obtain ⟨t0, hS0⟩ : ∃ t, sd _ _ (2 * (c0 + gc PL PT k)) _ _ _ _ (20 * (c0 + gc PL PT k)) _ t := (hci0.1 (c0 + gc PL PT k) (by omega)).1
        have et : t0 + 2 = PL (k + 1) - PL k + 1 := by
          have e1 := hS0.2.2.1
          rw [pk_un (by omega), pk_us] at e1
          have := (nI_eq (by omega) (by have := hS0.1; omega)).mp e1
          omega
        refine fs_y (P := p0 + PT k - k + (PT (k + 1) - PT k - 1)) (len := PL (k + 1) - PL k + 1) (J := fun u v => jn G0 H0 (R0 r) u v c0) (N0 := N0) (B := fun y => (bk (bk aG (22 * (2 * (c0 + gc PL PT k))) (22 * (2 * (c0 + gc PL PT k)) + (PL (k + 1) - PL k + 1)) (fun x => aF (22 * r + (PL k + (x - 22 * (2 * (c0 + gc PL PT k))))))) (22 * (2 * (c0 + gc PL PT k) + 1)) (22 * (2 * (c0 + gc PL PT k) + 1) + (PT (k + 1) - PT k + 1)) (fun x => bk aW (PT k + 1) (PT k + 1 + (PT (k + 1) - PT k - 1)) (fun x => nI (p0 + PT k - k + (x - (PT k + 1)))) (PT k + (x - 22 * (2 * (c0 + gc PL PT k) + 1))))) (22 * (2 * (c0 + gc PL PT k)) + y)) hr (by omega) (by omega) (by omega) (fun e he => hci0.1 e (by omega)) (fun aN => ?_) (fun aN => ?_) (fun u v => ?_) (fun u v e he => ?_) (nm_r (nI_1 _) ?_)
        · rw [← et]; exact ln_0 (by omega) hS0
        · exact fun post y hy hq => me_0 (by omega) hS0 post y (by omega) hq
        · rw [jn_h hb (gc PL PT k) (by omega)]
          exact jn_c hci0.2.2.1 hci0.2.2.2.1 hl c0 (Nat.le_refl _)
        · have := (jn_s he).1
          exact ⟨by omega, hNn e (by omega)⟩
        · rw [eP] at g94 ⊢
          exact g94
      exact pk_lt 1 (PL (k + 1) - PL k) (fun _ => g74) (fun h1 => pk_le (PT (k + 1) - PT k) 1 (fun h2 => absurd hg (by omega)) (fun _ => g74))
  · have eg : gc PL PT (k + 1) = gc PL PT k := by rw [gc, if_neg hg]
    have eP : p0 + PT (k + 1) - (k + 1) = p0 + PT k - k := by omega
    have h' := h
    rw [show PT k = PT (k + 1) - 1 by omega] at h'
    rw [show p0 + (PT (k + 1) - 1) - k = p0 + PT k - k by omega] at h'
    obtain ⟨bW', hci2, h94⟩ := st_94 (fp := nI (p0 + PT k - k)) (fc := nI (c0 + gc PL PT k)) (fs := fs) (aL := aL) (aC := aC) (aR := R0) (aX := aX) (aS := aS) (p0 := p0) hr hm hn hpp hk (by omega) eT hf h'
    rw [eg, eP]
    refine ⟨aX, aS, aG, aH, aW, bE, bD, bK, bU, bO, bV, bW', aN, hci2, fun post F hd c t => ?_, fun bP bM hPY post F t => ?_⟩
    · exact br_f (nI_nlt (by omega) (by omega)) (ig_x hm hn hpp hPX hk (fun z => absurd z hg) (fun _ => br_t rfl (nm_r (nI_1 k) t)))
    · have g94 := h94 bP bM post F (nI (gc PL PT k)) t
      refine ⟨F + (PT (k + 1) - 1 - PT k) + 1, sk_y hr hm hn hpp hPY hk eL eT ?_ (PT (k + 1) - 1 - PT k) (PT k) (by omega) (Nat.le_refl _)⟩
      refine br_f (by rw [ca_s1 (by omega)]; exact nI_pos (by omega)) ?_
      rw [ca_dd (by omega), ca_dd (by omega)]
      exact pk_lt 1 (PL (k + 1) - PL k) (fun h1 => absurd (Or.inl h1) hg) (fun h1 => pk_le (PT (k + 1) - PT k) 1 (fun _ => g94) (fun h2 => absurd (Or.inr h2) hg))
end
end
section
section
variable {ft fr fs : Int32} {aF aL aC aT aM aP aQ bF : Nat → Int32}
theorem st_all {r m n np c0 p0 : Nat} {PL PT : Nat → Nat} {G0 H0 N0 R0 : Nat → Int32} (hr : r < 3) (hm : m ≤ 20) (hn : n ≤ 20) (hpp : pp np m n PL PT) (hPX : pXX aP aQ np PL PT) (eL : aL r = nI m) (eT : aT r = nI n) (e60 : aF (22 * r) = 60) (e61 : aF (22 * r + 1 + m) = 61) (hf : ∀ i, i < m → aF (22 * r + 1 + i) = bF (20 * r + i) ∧ ∃ l, l < p0 ∧ bF (20 * r + i) = nI l) (hc16 : c0 + gc PL PT (np + 1) ≤ 16) (hp60 : p0 + n - np ≤ 60) (hb : ∀ d, c0 ≤ d → d < 32 → bt (R0 r) d = false) (hl : ∀ q, q < 2 * c0 → (H0 q).toNatClampNeg ≤ 22) : ∀ d k, k + d = np + 1 → ∀ (aX aS aG aH aW bE bD bK bU bO bV bW aN : Nat → Int32), ci r n np PL PT c0 G0 H0 N0 aF (R0 r) (p0 + PT k - k) (c0 + gc PL PT k) (PT k) aG aH aW bE bD bK bU bO bV bW aN →
    ∃ (aX' aS' aG' aH' aW' bE' bD' bK' bU' bO' bV' bW' aN' : Nat → Int32), ci r n np PL PT c0 G0 H0 N0 aF (R0 r) (p0 + n - np) (c0 + gc PL PT (np + 1)) (n + 1) aG' aH' aW' bE' bD' bK' bU' bO' bV' bW' aN' ∧ (∀ (post : SX → Prop) (hd c : Int32), (∃ x, wX_recordGaps_110 post (nI r) hd (nI (p0 + n - np)) (nI (c0 + gc PL PT (np + 1))) ft (nI np) x c aF aL aC aT (upd R0 r (orb (R0 r) c0 (gc PL PT (np + 1)))) aX' aS' aG' aH' N0 aW' aM aP aQ) → ∃ F, wX_recordGaps_76 post (nI r) hd c F (nI k) (nI (p0 + PT k - k)) (nI (c0 + gc PL PT k)) ft (nI np) aF aL aC aT (upd R0 r (orb (R0 r) c0 (gc PL PT k))) aX aS aG aH N0 aW aM aP aQ) ∧ (∀ (bP bM : Nat → Int32), pYY bP np PL PT → ∀ (post : Int32 → SY → Prop), post (nI (gc PL PT (np + 1))) (nI (p0 + n - np), nI (c0 + gc PL PT (np + 1)), fs, aX', aS', bE', bD', bK', bU', bO', bV', aN', aL, bF, aT, aC, R0, bW', bP, bM) → ∃ F', wY_stretches_11 post (nI r) 1 F' (nI (gc PL PT k)) (nI (PL k) - 1) (nI (PT k) - 1) (nI (PT k)) (nI (p0 + PT k - k)) (nI (c0 + gc PL PT k)) fs aX aS bE bD bK bU bO bV aN aL bF aT aC R0 bW bP bM) := by
  have bn := pp_b hpp (Nat.le_refl (np + 1))
  intro d
  induction d with
  | zero =>
    intro k h aX aS aG aH aW bE bD bK bU bO bV bW aN hci
    obtain rfl : k = np + 1 := by omega
    have e1 := hpp.2.2.2.1
    have e2 : p0 + PT (np + 1) - (np + 1) = p0 + n - np := by omega
    rw [e2, e1] at hci
    rw [e2, e1]
    refine ⟨aX, aS, aG, aH, aW, bE, bD, bK, bU, bO, bV, bW, aN, hci, fun post hd c t => ⟨1, br_t (nI_lt (by omega) (by omega)) t⟩, fun bP bM hPY post t => ⟨1, ⟨vp_in_nI hr (by decide), br_t (by rw [rd (a := aT) rfl (by omega) eT]; exact nI_lt (by omega) (by omega)) t⟩⟩⟩
  | succ d ih =>
    intro k h aX aS aG aH aW bE bD bK bU bO bV bW aN hci
    obtain ⟨aX1, aS1, aG1, aH1, aW1, bE1, bD1, bK1, bU1, bO1, bV1, bW1, aN1, hci1, hX1, hY1⟩ := st_k (ft := ft) (fs := fs) (aC := aC) (aX := aX) (aS := aS) (aM := aM) hr hm hn hpp hPX (by omega) eL eT e60 e61 hf hc16 hp60 hb hl hci
    obtain ⟨aX2, aS2, aG2, aH2, aW2, bE2, bD2, bK2, bU2, bO2, bV2, bW2, aN2, hci2, hX2, hY2⟩ := ih (k + 1) (by omega) aX1 aS1 aG1 aH1 aW1 bE1 bD1 bK1 bU1 bO1 bV1 bW1 aN1 hci1
    refine ⟨aX2, aS2, aG2, aH2, aW2, bE2, bD2, bK2, bU2, bO2, bV2, bW2, aN2, hci2, fun post hd c t => ?_, fun bP bM hPY post t => ?_⟩
    · obtain ⟨F, t2⟩ := hX2 post hd c t
      exact ⟨_, hX1 post F hd c t2⟩
    · obtain ⟨F, t2⟩ := hY2 bP bM hPY post t
      exact hY1 bP bM hPY post F t2
end
section
variable {fp fc ft fr : Int32} {aF aL aC aT aR aX aS aG aH aN aW aM aP aQ : Nat → Int32}
theorem rr_x {post : SX → Prop} {r n c0 N : Nat} {hd : Int32} {J : Int32 → Int32 → Nat} {N0 : Nat → Int32} (hr : r < 3) (hn : n ≤ 20) (hN : N ≤ 16) (hH : ∀ e, e < N → ∃ len, 1 ≤ len ∧ len ≤ 22 ∧ aH (2 * e + 1) = nI len) (hH' : ∀ e, e < N → ∃ len, 1 ≤ len ∧ len ≤ 22 ∧ aH (2 * e) = nI len) (hJ : ∀ u v, jn aG aH hd u v N = J u v) (hJc : ∀ u v e, J u v = e + 1 → e < c0) (hc0 : c0 ≤ N) (hp : post (fp, nI N, nI (n + 2), fr, bk aF (22 * r) (22 * r + (n + 2)) (fun j => aW (j - 22 * r)), upd aL r (nI n), aC, aT, aR, aX, aS, aG, aH, bk N0 c0 N (fun d => nval J N0 (fun k => aG (22 * (2 * d) + k)) ((aH (2 * d)).toNatClampNeg - 1)), aW, aM, aP, aQ)) : ∃ x, wX_recordGaps_110 post (nI r) hd fp (nI N) (nI (n + 2)) fr x (nI c0) aF aL aC aT aR aX aS aG aH N0 aW aM aP aQ := by
  have t := rr_l hr hn hN hH hH' hJ hJc hc0 hp (N - c0) c0 (by omega) (Nat.le_refl _)
  rw [bk_0 (Nat.le_refl _)] at t
  exact ⟨_, t⟩
end
theorem pp_ex {q : Nat → Nat → Bool} {m n : Nat} {s : Nat × (Nat → Nat) × (Nat → Nat)} (h : gI q m n m s) : ∃ PL PT : Nat → Nat, pp s.1 m n PL PT ∧ ∀ k, k ≤ s.1 → PL k = s.2.1 k ∧ PT k = s.2.2 k :=
  ⟨_, _, pp_gs h, fun k hk => ⟨if_pos hk, if_pos hk⟩⟩
theorem pYY_of {m n : Nat} {bP : Nat → Int32} {s : Nat × (Nat → Nat) × (Nat → Nat)} {PL PT : Nat → Nat} (hn : n ≤ 20) (hpp : pp s.1 m n PL PT) (hs : ∀ k, k ≤ s.1 → PL k = s.2.1 k ∧ PT k = s.2.2 k) (hP : pY bP s) : pYY bP s.1 PL PT := by
  intro k hk
  have b1 := pp_b hpp (show k + 1 ≤ s.1 + 1 by omega)
  refine ⟨fun j h1 h2 => ?_, fun h1 => ?_⟩
  · refine hP.2 j (by omega) (fun x hx e => ?_)
    rw [← (hs (x + 1) (by omega)).2] at e
    by_cases hxk : x + 1 ≤ k
    · by_cases e2 : x + 1 = k
      · rw [e2] at e; omega
      · have := (pp_lt hpp (show x + 1 < k by omega) (by omega)).2
        omega
    · by_cases e2 : x = k
      · rw [e2] at e; omega
      · have := (pp_lt hpp (show k + 1 < x + 1 by omega) (by omega)).2
        omega
  · rw [(hs (k + 1) (by omega)).1, (hs (k + 1) (by omega)).2, hP.1 k h1]
    have := (hs (k + 1) (by omega)).1
    exact (ca_s1 (by omega)).symm
theorem pXX_of {m n : Nat} {aP aQ : Nat → Int32} {s : Nat × (Nat → Nat) × (Nat → Nat)} {PL PT : Nat → Nat} (hpp : pp s.1 m n PL PT) (hs : ∀ k, k ≤ s.1 → PL k = s.2.1 k ∧ PT k = s.2.2 k) (h : pX aP aQ s) (h1 : aP (s.1 + 1) = nI (m + 1)) (h2 : aQ (s.1 + 1) = nI (n + 1)) : pXX aP aQ s.1 PL PT := by
  intro k hk
  by_cases e : k ≤ s.1
  · rw [(hs k e).1, (hs k e).2]; exact h k e
  · obtain rfl : k = s.1 + 1 := by omega
    rw [hpp.2.2.1, hpp.2.2.2.1]
    exact ⟨h1, h2⟩
end
section
theorem i_vc_commit {k : Nat} {u : SX} {v : SY} (I : i_Rel k u v) (hk : k + 4 ≤ 2048) (v1 : Int32) : wpX_commit (fun r u' => wpY_commit (fun r' v' => r' = r ∧ i_Rel (k + 4) u' v') v v1) u v1 := by
  have J := i_up I
  obtain ⟨p, c, ft, fr, fs, aF, aL, aC, aT, aR, aX, aS, aG, aH, aN, aW, aM, aP, aQ, bE, bD, bK, bU, bO, bV, bF, bW, bP, bM, rfl, rfl, hR⟩ := I
  unfold wpX_commit wpY_commit
  rcases rm_c v1 with ⟨r, hr, rfl⟩ | hb
  · have hR0 := hR
    obtain ⟨hp, hc, hF, hT, hG, hz, hA, hN⟩ := hR
    obtain ⟨m, hm, eL, e60, e61, hf⟩ := hF r hr
    obtain ⟨n, hn, eT⟩ := hT r hr
    have hf' : ∀ i, i < m → aF (22 * r + 1 + i) = bF (20 * r + i) ∧ ∃ l, l < 60 ∧ bF (20 * r + i) = nI l := fun i hi => by
      obtain ⟨a, l, hl, b⟩ := hf i hi
      exact ⟨a, l, by omega, b⟩
    have gI := gI_i (q := fit aX aC bF r) (m := m) (n := n) m (Nat.le_refl _)
    obtain ⟨PL, PT, hpp, hs⟩ := pp_ex gI
    have eT' : aT (nI r).toNatClampNeg = nI n := rd rfl (by omega) eT
    have er : aR (nI r).toNatClampNeg = aR r := rd rfl (by omega) rfl
    have bn := pp_b hpp (Nat.le_refl _)
    have bg := gc_le PL PT ((gs (fit aX aC bF r) m n m).1 + 1)
    have e1 : nI c + nI (gc PL PT ((gs (fit aX aC bF r) m n m).1 + 1)) = nI (c + gc PL PT ((gs (fit aX aC bF r) m n m).1 + 1)) := nI_add _ _
    have e2 : nI p + nI n - nI (gs (fit aX aC bF r) m n m).1 = nI (p + n - (gs (fit aX aC bF r) m n m).1) := by rw [nI_add, pk_sub (by omega)]
    refine rx_1 hr (br_f ca_10 (mt_X hr hm hn eL eT hf' (fun aM aP aQ hx1 hx2 hx3 => ⟨_, cg_x hm hn hpp (pXX_of hpp hs hx1 hx2 hx3) ?_ ((gs (fit aX aC bF r) m n m).1 + 1) 0 (by omega)⟩)))
    have hPX := pXX_of hpp hs hx1 hx2 hx3
    by_cases h16 : c + gc PL PT ((gs (fit aX aC bF r) m n m).1 + 1) ≤ 16
    · refine br_t (by rw [e1]; exact nI_le (b := 16) h16 (by decide)) ⟨vp_in_nI hr (by decide), ?_⟩
      rw [eT', e2]
      by_cases h60 : p + n - (gs (fit aX aC bF r) m n m).1 ≤ 60
      · refine br_t (nI_le (b := 60) h60 (by decide)) ?_
        refine ⟨vp_in_nI hr (by decide), nm_r er ⟨_, it_l hr hm hn hpp hPX eT (fun aW hW => ?_) ((gs (fit aX aC bF r) m n m).1 + 2) 0 (by omega) aW (fun j h => absurd h (Nat.not_lt_zero j))⟩⟩
        have hl : ∀ q, q < 2 * c → (aH q).toNatClampNeg ≤ 22 := by
          intro q hq
          obtain ⟨⟨t, ht, -, eH, -⟩, ⟨o, ho, -, eH2, -⟩⟩ := hG (q / 2) (by omega)
          by_cases e : q = 2 * (q / 2)
          · rw [← e] at eH; rw [eH, nI_clamp (by omega)]; omega
          · rw [show 2 * (q / 2) + 1 = q by omega] at eH2; rw [eH2, nI_clamp (by omega)]; omega
        have hci : ci r n (gs (fit aX aC bF r) m n m).1 PL PT c aG aH aN aF (aR r) (p + PT 0 - 0) (c + gc PL PT 0) (PT 0) aG aH aW bE bD bK bU bO bV bW aN := by
          rw [hpp.2.1]
          exact ⟨hG, hz, fun _ _ => rfl, fun _ _ => rfl, hW, fun j h => absurd h (Nat.not_lt_zero j), fun d h1 h2 => absurd h2 (Nat.not_lt.mpr h1), fun _ _ => rfl⟩
        obtain ⟨aX', aS', aG', aH', aW', bE', bD', bK', bU', bO', bV', bW', aN', hci', hX, hY⟩ := st_all (ft := nI (n + 2)) (fs := fs) (aC := aC) (aM := aM) hr hm hn hpp hPX eL eT e60 e61 hf h16 h60 (hA r hr) hl ((gs (fit aX aC bF r) m n m).1 + 1) 0 (by omega) aX aS aG aH aW bE bD bK bU bO bV bW aN hci
        have eR : upd aR r (orb (aR r) c (gc PL PT 0)) = aR := ud_id aR r
        rw [eR, hpp.2.1] at hX
        rw [hpp.2.1, hpp.1] at hY
        obtain ⟨hC, hz', hGe, hHe, hWe, hBe, hNe, hNe'⟩ := hci'
        have hJ : ∀ u v, jn aG' aH' (aR r) u v (c + gc PL PT ((gs (fit aX aC bF r) m n m).1 + 1)) = (fun u v => jn aG aH (aR r) u v c) u v := by
          intro u v
          rw [jn_h (hA r hr) _ (by omega)]
          exact jn_c hGe hHe hl c (Nat.le_refl _)
        have eN : bk aN c (c + gc PL PT ((gs (fit aX aC bF r) m n m).1 + 1)) (fun d => nval (fun u v => jn aG aH (aR r) u v c) aN (fun k => aG' (22 * (2 * d) + k)) ((aH' (2 * d)).toNatClampNeg - 1)) = aN' := by
          funext d
          by_cases e : c ≤ d ∧ d < c + gc PL PT ((gs (fit aX aC bF r) m n m).1 + 1)
          · rw [bk_in e.1 e.2, hNe d e.1 e.2]; rfl
          · rw [bk_out e, hNe' d e]
        refine hX _ _ _ (rr_x (J := fun u v => jn aG aH (aR r) u v c) hr hn h16 (fun e he => ?_) (fun e he => ?_) hJ (fun u v e he => (jn_s he).1) (by omega) ?_)
        · obtain ⟨-, ⟨o, ho, -, eH2, -⟩⟩ := hC e he
          exact ⟨o + 2, by omega, by omega, eH2⟩
        · obtain ⟨⟨o, ho, -, eH2, -⟩, -⟩ := hC e he
          exact ⟨o + 2, by omega, by omega, eH2⟩
        · rw [eN]
          refine ry_1 hr (br_f ca_10 (mt_Y hr hm hn eL eT (fun i hi => (hf' i hi).2) (fun bM bP hy => ?_)))
          have hPY := pYY_of hn hpp hs hy
          have key := fun post hp => cs_y (post := post) (fp := nI p) (fc := nI c) (fs := fs) (aX := aX) (aS := aS) (bE := bE) (bD := bD) (bK := bK) (bU := bU) (bO := bO) (bV := bV) (aN := aN) (aL := aL) (bF := bF) (aT := aT) (aC := aC) (aR := aR) (bW := bW) (bP := bP) (bM := bM) hr hm hn hpp hPY eL eT hp ((gs (fit aX aC bF r) m n m).1 + 1) 0 (by omega)
          rw [hpp.1, hpp.2.1] at key
          refine key _ ?_
          refine br_t (by rw [e1]; exact nI_le (b := 16) h16 (by decide)) ⟨vp_in_nI hr (by decide), br_t (by rw [eT', e2]; exact nI_le (b := 60) h60 (by decide)) ?_⟩
          refine hY bP bM hPY _ ⟨vp_in_nI hr (by decide), nm_r eT' (kt_y0 hr hn ?_)⟩
          have t := fun post hp => cm_l (post := post) (ret := nI (gc PL PT ((gs (fit aX aC bF r) m n m).1 + 1))) (fp := nI (p + n - (gs (fit aX aC bF r) m n m).1)) (fs := nI n) (aX := aX') (aS := aS') (bE := bE') (bD := bD') (bK := bK') (bU := bU') (bO := bO') (bV := bV') (aN := aN') (aL := upd aL r (nI n)) (bF := bk bF (20 * r) (20 * r + n) (fun j => bW' (j - 20 * r))) (aT := aT) (aC := aC) (bW := bW') (bP := bP) (bM := bM) (R0 := aR) hr h16 hp (gc PL PT ((gs (fit aX aC bF r) m n m).1 + 1)) 0 (by omega)
          rw [show upd aR r (orb (aR r) c 0) = aR from ud_id aR r] at t
          refine ⟨_, t _ ⟨rfl, ?_⟩⟩
          have tX : tvX aW' n (fun i => aW' (i + 1)) := by
            intro j hj
            by_cases j0 : j = 0
            · subst j0
              have := hWe 0 (by omega)
              rw [hpp.1, hpp.2.1] at this
              rw [ew_0, this]; exact e60
            · by_cases j1 : j ≤ n
              · rw [ew_m (by omega) j1]; exact congrArg aW' (by omega)
              · have := hWe ((gs (fit aX aC bF r) m n m).1 + 1) (Nat.le_refl _)
                rw [hpp.2.2.1, hpp.2.2.2.1] at this
                rw [ew_e (by omega), show j = n + 1 by omega, this, ← e61]; exact congrArg aF (by omega)
          have tY : tvY bW' n (fun i => aW' (i + 1)) := fun i hi => (hBe i (by omega) hi).1
          have tw : wv (p + n - (gs (fit aX aC bF r) m n m).1) n (fun i => aW' (i + 1)) := fun i hi => (hBe i (by omega) hi).2
          refine rl_mk ⟨h60, h16, rl_Fk hr hn (rl_Fm hF (by omega)) tX tY tw, hT, hC, hz', fun r' hr' d h1 h2 => ?_, fun e he d h1 h2 => ?_⟩
          · by_cases e : r' = r
            · rw [e, pk_us]; exact orb_b (hA r hr) _ (by omega) d h1 h2
            · rw [pk_un e]; exact hA r' hr' d (by omega) h2
          · by_cases e2 : c ≤ e
            · rw [hNe e e2 he]
              exact nval_b (by omega) (fun u v x hx => (jn_s hx).1) hN _ d (by omega) h2
            · rw [hNe' e (by omega)]; exact hN e (by omega) d (by omega) h2
      · refine br_f (nI_ge (a := 60) (by omega) (by omega)) ?_
        refine ry_1 hr (br_f ca_10 (mt_Y hr hm hn eL eT (fun i hi => (hf' i hi).2) (fun bM bP hy => ?_)))
        have hPY := pYY_of hn hpp hs hy
        have key := fun post hp => cs_y (post := post) (fp := nI p) (fc := nI c) (fs := fs) (aX := aX) (aS := aS) (bE := bE) (bD := bD) (bK := bK) (bU := bU) (bO := bO) (bV := bV) (aN := aN) (aL := aL) (bF := bF) (aT := aT) (aC := aC) (aR := aR) (bW := bW) (bP := bP) (bM := bM) hr hm hn hpp hPY eL eT hp ((gs (fit aX aC bF r) m n m).1 + 1) 0 (by omega)
        rw [hpp.1, hpp.2.1] at key
        refine key _ ?_
        refine br_t (by rw [e1]; exact nI_le (b := 16) h16 (by decide)) ⟨vp_in_nI hr (by decide), br_f (by rw [eT', e2]; exact nI_ge (a := 60) (by omega) (by omega)) ?_⟩
        exact ⟨rfl, rl_mk hR0⟩
    · refine br_f (by rw [e1]; exact nI_ge (a := 16) (by omega) (by omega)) ?_
      refine ry_1 hr (br_f ca_10 (mt_Y hr hm hn eL eT (fun i hi => (hf' i hi).2) (fun bM bP hy => ?_)))
      have hPY := pYY_of hn hpp hs hy
      have key := fun post hp => cs_y (post := post) (fp := nI p) (fc := nI c) (fs := fs) (aX := aX) (aS := aS) (bE := bE) (bD := bD) (bK := bK) (bU := bU) (bO := bO) (bV := bV) (aN := aN) (aL := aL) (bF := bF) (aT := aT) (aC := aC) (aR := aR) (bW := bW) (bP := bP) (bM := bM) hr hm hn hpp hPY eL eT hp ((gs (fit aX aC bF r) m n m).1 + 1) 0 (by omega)
      rw [hpp.1, hpp.2.1] at key
      refine key _ ?_
      refine br_f (by rw [e1]; exact nI_ge (a := 16) (by omega) (by omega)) ?_
      exact ⟨rfl, rl_mk hR0⟩
  · refine rx_0 hb (br_t rfl ?_)
    exact ry_0 hb (br_t rfl ⟨rfl, J⟩)
end
section
theorem zz_last : nI 0 = 0 := nI_0
end
