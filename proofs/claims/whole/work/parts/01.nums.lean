theorem pk_us {f : Nat → Int32} {k : Nat} {x : Int32} : upd f k x k = x := if_pos rfl
theorem pk_un {f : Nat → Int32} {k j : Nat} {x : Int32} (h : j ≠ k) : upd f k x j = f j := if_neg h
theorem pk_sub {a b : Nat} (h : b ≤ a) : nI a - nI b = nI (a - b) := by
  obtain ⟨c, rfl⟩ : ∃ c, a = c + b := ⟨a - b, by omega⟩
  rw [← nI_add, Int32.add_sub_cancel, Nat.add_sub_cancel]
theorem pk_m1 (n : Nat) : nI (n + 1) + (-1) = nI n := by
  rw [← nI_1, Int32.add_assoc, show (1 : Int32) + (-1) = 0 from rfl, Int32.add_zero]
theorem pk_mul (a b : Nat) : nI a * nI b = nI (a * b) := (Int32.ofNat_mul a b).symm
theorem pk_sub_toInt {a b : Nat} (ha : a < 2 ^ 30) (hb : b < 2 ^ 30) : (nI a - nI b).toInt = (a : Int) - b := by
  rw [Int32.toInt_sub, nI_toInt (by omega), nI_toInt (by omega)]
  exact Int.bmod_eq_of_le (by omega) (by omega)
theorem pk_sneg {a b : Nat} (hb : b < 2 ^ 30) (h : a < b) : nI a - nI b < 0 := by
  rw [Int32.lt_iff_toInt_lt, pk_sub_toInt (by omega) hb, show (0 : Int32).toInt = 0 from by decide]
  omega
theorem pk_le {x y : Int32} {A B : Prop} (a b : Nat) (f : a ≤ b → A) (g : b < a → B) (hx : x = nI a := by rfl) (hy : y = nI b := by rfl) (ha : a < 2 ^ 31 := by omega) (hb : b < 2 ^ 31 := by omega) : (x ≤ y → A) ∧ (¬ x ≤ y → B) := by
  subst hx hy
  rw [nI_leI ha hb]
  exact ⟨f, fun z => g (by omega)⟩
theorem pk_lt {x y : Int32} {A B : Prop} (a b : Nat) (f : a < b → A) (g : b ≤ a → B) (hx : x = nI a := by rfl) (hy : y = nI b := by rfl) (ha : a < 2 ^ 31 := by omega) (hb : b < 2 ^ 31 := by omega) : (x < y → A) ∧ (¬ x < y → B) := by
  subst hx hy
  rw [nI_ltI ha hb]
  exact ⟨f, fun z => g (by omega)⟩
theorem pk_eq {x y : Int32} {A B : Prop} (a b : Nat) (f : a = b → A) (g : a ≠ b → B) (hx : x = nI a := by rfl) (hy : y = nI b := by rfl) (ha : a < 2 ^ 31 := by omega) (hb : b < 2 ^ 31 := by omega) : (x = y → A) ∧ (¬ x = y → B) := by
  subst hx hy
  rw [nI_eq ha hb]
  exact ⟨f, g⟩
theorem pk_in {x : Int32} (n N : Nat) (h : n < N) (hx : x = nI n := by rfl) (hN : N < 2 ^ 31 := by omega) : vp_in x N := by
  subst hx
  exact vp_in_nI h hN
theorem pk_cl {x : Int32} (n : Nat) (hx : x = nI n := by rfl) (h : n < 2 ^ 31 := by omega) : x.toNatClampNeg = n := by
  subst hx
  exact nI_clamp h
theorem sb_m1 {p : Nat} (h : 0 < p) : nI p + (-1) = nI (p - 1) := by
  obtain ⟨q, rfl⟩ : ∃ q, p = q + 1 := ⟨p - 1, by omega⟩
  exact pk_m1 q
def bt (x : Int32) (i : Nat) : Bool := x.toBitVec.getLsbD i
theorem b_ext {x y : Int32} (h : ∀ i, i < 32 → bt x i = bt y i) : x = y := Int32.toBitVec_inj.mp (BitVec.eq_of_getLsbD_eq (fun i hi => h i hi))
theorem b_or (x y : Int32) (i : Nat) : bt (x ||| y) i = (bt x i || bt y i) := by unfold bt; rw [Int32.toBitVec_or, BitVec.getLsbD_or]
theorem b_and (x y : Int32) (i : Nat) : bt (x &&& y) i = (bt x i && bt y i) := by unfold bt; rw [Int32.toBitVec_and, BitVec.getLsbD_and]
theorem b_xor (x y : Int32) (i : Nat) : bt (x ^^^ y) i = (bt x i ^^ bt y i) := by unfold bt; rw [Int32.toBitVec_xor, BitVec.getLsbD_xor]
theorem b_big {x : Int32} {i : Nat} (h : 32 ≤ i) : bt x i = false := BitVec.getLsbD_of_ge _ _ h
theorem b_m1 : ∀ i, i < 32 → bt (-1) i = true := by decide +kernel
theorem b_0 (i : Nat) : bt 0 i = false := BitVec.getLsbD_zero
theorem s_l : ∀ n, n < 32 → ((nI n &&& 31).toBitVec.smod 32).toNat = n := by decide +kernel
theorem b_shl (n : Nat) (hn : n < 32) (x : Int32) {i : Nat} (hi : i < 32) : bt (x <<< (nI n &&& 31)) i = (decide (n ≤ i) && bt x (i - n)) := by
  unfold bt
  rw [Int32.toBitVec_shiftLeft]
  show (x.toBitVec <<< ((nI n &&& 31).toBitVec.smod 32).toNat).getLsbD i = _
  rw [s_l n hn, BitVec.getLsbD_shiftLeft]
  rcases Nat.lt_or_ge i n with h | h
  · simp [h, Nat.not_le.mpr h]
  · simp [hi, h, Nat.not_lt.mpr h]
theorem b_sshr (n : Nat) (hn : n < 32) (x : Int32) {i : Nat} (hi : i < 32) : bt (x >>> (nI n &&& 31)) i = if n + i < 32 then bt x (n + i) else bt x 31 := by
  unfold bt
  rw [Int32.toBitVec_shiftRight]
  show (x.toBitVec.sshiftRight ((nI n &&& 31).toBitVec.smod 32).toNat).getLsbD i = _
  rw [s_l n hn, BitVec.getLsbD_sshiftRight, BitVec.msb_eq_getLsbD_last]
  simp [hi]
/-! numbers: index forms -/
theorem ca_p1 (a : Nat) : nI a + 1 = nI (a + 1) := nI_1 a
theorem ca_p2 (a : Nat) : nI a + 2 = nI (a + 2) := nI_add a 2
theorem ca_22 (a : Nat) : nI a + 22 = nI (a + 22) := nI_add a 22
theorem ca_m22 (a : Nat) : nI a * 22 = nI (22 * a) := by rw [show (22 : Int32) = nI 22 from rfl, pk_mul, Nat.mul_comm]
theorem ca_m20 (a : Nat) : nI a * 20 = nI (20 * a) := by rw [show (20 : Int32) = nI 20 from rfl, pk_mul, Nat.mul_comm]
theorem ca_l20 (a : Nat) : 20 * nI a = nI (20 * a) := pk_mul 20 a
theorem ca_l22 (a : Nat) : 22 * nI a = nI (22 * a) := pk_mul 22 a
theorem ca_l2 (a : Nat) : 2 * nI a = nI (2 * a) := pk_mul 2 a
theorem ca_s1 {a : Nat} (h : 1 ≤ a) : nI a - 1 = nI (a - 1) := pk_sub (b := 1) h
theorem ca_s2 {a : Nat} (h : 2 ≤ a) : nI a - 2 = nI (a - 2) := pk_sub (b := 2) h
theorem ca_z (a : Nat) : nI (a + 1) - 1 = nI a := nI_pred a
theorem xa (r i : Nat) : nI r * 22 + nI i = nI (22 * r + i) := by rw [ca_m22, nI_add]
theorem xb (r i : Nat) : nI r * 22 + 1 + nI i = nI (22 * r + 1 + i) := by rw [ca_m22, ca_p1, nI_add]
theorem xc (r i : Nat) : nI r * 20 + nI i = nI (20 * r + i) := by rw [ca_m20, nI_add]
theorem xd (r i : Nat) : nI r * 20 + nI (i + 1) - 1 = nI (20 * r + i) := by
  rw [xc, show 20 * r + (i + 1) = 20 * r + i + 1 from rfl, ca_z]
theorem ya (r i : Nat) : 20 * nI r + nI i = nI (20 * r + i) := by rw [ca_l20, nI_add]
theorem yb (r i : Nat) : 20 * nI r + nI (i + 1) - 1 = nI (20 * r + i) := by
  rw [ya, show 20 * r + (i + 1) = 20 * r + i + 1 from rfl, ca_z]
theorem yc (r i : Nat) : 20 * nI r + nI i + 1 = nI (20 * r + i + 1) := by rw [ya, ca_p1]
theorem cl_xa {r i : Nat} (h : 22 * r + i < 2 ^ 31) : (nI r * 22 + nI i).toNatClampNeg = 22 * r + i := by rw [xa, nI_clamp h]
theorem cl_xb {r i : Nat} (h : 22 * r + 1 + i < 2 ^ 31) : (nI r * 22 + 1 + nI i).toNatClampNeg = 22 * r + 1 + i := by rw [xb, nI_clamp h]
theorem cl_xc {r i : Nat} (h : 20 * r + i < 2 ^ 31) : (nI r * 20 + nI i).toNatClampNeg = 20 * r + i := by rw [xc, nI_clamp h]
theorem cl_xd {r i : Nat} (h : 20 * r + i < 2 ^ 31) : (nI r * 20 + nI (i + 1) - 1).toNatClampNeg = 20 * r + i := by rw [xd, nI_clamp h]
theorem cl_ya {r i : Nat} (h : 20 * r + i < 2 ^ 31) : (20 * nI r + nI i).toNatClampNeg = 20 * r + i := by rw [ya, nI_clamp h]
theorem cl_yb {r i : Nat} (h : 20 * r + i < 2 ^ 31) : (20 * nI r + nI (i + 1) - 1).toNatClampNeg = 20 * r + i := by rw [yb, nI_clamp h]
theorem cl_yc {r i : Nat} (h : 20 * r + i + 1 < 2 ^ 31) : (20 * nI r + nI i + 1).toNatClampNeg = 20 * r + i + 1 := by rw [yc, nI_clamp h]
theorem ca_n1 : (-1 : Int32) < 0 := by decide
theorem ca_ne1 {a : Nat} (h : a < 2 ^ 31) : ¬ nI a = -1 := by
  intro e
  have := nI_pos (n := a) h
  rw [e] at this
  exact this ca_n1
/-! one block of an array, written cell by cell -/
def bk (f : Nat → Int32) (lo hi : Nat) (g : Nat → Int32) : Nat → Int32 := fun j => if lo ≤ j ∧ j < hi then g j else f j
theorem bk_in {f g : Nat → Int32} {lo hi j : Nat} (h1 : lo ≤ j) (h2 : j < hi) : bk f lo hi g j = g j := if_pos ⟨h1, h2⟩
theorem bk_out {f g : Nat → Int32} {lo hi j : Nat} (h : ¬ (lo ≤ j ∧ j < hi)) : bk f lo hi g j = f j := if_neg h
theorem bk_lo {f g : Nat → Int32} {lo hi j : Nat} (h : j < lo) : bk f lo hi g j = f j := if_neg (by omega)
theorem bk_hi {f g : Nat → Int32} {lo hi j : Nat} (h : hi ≤ j) : bk f lo hi g j = f j := if_neg (by omega)
theorem bk_0 {f g : Nat → Int32} {lo hi : Nat} (h : hi ≤ lo) : bk f lo hi g = f := funext fun j => if_neg (by omega)
theorem bk_up {f g : Nat → Int32} {lo hi : Nat} {x : Int32} (h : lo ≤ hi) (hx : x = g hi) : upd (bk f lo hi g) hi x = bk f lo (hi + 1) g := by
  funext j
  by_cases e : j = hi
  · rw [e, pk_us, bk_in h (by omega), hx]
  · rw [pk_un e]
    by_cases e2 : lo ≤ j ∧ j < hi
    · rw [bk_in e2.1 e2.2, bk_in e2.1 (by omega)]
    · rw [bk_out e2, bk_out (by omega)]
theorem bk_dn {f g : Nat → Int32} {lo hi : Nat} {x : Int32} (h : lo < hi) (hx : x = g lo) : upd (bk f (lo + 1) hi g) lo x = bk f lo hi g := by
  funext j
  by_cases e : j = lo
  · rw [e, pk_us, bk_in (Nat.le_refl _) h, hx]
  · rw [pk_un e]
    by_cases e2 : lo ≤ j ∧ j < hi
    · rw [bk_in e2.1 e2.2, bk_in (by omega) e2.2]
    · rw [bk_out e2, bk_out (by omega)]
theorem bk_cg {f g g' : Nat → Int32} {lo hi : Nat} (h : ∀ j, lo ≤ j → j < hi → g j = g' j) : bk f lo hi g = bk f lo hi g' := by
  funext j
  by_cases e2 : lo ≤ j ∧ j < hi
  · rw [bk_in e2.1 e2.2, bk_in e2.1 e2.2, h j e2.1 e2.2]
  · rw [bk_out e2, bk_out e2]
theorem ud_ud (f : Nat → Int32) (k : Nat) (x y : Int32) : upd (upd f k x) k y = upd f k y := by
  funext j
  by_cases e : j = k
  · rw [e, pk_us, pk_us]
  · rw [pk_un e, pk_un e, pk_un e]
theorem ud_id (f : Nat → Int32) (k : Nat) : upd f k (f k) = f := by
  funext j
  by_cases e : j = k
  · rw [e, pk_us]
  · rw [pk_un e]
/-! bits -/
theorem bq_1 : ∀ i, i < 32 → bt 1 i = decide (i = 0) := by decide +kernel
theorem bq_in (s : Int32) {c : Nat} (hc : c < 32) : ((s >>> (nI c &&& 31)) &&& 1) = 1 ↔ bt s c = true := by
  have h0 : bt (s >>> (nI c &&& 31)) 0 = bt s c := by rw [b_sshr c hc s (by omega), if_pos (by omega)]; rfl
  constructor
  · intro h
    have t : bt ((s >>> (nI c &&& 31)) &&& 1) 0 = bt 1 0 := by rw [h]
    rw [b_and, h0, bq_1 0 (by omega)] at t
    simpa using t
  · intro h
    apply b_ext
    intro i hi
    rw [b_and, bq_1 i hi]
    by_cases e : i = 0
    · subst e; rw [h0, h]; rfl
    · simp [e]
theorem bq_sh {c d : Nat} (hc : c < 32) (hd : d < 32) : bt ((1 : Int32) <<< (nI d &&& 31)) c = decide (c = d) := by
  rw [b_shl d hd 1 hc]
  by_cases e : d ≤ c
  · rw [bq_1 _ (by omega)]
    by_cases e2 : c = d
    · subst e2; simp
    · simp [e2]; omega
  · simp [e]; omega
