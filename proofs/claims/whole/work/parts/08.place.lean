/-! one side of a change: its run -/
def sd (aG aH : Nat → Int32) (q : Nat) (e d k : Int32) (A : Nat → Int32) (b p t : Nat) : Prop := t ≤ 20 ∧ k = nI t ∧ aH q = nI (t + 2) ∧ aG (22 * q) = e ∧ aG (22 * q + 1 + t) = d ∧ ∀ i, i < t → aG (22 * q + 1 + i) = A (b + i) ∧ ∃ l, l < p ∧ A (b + i) = nI l
theorem ca_gr {i n n' : Nat} (h : n ≤ i + n') : nI i + (nI n' - nI n) = nI (i + n' - n) := by rw [Int32.sub_eq_add_neg, ← Int32.add_assoc, ← Int32.sub_eq_add_neg, nI_add, pk_sub h]
theorem ca_sl {n n' : Nat} (h : n < 2 ^ 30) (h' : n' < 2 ^ 30) : nI n' - nI n ≤ 0 ↔ n' ≤ n := by
  rw [Int32.le_iff_toInt_le, pk_sub_toInt h' h, show (0 : Int32).toInt = 0 from by decide]
  omega
theorem ca_sz {s n p : Nat} (hs : s < 1000) (hn : n < 1000) (hp : p < 1000) : nI s - nI n + 2 < nI p ↔ s + 2 < p + n := by
  rw [Int32.lt_iff_toInt_lt, Int32.toInt_add, pk_sub_toInt (by omega) (by omega), nI_toInt (by omega), show (2 : Int32).toInt = 2 from by decide, Int.bmod_eq_of_le (by omega) (by omega)]
  omega
theorem ca_pl {a : Nat} (h : a < 1000) : nI a - 1 < nI a := by
  rw [Int32.lt_iff_toInt_lt, show (1 : Int32) = nI 1 from rfl, pk_sub_toInt (by omega) (by omega), nI_toInt (by omega)]
  omega
section
variable {fp fc fs : Int32} {aX aS bE bD bK bU bO bV aN aL bF aT aC aR bW bP bM : Nat → Int32} {aG aH : Nat → Int32}
theorem me_0 {q c t P : Nat} (hc : c < 16) (h : sd aG aH q (bE c) (bD c) (bK c) bO (20 * c) P t) (post : Int32 → Prop) (k : Nat) (hk : k < t + 2) (hp : post (aG (22 * q + k))) : wpY_member post (fp, fc, fs, aX, aS, bE, bD, bK, bU, bO, bV, aN, aL, bF, aT, aC, aR, bW, bP, bM) (nI c) 0 (nI k) := by
  obtain ⟨ht, eK, eH, e1, e2, e3⟩ := h
  by_cases h0 : k = 0
  · subst h0
    refine br_t nI_0 ⟨vp_in_nI hc (by decide), ?_⟩
    rw [rd (a := bE) rfl (by omega) e1.symm]; exact hp
  · refine br_f (nI_ne0 (by omega) (by omega)) (br_t rfl ⟨vp_in_nI hc (by decide), ?_⟩)
    rw [rd (a := bK) rfl (by omega) eK]
    by_cases h1 : k ≤ t
    · obtain ⟨i, rfl⟩ : ∃ i, k = i + 1 := ⟨k - 1, by omega⟩
      refine br_t (nI_le h1 (by omega)) (br_t rfl ⟨pk_in (20 * c + i) 320 (by omega) (yb c i), ?_⟩)
      rw [rd (a := bO) (yb c i) (by omega) (e3 i (by omega)).1.symm, show 22 * q + 1 + i = 22 * q + (i + 1) by omega]
      exact hp
    · refine br_f (nI_ge (by omega) (by omega)) ⟨vp_in_nI hc (by decide), ?_⟩
      rw [rd (a := bD) rfl (by omega) e2.symm, show 22 * q + 1 + t = 22 * q + k by omega]
      exact hp
theorem me_1 {q c t P : Nat} (hc : c < 16) (h : sd aG aH q (bE c) (bD c) (bU c) bV (20 * c) P t) (post : Int32 → Prop) (k : Nat) (hk : k < t + 2) (hp : post (aG (22 * q + k))) : wpY_member post (fp, fc, fs, aX, aS, bE, bD, bK, bU, bO, bV, aN, aL, bF, aT, aC, aR, bW, bP, bM) (nI c) 1 (nI k) := by
  obtain ⟨ht, eK, eH, e1, e2, e3⟩ := h
  by_cases h0 : k = 0
  · subst h0
    refine br_t nI_0 ⟨vp_in_nI hc (by decide), ?_⟩
    rw [rd (a := bE) rfl (by omega) e1.symm]; exact hp
  · refine br_f (nI_ne0 (by omega) (by omega)) (br_f ca_10 ⟨vp_in_nI hc (by decide), ?_⟩)
    rw [rd (a := bU) rfl (by omega) eK]
    by_cases h1 : k ≤ t
    · obtain ⟨i, rfl⟩ : ∃ i, k = i + 1 := ⟨k - 1, by omega⟩
      refine br_t (nI_le h1 (by omega)) (br_f ca_10 ⟨pk_in (20 * c + i) 320 (by omega) (yb c i), ?_⟩)
      rw [rd (a := bV) (yb c i) (by omega) (e3 i (by omega)).1.symm, show 22 * q + 1 + i = 22 * q + (i + 1) by omega]
      exact hp
    · refine br_f (nI_ge (by omega) (by omega)) ⟨vp_in_nI hc (by decide), ?_⟩
      rw [rd (a := bD) rfl (by omega) e2.symm, show 22 * q + 1 + t = 22 * q + k by omega]
      exact hp
theorem ln_0 {q c t P : Nat} (hc : c < 16) (h : sd aG aH q (bE c) (bD c) (bK c) bO (20 * c) P t) (post : Int32 → Prop) (hp : post (nI (t + 2))) : wpY_length post (fp, fc, fs, aX, aS, bE, bD, bK, bU, bO, bV, aN, aL, bF, aT, aC, aR, bW, bP, bM) (nI c) 0 := by
  obtain ⟨ht, eK, eH, e1, e2, e3⟩ := h
  refine br_t rfl ⟨vp_in_nI hc (by decide), ?_⟩
  rw [rd (a := bK) rfl (by omega) eK, ca_p2]; exact hp
theorem ln_1 {q c t P : Nat} (hc : c < 16) (h : sd aG aH q (bE c) (bD c) (bU c) bV (20 * c) P t) (post : Int32 → Prop) (hp : post (nI (t + 2))) : wpY_length post (fp, fc, fs, aX, aS, bE, bD, bK, bU, bO, bV, aN, aL, bF, aT, aC, aR, bW, bP, bM) (nI c) 1 := by
  obtain ⟨ht, eK, eH, e1, e2, e3⟩ := h
  refine br_f ca_10 ⟨vp_in_nI hc (by decide), ?_⟩
  rw [rd (a := bU) rfl (by omega) eK, ca_p2]; exact hp
theorem iw_y {post : Int32 → Prop} {s : Nat} {w : Nat → Int32} (hs : s ≤ 20) (hW : tvY bW s w) (p k : Nat) (h : p + k < s + 2) (hp : post (ew s w (p + k))) : wpY_inWork post (fp, fc, nI s, aX, aS, bE, bD, bK, bU, bO, bV, aN, aL, bF, aT, aC, aR, bW, bP, bM) (nI p - 1 + nI k) := by
  by_cases h0 : p + k = 0
  · obtain rfl : p = 0 := by omega
    obtain rfl : k = 0 := by omega
    exact br_f (by decide) hp
  · have e : nI p - 1 + nI k = nI (p + k - 1) := by rw [Int32.sub_eq_add_neg, Int32.add_assoc, Int32.add_comm (-1), ← Int32.add_assoc, nI_add, sb_m1 (by omega)]
    rw [e]
    refine br_t (nI_pos' (by omega)) ?_
    by_cases h1 : p + k - 1 < s
    · refine br_f (nI_ge h1 (by omega)) ⟨vp_in_nI (by omega) (by decide), ?_⟩
      rw [ew_m (by omega) (by omega)] at hp
      rw [rd (a := bW) rfl (by omega) (hW _ h1)]; exact hp
    · refine br_t (nI_le (by omega) (by omega)) ?_
      rw [ew_e (by omega)] at hp; exact hp
theorem po_0 {post : Int32 → Prop} {J : Int32 → Prop} {c n p : Nat} {fl : Int32} (hn : n ≤ 22) (hJ : J (nI (p + 1))) : ∀ d k, k + d = n → wY_placeOf_29 post J (nI c) fl (nI n) (nI p) fp fc fs aX aS bE bD bK bU bO bV aN aL bF aT aC aR bW bP bM (d + 1) 0 (nI k) := by
  intro d
  induction d with
  | zero => intro k h; exact br_t (nI_le (by omega) (by omega)) (br_t rfl (nm_r (nI_1 p) hJ))
  | succ d ih => intro k h; exact br_f (nI_ge (by omega) (by omega)) (br_t rfl (nm_r (nI_1 k) (ih (k + 1) (by omega))))
theorem po_1 {post : Int32 → Prop} {J : Int32 → Prop} {c n p s : Nat} {fl : Int32} {w mem : Nat → Int32} (hs : s ≤ 20) (hpn : p + n ≤ s + 2) (hW : tvY bW s w) (hM : ∀ (post : Int32 → Prop) (k : Nat), k < n → post (mem k) → wpY_member post (fp, fc, nI s, aX, aS, bE, bD, bK, bU, bO, bV, aN, aL, bF, aT, aC, aR, bW, bP, bM) (nI c) fl (nI k)) (h1 : fq s w mem n p → post (nI p)) (h0 : ¬ fq s w mem n p → J (nI (p + 1))) : ∀ d k, k + d = n → (∀ i, i < k → ew s w (p + i) = mem i) → wY_placeOf_29 post J (nI c) fl (nI n) (nI p) fp fc (nI s) aX aS bE bD bK bU bO bV aN aL bF aT aC aR bW bP bM (d + 1) 1 (nI k) := by
  intro d
  induction d with
  | zero =>
    intro k h hk
    obtain rfl : k = n := by omega
    exact br_t (nI_le (by omega) (by omega)) (br_f ca_10 (h1 hk))
  | succ d ih =>
    intro k h hk
    refine br_f (nI_ge (by omega) (by omega)) (br_f ca_10 (iw_y hs hW p k (by omega) (hM _ k (by omega) ?_)))
    refine br_c (fun e => nm_r (nI_1 k) (ih (k + 1) (by omega) ?_)) (fun e => nm_r (nI_1 k) (po_0 (by omega) (h0 (fun z => e (z k (by omega)))) d (k + 1) (by omega)))
    intro j hj
    by_cases ej : j = k
    · rw [ej]; exact e
    · exact hk j (by omega)
theorem pl_n {post : Int32 → Prop} {c n s : Nat} {fl : Int32} {w mem : Nat → Int32} (hs : s ≤ 20) (hn : n ≤ 22) (hW : tvY bW s w) (hM : ∀ (post : Int32 → Prop) (k : Nat), k < n → post (mem k) → wpY_member post (fp, fc, nI s, aX, aS, bE, bD, bK, bU, bO, bV, aN, aL, bF, aT, aC, aR, bW, bP, bM) (nI c) fl (nI k)) (hN : ∀ p, p + n ≤ s + 2 → ¬ fq s w mem n p) (hp : post (-1)) : ∀ d p, p + d = s + 3 - n → wY_placeOf_10 post (nI c) fl (nI n) fp fc (nI s) aX aS bE bD bK bU bO bV aN aL bF aT aC aR bW bP bM (d + 1) (nI p) := by
  intro d
  induction d with
  | zero => intro p h; exact br_t ((ca_sz (by omega) (by omega) (by omega)).mpr (by omega)) hp
  | succ d ih =>
    intro p h
    exact br_f (fun z => by have := (ca_sz (by omega) (by omega) (by omega)).mp z; omega) ⟨n + 1, po_1 hs (by omega) hW hM (fun z => absurd z (hN p (by omega))) (fun _ => ih (p + 1) (by omega)) n 0 (by omega) (fun k h => absurd h (Nat.not_lt_zero k))⟩
theorem pl_s {post : Int32 → Prop} {c n s p0 : Nat} {fl : Int32} {w mem : Nat → Int32} (hs : s ≤ 20) (hn : n ≤ 22) (hW : tvY bW s w) (hM : ∀ (post : Int32 → Prop) (k : Nat), k < n → post (mem k) → wpY_member post (fp, fc, nI s, aX, aS, bE, bD, bK, bU, bO, bV, aN, aL, bF, aT, aC, aR, bW, bP, bM) (nI c) fl (nI k)) (h0 : p0 + n ≤ s + 2) (hS : fq s w mem n p0) (hN : ∀ p, p < p0 → ¬ fq s w mem n p) (hp : post (nI p0)) : ∀ d p, p + d = p0 → wY_placeOf_10 post (nI c) fl (nI n) fp fc (nI s) aX aS bE bD bK bU bO bV aN aL bF aT aC aR bW bP bM (d + 1) (nI p) := by
  intro d
  induction d with
  | zero =>
    intro p h
    obtain rfl : p = p0 := by omega
    exact br_f (fun z => by have := (ca_sz (by omega) (by omega) (by omega)).mp z; omega) ⟨n + 1, po_1 hs (by omega) hW hM (fun _ => hp) (fun z => absurd hS z) n 0 (by omega) (fun k h => absurd h (Nat.not_lt_zero k))⟩
  | succ d ih =>
    intro p h
    exact br_f (fun z => by have := (ca_sz (by omega) (by omega) (by omega)).mp z; omega) ⟨n + 1, po_1 hs (by omega) hW hM (fun z => absurd z (hN p (by omega))) (fun _ => ih (p + 1) (by omega)) n 0 (by omega) (fun k h => absurd h (Nat.not_lt_zero k))⟩
end
/-! a run for another -/
section
variable {fp fc ft fr : Int32} {aF aL aC aT aR aX aS aG aH aN aW aM aP aQ : Nat → Int32}
theorem mt_a {post : SX → Prop} {s p n n' : Nat} (hs : s ≤ 20) (hpn : p + n ≤ s + 2) (hn : n' ≤ n) (hp : post (fp, fc, nI (s + 2 + n' - n), fr, aF, aL, aC, aT, aR, aX, aS, aG, aH, aN, bk aW (p + n') (s + 2 + n' - n) (fun j => aW (j + n - n')), aM, aP, aQ)) : ∀ d e, p + n + e + d = s + 2 → wX_moveTail_41 post (nI n' - nI n) fp fc (nI (s + 2)) fr (d + 1) (nI (p + n + e)) aF aL aC aT aR aX aS aG aH aN (bk aW (p + n') (p + n' + e) (fun j => aW (j + n - n'))) aM aP aQ := by
  intro d
  induction d with
  | zero =>
    intro e h
    refine br_t (nI_le (by omega) (by omega)) (nm_r (ca_gr (by omega)) ?_)
    rw [show p + n' + e = s + 2 + n' - n by omega]
    exact hp
  | succ d ih =>
    intro e h
    have e1 : nI (p + n + e) + (nI n' - nI n) = nI (p + n' + e) := (ca_gr (by omega)).trans (congrArg nI (by omega))
    exact br_f (nI_ge (by omega) (by omega)) ⟨vp_in_nI (by omega) (by decide), ⟨pk_in (p + n' + e) 22 (by omega) e1, nm_r ((wr e1 (by omega) (rd rfl (by omega) (bk_hi (by omega)))).trans (bk_up (by omega) (congrArg aW (by omega)))) (nm_r (nI_1 _) (ih (e + 1) (by omega)))⟩⟩
theorem mt_d {post : SX → Prop} {s p n n' b : Nat} (hs : s ≤ 20) (hs' : s + 2 + n' - n ≤ 22) (hpn : p + n ≤ s + 2) (hn : n < n') (hb : b + 1 = p + n) (hp : post (fp, fc, nI (s + 2 + n' - n), fr, aF, aL, aC, aT, aR, aX, aS, aG, aH, aN, bk aW (p + n') (s + 2 + n' - n) (fun j => aW (j + n - n')), aM, aP, aQ)) : ∀ e, p + n + e ≤ s + 2 → wX_moveTail_11 post (nI (p + n)) (nI n' - nI n) fp fc (nI (s + 2)) fr (e + 1) (nI (b + e)) aF aL aC aT aR aX aS aG aH aN (bk aW (p + n' + e) (s + 2 + n' - n) (fun j => aW (j + n - n'))) aM aP aQ := by
  intro e
  induction e with
  | zero =>
    intro h
    exact br_t (nI_lt (by omega) (by omega)) (nm_r (ca_gr (by omega)) hp)
  | succ e ih =>
    intro h
    have e1 : nI (b + (e + 1)) + (nI n' - nI n) = nI (p + n' + e) := (ca_gr (by omega)).trans (congrArg nI (by omega))
    exact br_f (nI_nlt (by omega) (by omega)) ⟨vp_in_nI (by omega) (by decide), ⟨pk_in (p + n' + e) 22 (by omega) e1, nm_r ((wr e1 (by omega) (rd rfl (by omega) (bk_lo (by omega)))).trans (bk_dn (lo := p + n' + e) (by omega) (congrArg aW (by omega)))) (nm_r (pk_m1 (b + e)) (ih (by omega)))⟩⟩
theorem mt_x {post : SX → Prop} {s p n n' : Nat} (hs : s ≤ 20) (hs' : s + 2 + n' - n ≤ 22) (h2 : 2 ≤ n) (hn22 : n' ≤ 22) (hpn : p + n ≤ s + 2) (hp : post (fp, fc, nI (s + 2 + n' - n), fr, aF, aL, aC, aT, aR, aX, aS, aG, aH, aN, bk aW (p + n') (s + 2 + n' - n) (fun j => aW (j + n - n')), aM, aP, aQ)) : wpX_moveTail post (fp, fc, nI (s + 2), fr, aF, aL, aC, aT, aR, aX, aS, aG, aH, aN, aW, aM, aP, aQ) (nI (p + n)) (nI n' - nI n) := by
  by_cases h : n' ≤ n
  · have t := mt_a hs hpn h hp (s + 2 - (p + n)) 0 (by omega)
    rw [bk_0 (Nat.le_of_eq (Nat.add_zero _))] at t
    exact br_t ((ca_sl (by omega) (by omega)).mpr h) ⟨_, t⟩
  · have t := mt_d (b := p + n - 1) hs hs' hpn (by omega) (by omega) hp (s + 2 - (p + n)) (by omega)
    rw [bk_0 (by omega), show p + n - 1 + (s + 2 - (p + n)) = s + 2 - 1 by omega] at t
    exact br_f (fun z => h ((ca_sl (by omega) (by omega)).mp z)) (nm_r (ca_s1 (by omega)) ⟨_, t⟩)
theorem rp_l {post : Int32 → SX → Prop} {p q n : Nat} {B : Nat → Int32} (hq : q < 32) (hpn : p + n ≤ 22) (eH : aH q = nI n) (hp : post 1 (fp, fc, ft, fr, aF, aL, aC, aT, aR, aX, aS, aG, aH, aN, bk B p (p + n) (fun j => aG (22 * q + (j - p))), aM, aP, aQ)) : ∀ d i, i + d = n → wX_replaceInTrial_46 post (nI p) (nI q) fp fc ft fr (d + 1) (nI i) aF aL aC aT aR aX aS aG aH aN (bk B p (p + i) (fun j => aG (22 * q + (j - p)))) aM aP aQ := by
  intro d
  induction d with
  | zero =>
    intro i h
    obtain rfl : i = n := by omega
    exact ⟨vp_in_nI hq (by decide), br_t (by rw [rd rfl (by omega) eH]; exact nI_le (by omega) (by omega)) hp⟩
  | succ d ih =>
    intro i h
    exact ⟨vp_in_nI hq (by decide), br_f (by rw [rd rfl (by omega) eH]; exact nI_ge (by omega) (by omega)) ⟨pk_in (22 * q + i) 704 (by omega) (xa q i), ⟨pk_in (p + i) 22 (by omega) (nI_add _ _), nm_r ((wr (nI_add _ _) (by omega) (rd (xa q i) (by omega) rfl)).trans (bk_up (by omega) (congrArg aG (by omega)))) (nm_r (nI_1 i) (ih (i + 1) (by omega)))⟩⟩⟩
theorem rp_x1 {post : Int32 → SX → Prop} {s p q q' n n' : Nat} (hq : q < 32) (hq' : q' < 32) (hs : s ≤ 20) (hs' : s + 2 + n' - n ≤ 22) (h2 : 2 ≤ n) (hn22 : n' ≤ 22) (hpn : p + n ≤ s + 2) (eH : aH q = nI n) (eH' : aH q' = nI n') (hp : post 1 (fp, fc, nI (s + 2 + n' - n), fr, aF, aL, aC, aT, aR, aX, aS, aG, aH, aN, bk (bk aW (p + n') (s + 2 + n' - n) (fun j => aW (j + n - n'))) p (p + n') (fun j => aG (22 * q' + (j - p))), aM, aP, aQ)) : wpX_replaceInTrial post (fp, fc, nI (s + 2), fr, aF, aL, aC, aT, aR, aX, aS, aG, aH, aN, aW, aM, aP, aQ) (nI p) (nI q) (nI q') := by
  have t := rp_l (ft := nI (s + 2 + n' - n)) hq' (by omega) eH' hp n' 0 (by omega)
  rw [bk_0 (Nat.le_of_eq (Nat.add_zero _))] at t
  refine ⟨vp_in_nI hq' (by decide), vp_in_nI hq (by decide), nm_r (e' := nI n' - nI n) (by rw [rd (a := aH) rfl (by omega) eH', rd (a := aH) rfl (by omega) eH]) (br_t (by rw [ca_gr (by omega)]; exact nI_le (b := 22) hs' (by decide)) ⟨vp_in_nI hq (by decide), ?_⟩)⟩
  rw [rd (a := aH) rfl (by omega) eH, nI_add]
  exact mt_x hs hs' h2 hn22 hpn ⟨_, t⟩
theorem rp_x0 {post : Int32 → SX → Prop} {s p q q' n n' : Nat} (hq : q < 32) (hq' : q' < 32) (hs : s ≤ 20) (hn22 : n' ≤ 22) (hs' : ¬ s + 2 + n' - n ≤ 22) (hpn : p + n ≤ s + 2) (eH : aH q = nI n) (eH' : aH q' = nI n') (hp : post 0 (fp, fc, nI (s + 2), fr, aF, aL, aC, aT, aR, aX, aS, aG, aH, aN, aW, aM, aP, aQ)) : wpX_replaceInTrial post (fp, fc, nI (s + 2), fr, aF, aL, aC, aT, aR, aX, aS, aG, aH, aN, aW, aM, aP, aQ) (nI p) (nI q) (nI q') := by
  exact ⟨vp_in_nI hq' (by decide), vp_in_nI hq (by decide), nm_r (e' := nI n' - nI n) (by rw [rd (a := aH) rfl (by omega) eH', rd (a := aH) rfl (by omega) eH]) (br_f (by rw [ca_gr (by omega)]; exact nI_ge (a := 22) (by omega) (by omega)) hp)⟩
end
