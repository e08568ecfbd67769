/-! the pure picture of a replacement -/
def rpw (p out more : Nat) (mem' w : Nat → Int32) : Nat → Int32 := fun i => if i < p then w i else if i < p + more then mem' (i - p + 1) else w (i + out - more)
theorem rpw_a {p out more i : Nat} {mem' w : Nat → Int32} (h : i < p) : rpw p out more mem' w i = w i := if_pos h
theorem rpw_b {p out more i : Nat} {mem' w : Nat → Int32} (h : p ≤ i) (h2 : i < p + more) : rpw p out more mem' w i = mem' (i - p + 1) := by unfold rpw; rw [if_neg (by omega), if_pos h2]
theorem rpw_c {p out more i : Nat} {mem' w : Nat → Int32} (h2 : p + more ≤ i) : rpw p out more mem' w i = w (i + out - more) := by unfold rpw; rw [if_neg (by omega), if_neg (by omega)]
theorem tv_rx {aW w mem mem' G : Nat → Int32} {s p out more : Nat} (hX : tvX aW s w) (hq : fq s w mem (out + 2) p) (hpn : p + (out + 2) ≤ s + 2) (h0 : mem' 0 = mem 0) (h1 : mem' (more + 1) = mem (out + 1)) (hG : ∀ j, p ≤ j → j < p + (more + 2) → G j = mem' (j - p)) : tvX (bk (bk aW (p + (more + 2)) (s + 2 + (more + 2) - (out + 2)) (fun j => aW (j + (out + 2) - (more + 2)))) p (p + (more + 2)) G) (s + more - out) (rpw p out more mem' w) := by
  intro j hj
  by_cases a1 : j < p
  · rw [bk_lo a1, bk_lo (by omega), hX j (by omega)]
    by_cases b1 : j = 0
    · subst b1; rfl
    · rw [ew_m (by omega) (by omega), ew_m (by omega) (by omega), rpw_a (by omega)]
  · by_cases a2 : j < p + (more + 2)
    · rw [bk_in (by omega) a2, hG j (by omega) a2]
      by_cases b0 : j = p
      · subst b0
        rw [Nat.sub_self, h0, ← hq 0 (by omega)]
        show ew s w j = _
        by_cases b1 : j = 0
        · subst b1; rfl
        · rw [ew_m (by omega) (by omega), ew_m (by omega) (by omega), rpw_a (by omega)]
      · by_cases b2 : j = p + (more + 1)
        · subst b2
          rw [Nat.add_sub_cancel_left, h1, ← hq (out + 1) (by omega)]
          by_cases b3 : p + (out + 1) ≤ s
          · rw [ew_m (by omega) b3, ew_m (by omega) (by omega), rpw_c (by omega)]
            exact congrArg w (by omega)
          · rw [ew_e (by omega), ew_e (by omega)]
        · rw [ew_m (by omega) (by omega), rpw_b (by omega) (by omega)]
          exact congrArg mem' (by omega)
    · rw [bk_hi (by omega), bk_in (by omega) (by omega), hX _ (by omega)]
      by_cases b3 : j ≤ s + more - out
      · rw [ew_m (by omega) (by omega), ew_m (by omega) b3, rpw_c (by omega)]
        exact congrArg w (by omega)
      · rw [ew_e (by omega), ew_e (by omega)]
theorem tv_ry {bW w mem' G : Nat → Int32} {s p out more : Nat} (hY : tvY bW s w) (hpn : p + out ≤ s) (hG : ∀ j, p ≤ j → j < p + more → G j = mem' (j - p + 1)) : tvY (bk (bk bW (p + more) (s + more - out) (fun j => bW (j + out - more))) p (p + more) G) (s + more - out) (rpw p out more mem' w) := by
  intro i hi
  by_cases a1 : i < p
  · rw [bk_lo a1, bk_lo (by omega), hY i (by omega), rpw_a a1]
  · by_cases a2 : i < p + more
    · rw [bk_in (by omega) a2, hG i (by omega) a2, rpw_b (by omega) a2]
    · rw [bk_hi (by omega), bk_in (by omega) hi, hY _ (by omega), rpw_c (by omega)]
theorem wv_r {w mem' : Nat → Int32} {P s p out more : Nat} (hw : wv P s w) (hpn : p + out ≤ s) (hm : ∀ i, i < more → ∃ l, l < P ∧ mem' (i + 1) = nI l) : wv P (s + more - out) (rpw p out more mem' w) := by
  intro i hi
  by_cases a1 : i < p
  · rw [rpw_a a1]; exact hw i (by omega)
  · by_cases a2 : i < p + more
    · rw [rpw_b (by omega) a2]; exact hm _ (by omega)
    · rw [rpw_c (by omega)]; exact hw _ (by omega)
/-! replace -/
section
variable {fp fc fs : Int32} {aX aS bE bD bK bU bO bV aN aL bF aT aC aR bW bP bM : Nat → Int32}
theorem ry_m {post : SY → Prop} {c p more : Nat} {fl nfl : Int32} {mem' B : Nat → Int32} (hfl : (fl = 0 ∧ nfl = 1) ∨ (¬ fl = 0 ∧ nfl = 0)) (hpm : p + more ≤ 20) (hM : ∀ (bW : Nat → Int32) (post : Int32 → Prop) (k : Nat), k < more + 2 → post (mem' k) → wpY_member post (fp, fc, fs, aX, aS, bE, bD, bK, bU, bO, bV, aN, aL, bF, aT, aC, aR, bW, bP, bM) (nI c) nfl (nI k)) (hp : post (fp, fc, fs, aX, aS, bE, bD, bK, bU, bO, bV, aN, aL, bF, aT, aC, aR, bk B p (p + more) (fun j => mem' (j - p + 1)), bP, bM)) : ∀ d i, i + d = more → wY_replace_141 post (nI c) fl (nI p) (nI more) fp fc fs (d + 1) (nI i) aX aS bE bD bK bU bO bV aN aL bF aT aC aR (bk B p (p + i) (fun j => mem' (j - p + 1))) bP bM := by
  intro d
  induction d with
  | zero =>
    intro i h
    obtain rfl : i = more := by omega
    exact br_t (nI_le (by omega) (by omega)) hp
  | succ d ih =>
    intro i h
    have key : wY_replace_167 post (wY_replace_141 post (nI c) fl (nI p) (nI more) fp fc fs (d + 1)) (nI c) fl (nI p) (nI more) (nI i) nfl (nI c) (nI p + nI i) fp fc fs aX aS bE bD bK bU bO bV aN aL bF aT aC aR (bk B p (p + i) (fun j => mem' (j - p + 1))) bP bM := by
      unfold wY_replace_167
      rw [nI_1 i]
      refine hM _ _ (i + 1) (by omega) ⟨pk_in (p + i) 20 (by omega) (nI_add _ _), nm_r ((wr (nI_add _ _) (by omega) rfl).trans (bk_up (by omega) (congrArg mem' (by omega)))) (nm_r rfl (ih (i + 1) (by omega)))⟩
    rcases hfl with ⟨e1, rfl⟩ | ⟨e1, rfl⟩
    · exact br_f (nI_ge (by omega) (by omega)) (br_t e1 key)
    · exact br_f (nI_ge (by omega) (by omega)) (br_f e1 key)
theorem ry_a {post : SY → Prop} {c p out more s : Nat} {fl : Int32} (hs : s ≤ 20) (hpn : p + out ≤ s) (hn : more ≤ out) (hp : ∃ n, wY_replace_141 post (nI c) fl (nI p) (nI more) fp fc fs n 0 aX aS bE bD bK bU bO bV aN aL bF aT aC aR (bk bW (p + more) (s + more - out) (fun j => bW (j + out - more))) bP bM) : ∀ d e, p + out + e + d = s → wY_replace_105 post (nI c) fl (nI p) (nI out) (nI more) (nI s) fp fc fs (d + 1) (nI (p + out + e)) aX aS bE bD bK bU bO bV aN aL bF aT aC aR (bk bW (p + more) (p + more + e) (fun j => bW (j + out - more))) bP bM := by
  intro d
  induction d with
  | zero =>
    intro e h
    refine br_t (nI_le (by omega) (by omega)) ?_
    rw [show p + more + e = s + more - out by omega]
    exact hp
  | succ d ih =>
    intro e h
    have e1 : nI (p + out + e) + nI more - nI out = nI (p + more + e) := by rw [nI_add, pk_sub (by omega)]; exact congrArg nI (by omega)
    exact br_f (nI_ge (by omega) (by omega)) ⟨vp_in_nI (by omega) (by decide), ⟨pk_in (p + more + e) 20 (by omega) e1, nm_r ((wr e1 (by omega) (rd rfl (by omega) (bk_hi (by omega)))).trans (bk_up (by omega) (congrArg bW (by omega)))) (nm_r (nI_1 _) (ih (e + 1) (by omega)))⟩⟩
theorem ry_d {post : SY → Prop} {c p out more s : Nat} {fl : Int32} (hs : s ≤ 20) (hs' : s + more - out ≤ 20) (hpn : p + out ≤ s) (hn : out < more) (hp : ∃ n, wY_replace_141 post (nI c) fl (nI p) (nI more) fp fc fs n 0 aX aS bE bD bK bU bO bV aN aL bF aT aC aR (bk bW (p + more) (s + more - out) (fun j => bW (j + out - more))) bP bM) : ∀ e, p + out + e ≤ s → wY_replace_61 post (nI c) fl (nI p) (nI out) (nI more) fp fc fs (e + 1) (nI (p + out + e) - 1) aX aS bE bD bK bU bO bV aN aL bF aT aC aR (bk bW (p + more + e) (s + more - out) (fun j => bW (j + out - more))) bP bM := by
  intro e
  induction e with
  | zero =>
    intro h
    exact br_t (by rw [nI_add]; exact ca_pl (by omega)) hp
  | succ e ih =>
    intro h
    rw [show nI (p + out + (e + 1)) - 1 = nI (p + out + e) from ca_z _]
    have e1 : nI (p + out + e) + nI more - nI out = nI (p + more + e) := by rw [nI_add, pk_sub (by omega)]; exact congrArg nI (by omega)
    exact br_f (by rw [nI_add]; exact nI_nlt (by omega) (by omega)) ⟨vp_in_nI (by omega) (by decide), ⟨pk_in (p + more + e) 20 (by omega) e1, nm_r ((wr e1 (by omega) (rd rfl (by omega) (bk_lo (by omega)))).trans (bk_dn (lo := p + more + e) (by omega) (congrArg bW (by omega)))) (nm_r (Int32.sub_eq_add_neg _ _).symm (ih (by omega)))⟩⟩
theorem ry_x {post : SY → Prop} {c p out more s : Nat} {fl nfl : Int32} {mem' : Nat → Int32} (hfl : (fl = 0 ∧ nfl = 1) ∨ (¬ fl = 0 ∧ nfl = 0)) (hs : s ≤ 20) (hs' : s + more - out ≤ 20) (hpn : p + out ≤ s) (hM : ∀ (fs : Int32) (bW : Nat → Int32) (post : Int32 → Prop) (k : Nat), k < more + 2 → post (mem' k) → wpY_member post (fp, fc, fs, aX, aS, bE, bD, bK, bU, bO, bV, aN, aL, bF, aT, aC, aR, bW, bP, bM) (nI c) nfl (nI k)) (hL : ∀ (post : Int32 → Prop), post (nI (out + 2)) → wpY_length post (fp, fc, nI s, aX, aS, bE, bD, bK, bU, bO, bV, aN, aL, bF, aT, aC, aR, bW, bP, bM) (nI c) fl) (hL' : ∀ (post : Int32 → Prop), post (nI (more + 2)) → wpY_length post (fp, fc, nI s, aX, aS, bE, bD, bK, bU, bO, bV, aN, aL, bF, aT, aC, aR, bW, bP, bM) (nI c) nfl) (hp : post (fp, fc, nI (s + more - out), aX, aS, bE, bD, bK, bU, bO, bV, aN, aL, bF, aT, aC, aR, bk (bk bW (p + more) (s + more - out) (fun j => bW (j + out - more))) p (p + more) (fun j => mem' (j - p + 1)), bP, bM)) : wpY_replace post (fp, fc, nI s, aX, aS, bE, bD, bK, bU, bO, bV, aN, aL, bF, aT, aC, aR, bW, bP, bM) (nI c) fl (nI p) := by
  have t := ry_m (fs := nI (s + more - out)) (B := bk bW (p + more) (s + more - out) (fun j => bW (j + out - more))) hfl (by omega) (hM _) hp more 0 (by omega)
  rw [bk_0 (f := bk bW (p + more) (s + more - out) (fun j => bW (j + out - more))) (Nat.le_of_eq (Nat.add_zero _))] at t
  have key : wY_replace_21 post (nI c) fl (nI p) (nI out) nfl (nI c) fp fc (nI s) aX aS bE bD bK bU bO bV aN aL bF aT aC aR bW bP bM := by
    unfold wY_replace_21
    refine hL' _ (nm_r (ca_s2 (by omega)) (nm_r (e' := nI (s + more - out)) ?_ ?_))
    · rw [show more + 2 - 2 = more from rfl, pk_sub (by omega), nI_add]; exact congrArg nI (by omega)
    · rw [show more + 2 - 2 = more from rfl]
      by_cases h : more ≤ out
      · have t2 := ry_a (fs := nI (s + more - out)) hs hpn h ⟨_, t⟩ (s - (p + out)) 0 (by omega)
        rw [bk_0 (f := bW) (Nat.le_of_eq (Nat.add_zero _))] at t2
        exact br_t (nI_le h (by omega)) (nm_r (nI_add _ _) ⟨_, t2⟩)
      · have t2 := ry_d (fs := nI (s + more - out)) hs hs' hpn (by omega) ⟨_, t⟩ (s - (p + out)) (by omega)
        rw [bk_0 (f := bW) (by omega), show p + out + (s - (p + out)) = s by omega] at t2
        exact br_f (nI_ge (by omega) (by omega)) (nm_r rfl ⟨_, t2⟩)
  unfold wpY_replace
  refine hL _ (nm_r (ca_s2 (by omega)) ?_)
  rcases hfl with ⟨e1, rfl⟩ | ⟨e1, rfl⟩
  · exact br_t e1 key
  · exact br_f e1 key
end
