/-! a file in the making: s lines w, between 60 and 61 -/
def ew (s : Nat) (w : Nat → Int32) : Nat → Int32 := fun j => if j = 0 then 60 else if j ≤ s then w (j - 1) else 61
def tvX (aW : Nat → Int32) (s : Nat) (w : Nat → Int32) : Prop := ∀ j, j < s + 2 → aW j = ew s w j
def tvY (bW : Nat → Int32) (s : Nat) (w : Nat → Int32) : Prop := ∀ i, i < s → bW i = w i
def wv (p s : Nat) (w : Nat → Int32) : Prop := ∀ i, i < s → ∃ l, l < p ∧ w i = nI l
theorem ew_0 (s : Nat) (w : Nat → Int32) : ew s w 0 = 60 := rfl
theorem ew_m {s j : Nat} {w : Nat → Int32} (h0 : 0 < j) (h : j ≤ s) : ew s w j = w (j - 1) := by unfold ew; rw [if_neg (by omega), if_pos h]
theorem ew_e {s j : Nat} {w : Nat → Int32} (h : s < j) : ew s w j = 61 := by unfold ew; rw [if_neg (by omega), if_neg (by omega)]
section
variable {fp fc ft fr : Int32} {aF aL aC aT aR aX aS aG aH aN aW aM aP aQ : Nat → Int32}
theorem st_x {post : SX → Prop} {r s : Nat} (hr : r < 3) (hs : s ≤ 20) (hp : post (fp, fc, nI (s + 2), fr, aF, aL, aC, aT, aR, aX, aS, aG, aH, aN, bk aW 0 (s + 2) (fun j => aF (22 * r + j)), aM, aP, aQ)) : ∀ d i, i + d = s + 2 → wX_startTrial_14 post (nI r) fp fc (nI (s + 2)) fr (d + 1) (nI i) aF aL aC aT aR aX aS aG aH aN (bk aW 0 i (fun j => aF (22 * r + j))) aM aP aQ := by
  intro d
  induction d with
  | zero =>
    intro i h
    obtain rfl : i = s + 2 := by omega
    exact br_t (nI_le (Nat.le_refl _) (by omega)) hp
  | succ d ih =>
    intro i h
    exact br_f (nI_ge (by omega) (by omega)) ⟨pk_in (22 * r + i) 66 (by omega) (xa r i), ⟨vp_in_nI (by omega) (by decide), nm_r ((wr rfl (by omega) (rd (xa r i) (by omega) rfl)).trans (bk_up (by omega) rfl)) (nm_r (nI_1 i) (ih (i + 1) (by omega)))⟩⟩
theorem st_x0 {post : SX → Prop} {r s : Nat} (hr : r < 3) (hs : s ≤ 20) (eL : aL r = nI s) (hp : post (fp, fc, nI (s + 2), fr, aF, aL, aC, aT, aR, aX, aS, aG, aH, aN, bk aW 0 (s + 2) (fun j => aF (22 * r + j)), aM, aP, aQ)) : wpX_startTrial post (fp, fc, ft, fr, aF, aL, aC, aT, aR, aX, aS, aG, aH, aN, aW, aM, aP, aQ) (nI r) := by
  have t := st_x hr hs hp (s + 2) 0 (by omega)
  rw [bk_0 (Nat.le_refl _)] at t
  exact ⟨vp_in_nI hr (by decide), nm_r (by rw [rd rfl (by omega) eL, ca_p2]) ⟨_, t⟩⟩
theorem kt_x {post : SX → Prop} {r s : Nat} (hr : r < 3) (hs : s ≤ 20) (hp : post (fp, fc, nI (s + 2), fr, bk aF (22 * r) (22 * r + (s + 2)) (fun j => aW (j - 22 * r)), aL, aC, aT, aR, aX, aS, aG, aH, aN, aW, aM, aP, aQ)) : ∀ d i, i + d = s + 2 → wX_keepTrial_14 post (nI r) fp fc (nI (s + 2)) fr (d + 1) (nI i) (bk aF (22 * r) (22 * r + i) (fun j => aW (j - 22 * r))) aL aC aT aR aX aS aG aH aN aW aM aP aQ := by
  intro d
  induction d with
  | zero =>
    intro i h
    obtain rfl : i = s + 2 := by omega
    exact br_t (nI_le (Nat.le_refl _) (by omega)) hp
  | succ d ih =>
    intro i h
    exact br_f (nI_ge (by omega) (by omega)) ⟨vp_in_nI (by omega) (by decide), ⟨pk_in (22 * r + i) 66 (by omega) (xa r i), nm_r ((wr (xa r i) (by omega) (rd rfl (by omega) rfl)).trans (bk_up (by omega) (congrArg aW (by omega)))) (nm_r (nI_1 i) (ih (i + 1) (by omega)))⟩⟩
theorem kt_x0 {post : SX → Prop} {r s : Nat} (hr : r < 3) (hs : s ≤ 20) (hp : post (fp, fc, nI (s + 2), fr, bk aF (22 * r) (22 * r + (s + 2)) (fun j => aW (j - 22 * r)), upd aL r (nI s), aC, aT, aR, aX, aS, aG, aH, aN, aW, aM, aP, aQ)) : wpX_keepTrial post (fp, fc, nI (s + 2), fr, aF, aL, aC, aT, aR, aX, aS, aG, aH, aN, aW, aM, aP, aQ) (nI r) := by
  have t := kt_x hr hs hp (s + 2) 0 (by omega)
  rw [bk_0 (Nat.le_of_eq (Nat.add_zero _))] at t
  exact ⟨vp_in_nI hr (by decide), nm_r (wr rfl (by omega) (ca_s2 (by omega))) ⟨_, t⟩⟩
end
section
variable {fp fc fs : Int32} {aX aS bE bD bK bU bO bV aN aL bF aT aC aR bW bP bM : Nat → Int32}
theorem st_y {post : SY → Prop} {r s : Nat} (hr : r < 3) (hs : s ≤ 20) (hp : post (fp, fc, nI s, aX, aS, bE, bD, bK, bU, bO, bV, aN, aL, bF, aT, aC, aR, bk bW 0 s (fun j => bF (20 * r + j)), bP, bM)) : ∀ d i, i + d = s → wY_open_12 post (nI r) fp fc (nI s) (d + 1) (nI i) aX aS bE bD bK bU bO bV aN aL bF aT aC aR (bk bW 0 i (fun j => bF (20 * r + j))) bP bM := by
  intro d
  induction d with
  | zero =>
    intro i h
    obtain rfl : i = s := by omega
    exact br_t (nI_le (Nat.le_refl _) (by omega)) hp
  | succ d ih =>
    intro i h
    exact br_f (nI_ge (by omega) (by omega)) ⟨pk_in (20 * r + i) 60 (by omega) (ya r i), ⟨vp_in_nI (by omega) (by decide), nm_r ((wr rfl (by omega) (rd (ya r i) (by omega) rfl)).trans (bk_up (by omega) rfl)) (nm_r (nI_1 i) (ih (i + 1) (by omega)))⟩⟩
theorem st_y0 {post : SY → Prop} {r s : Nat} (hr : r < 3) (hs : s ≤ 20) (eL : aL r = nI s) (hp : post (fp, fc, nI s, aX, aS, bE, bD, bK, bU, bO, bV, aN, aL, bF, aT, aC, aR, bk bW 0 s (fun j => bF (20 * r + j)), bP, bM)) : wpY_open post (fp, fc, fs, aX, aS, bE, bD, bK, bU, bO, bV, aN, aL, bF, aT, aC, aR, bW, bP, bM) (nI r) := by
  have t := st_y hr hs hp s 0 (by omega)
  rw [bk_0 (Nat.le_refl _)] at t
  exact ⟨vp_in_nI hr (by decide), nm_r (rd rfl (by omega) eL) ⟨_, t⟩⟩
theorem kt_y {post : SY → Prop} {r s : Nat} (hr : r < 3) (hs : s ≤ 20) (hp : post (fp, fc, nI s, aX, aS, bE, bD, bK, bU, bO, bV, aN, aL, bk bF (20 * r) (20 * r + s) (fun j => bW (j - 20 * r)), aT, aC, aR, bW, bP, bM)) : ∀ d i, i + d = s → wY_keep_12 post (nI r) fp fc (nI s) (d + 1) (nI i) aX aS bE bD bK bU bO bV aN aL (bk bF (20 * r) (20 * r + i) (fun j => bW (j - 20 * r))) aT aC aR bW bP bM := by
  intro d
  induction d with
  | zero =>
    intro i h
    obtain rfl : i = s := by omega
    exact br_t (nI_le (Nat.le_refl _) (by omega)) hp
  | succ d ih =>
    intro i h
    exact br_f (nI_ge (by omega) (by omega)) ⟨vp_in_nI (by omega) (by decide), ⟨pk_in (20 * r + i) 60 (by omega) (ya r i), nm_r ((wr (ya r i) (by omega) (rd rfl (by omega) rfl)).trans (bk_up (by omega) (congrArg bW (by omega)))) (nm_r (nI_1 i) (ih (i + 1) (by omega)))⟩⟩
theorem kt_y0 {post : SY → Prop} {r s : Nat} (hr : r < 3) (hs : s ≤ 20) (hp : post (fp, fc, nI s, aX, aS, bE, bD, bK, bU, bO, bV, aN, upd aL r (nI s), bk bF (20 * r) (20 * r + s) (fun j => bW (j - 20 * r)), aT, aC, aR, bW, bP, bM)) : wpY_keep post (fp, fc, nI s, aX, aS, bE, bD, bK, bU, bO, bV, aN, aL, bF, aT, aC, aR, bW, bP, bM) (nI r) := by
  have t := kt_y hr hs hp s 0 (by omega)
  rw [bk_0 (Nat.le_of_eq (Nat.add_zero _))] at t
  exact ⟨vp_in_nI hr (by decide), nm_r (wr rfl (by omega) rfl) ⟨_, t⟩⟩
end
theorem tv_sx {aF aL bF aW : Nat → Int32} {r m : Nat} (e60 : aF (22 * r) = 60) (e61 : aF (22 * r + 1 + m) = 61) (hf : ∀ i, i < m → aF (22 * r + 1 + i) = bF (20 * r + i)) : tvX (bk aW 0 (m + 2) (fun j => aF (22 * r + j))) m (fun i => bF (20 * r + i)) := by
  intro j hj
  rw [bk_in (by omega) hj]
  by_cases h0 : j = 0
  · subst h0; exact e60
  · by_cases h1 : j ≤ m
    · rw [ew_m (by omega) h1, ← hf (j - 1) (by omega)]
      exact congrArg aF (by omega)
    · rw [ew_e (by omega), ← e61]
      exact congrArg aF (by omega)
theorem tv_sy {bF bW : Nat → Int32} {r m : Nat} : tvY (bk bW 0 m (fun j => bF (20 * r + j))) m (fun i => bF (20 * r + i)) := fun i hi => bk_in (by omega) hi
theorem rl_Fk {aF aL bF aW bW w : Nat → Int32} {p r s : Nat} (hr : r < 3) (hs : s ≤ 20) (h : rl_F aF aL bF p) (hX : tvX aW s w) (hY : tvY bW s w) (hw : wv p s w) : rl_F (bk aF (22 * r) (22 * r + (s + 2)) (fun j => aW (j - 22 * r))) (upd aL r (nI s)) (bk bF (20 * r) (20 * r + s) (fun j => bW (j - 20 * r))) p := by
  intro q hq
  by_cases e : q = r
  · subst e
    refine ⟨s, hs, pk_us, ?_, ?_, fun i hi => ?_⟩
    · rw [bk_in (by omega) (by omega), Nat.sub_self, hX 0 (by omega)]; rfl
    · rw [bk_in (by omega) (by omega), show 22 * q + 1 + s - 22 * q = s + 1 by omega, hX _ (by omega), ew_e (by omega)]
    · obtain ⟨l, hl, e⟩ := hw i hi
      rw [bk_in (by omega) (by omega), bk_in (by omega) (by omega), show 22 * q + 1 + i - 22 * q = i + 1 by omega, show 20 * q + i - 20 * q = i by omega, hX _ (by omega), hY _ hi, ew_m (by omega) (by omega)]
      exact ⟨rfl, l, hl, e⟩
  · obtain ⟨m, hm, eL, e60, e61, hf⟩ := h q hq
    refine ⟨m, hm, by rw [pk_un e]; exact eL, ?_, ?_, fun i hi => ?_⟩
    · rw [bk_out (by omega)]; exact e60
    · rw [bk_out (by omega)]; exact e61
    · rw [bk_out (by omega), bk_out (by omega)]; exact hf i hi
theorem rl_Fm {aF aL bF : Nat → Int32} {p p' : Nat} (h : rl_F aF aL bF p) (hp : p ≤ p') : rl_F aF aL bF p' := by
  intro q hq
  obtain ⟨m, hm, eL, e60, e61, hf⟩ := h q hq
  refine ⟨m, hm, eL, e60, e61, fun i hi => ?_⟩
  obtain ⟨e, l, hl, e2⟩ := hf i hi
  exact ⟨e, l, by omega, e2⟩
/-! a run is found -/
def fq (s : Nat) (w mem : Nat → Int32) (n p : Nat) : Prop := ∀ k, k < n → ew s w (p + k) = mem k
section
variable {fp fc ft fr : Int32} {aF aL aC aT aR aX aS aG aH aN aW aM aP aQ : Nat → Int32}
theorem sa_x {post : Int32 → Prop} {s n p q : Nat} {w mem : Nat → Int32} (hs : s ≤ 20) (hq : q < 32) (hpn : p + n ≤ s + 2) (eH : aH q = nI n) (hW : tvX aW s w) (hM : ∀ k, k < n → aG (22 * q + k) = mem k) (h1 : fq s w mem n p → post 1) (h0 : ¬ fq s w mem n p → post 0) : ∀ d i, i + d = n → (∀ k, k < i → ew s w (p + k) = mem k) → wX_standsAt_2 post (nI p) (nI q) fp fc ft fr aF aL aC aT aR aX aS aG aH aN aW aM aP aQ (d + 1) (nI i) := by
  intro d
  induction d with
  | zero =>
    intro i h hi
    obtain rfl : i = n := by omega
    exact ⟨vp_in_nI hq (by decide), br_t (by rw [rd rfl (by omega) eH]; exact nI_le (by omega) (by omega)) (h1 hi)⟩
  | succ d ih =>
    intro i h hi
    refine ⟨vp_in_nI hq (by decide), br_f (by rw [rd rfl (by omega) eH]; exact nI_ge (by omega) (by omega)) ⟨pk_in (p + i) 22 (by omega) (nI_add _ _), pk_in (22 * q + i) 704 (by omega) (xa q i), ?_⟩⟩
    rw [rd (nI_add _ _) (by omega) (hW (p + i) (by omega)), rd (xa q i) (by omega) (hM i (by omega))]
    refine br_c (fun e => nm_r (nI_1 i) (ih (i + 1) (by omega) ?_)) (fun e => h0 (fun z => e (z i (by omega))))
    intro j hj
    by_cases ej : j = i
    · rw [ej]; exact e
    · exact hi j (by omega)
theorem fi_n {post : Int32 → Prop} {s n q : Nat} {w mem : Nat → Int32} (hs : s ≤ 20) (hn : n ≤ 22) (hq : q < 32) (eH : aH q = nI n) (hW : tvX aW s w) (hM : ∀ k, k < n → aG (22 * q + k) = mem k) (hN : ∀ p, p + n ≤ s + 2 → ¬ fq s w mem n p) (hp : post (-1)) : ∀ d p, p + d = s + 3 - n → wX_findInTrial_2 post (nI q) fp fc (nI (s + 2)) fr aF aL aC aT aR aX aS aG aH aN aW aM aP aQ (d + 1) (nI p) := by
  intro d
  induction d with
  | zero =>
    intro p h
    exact ⟨vp_in_nI hq (by decide), br_t (by rw [rd rfl (by omega) eH, nI_add]; exact nI_lt (by omega) (by omega)) hp⟩
  | succ d ih =>
    intro p h
    refine ⟨vp_in_nI hq (by decide), br_f (by rw [rd rfl (by omega) eH, nI_add]; exact nI_nlt (by omega) (by omega)) ⟨n + 1, sa_x hs hq (by omega) eH hW hM (fun z => absurd z (hN p (by omega))) (fun _ => br_t rfl (nm_r (nI_1 p) (ih (p + 1) (by omega)))) n 0 (by omega) (fun k h => absurd h (Nat.not_lt_zero k))⟩⟩
theorem fi_s {post : Int32 → Prop} {s n q p0 : Nat} {w mem : Nat → Int32} (hs : s ≤ 20) (hn : n ≤ 22) (hq : q < 32) (eH : aH q = nI n) (hW : tvX aW s w) (hM : ∀ k, k < n → aG (22 * q + k) = mem k) (h0 : p0 + n ≤ s + 2) (hS : fq s w mem n p0) (hN : ∀ p, p < p0 → ¬ fq s w mem n p) (hp : post (nI p0)) : ∀ d p, p + d = p0 → wX_findInTrial_2 post (nI q) fp fc (nI (s + 2)) fr aF aL aC aT aR aX aS aG aH aN aW aM aP aQ (d + 1) (nI p) := by
  intro d
  induction d with
  | zero =>
    intro p h
    obtain rfl : p = p0 := by omega
    exact ⟨vp_in_nI hq (by decide), br_f (by rw [rd rfl (by omega) eH, nI_add]; exact nI_nlt (by omega) (by omega)) ⟨n + 1, sa_x hs hq (by omega) eH hW hM (fun _ => br_f ca_10 hp) (fun z => absurd hS z) n 0 (by omega) (fun k h => absurd h (Nat.not_lt_zero k))⟩⟩
  | succ d ih =>
    intro p h
    refine ⟨vp_in_nI hq (by decide), br_f (by rw [rd rfl (by omega) eH, nI_add]; exact nI_nlt (by omega) (by omega)) ⟨n + 1, sa_x hs hq (by omega) eH hW hM (fun z => absurd z (hN p (by omega))) (fun _ => br_t rfl (nm_r (nI_1 p) (ih (p + 1) (by omega)))) n 0 (by omega) (fun k h => absurd h (Nat.not_lt_zero k))⟩⟩
end
