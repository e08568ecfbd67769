/-! the table of the component -/
def dX (q : Nat → Nat → Bool) (m n : Nat) (aM : Nat → Int32) (e f : Nat) : Prop := ∀ i j, i ≤ m → j ≤ n → (e ≤ i ∨ (i + 1 = e ∧ f ≤ j)) → aM (22 * (i + 1) + (j + 1)) = nI (gT q m n i j)
theorem dX_u {q : Nat → Nat → Bool} {m n e f : Nat} {aM : Nat → Int32} {x : Int32} (hn : n ≤ 20) (hf : f ≤ n) (h : dX q m n aM (e + 1) (f + 1)) (hx : x = nI (gT q m n e f)) : dX q m n (upd aM (22 * (e + 1) + (f + 1)) x) (e + 1) f := by
  intro i j hi hj hd
  by_cases e1 : i = e ∧ j = f
  · rw [e1.1, e1.2, pk_us, hx]
  · rw [pk_un (by omega)]
    exact h i j hi hj (by omega)
theorem dX_n {q : Nat → Nat → Bool} {m n e : Nat} {aM : Nat → Int32} (h : dX q m n aM (e + 1) 0) : dX q m n aM e (n + 1) := by
  intro i j hi hj hd
  exact h i j hi hj (by omega)
def fit (aX aC bF : Nat → Int32) (r : Nat) : Nat → Nat → Bool := fun i j => decide (aX (bF (20 * r + i)).toNatClampNeg = aC (20 * r + j))
section
variable {fp fc ft fr : Int32} {aF aL aC aT aR aX aS aG aH aN aW aM aP aQ : Nat → Int32} {bF : Nat → Int32}
theorem xs_f {post : Int32 → Prop} {r i j l : Nat} (hr : r < 3) (hi : i < 20) (hj : j < 20) (hl : l < 60) (e1 : aF (22 * r + 1 + i) = bF (20 * r + i)) (e2 : bF (20 * r + i) = nI l) (h1 : fit aX aC bF r i j = true → post 1) (h0 : fit aX aC bF r i j = false → post 0) : wpX_isSameText post (fp, fc, ft, fr, aF, aL, aC, aT, aR, aX, aS, aG, aH, aN, aW, aM, aP, aQ) (nI r) (nI (i + 1)) (nI (j + 1)) := by
  have e3 : aX (bF (20 * r + i)).toNatClampNeg = aX l := by rw [e2, nI_clamp (by omega)]
  refine xs_x hr hi hj hl (e1.trans e2) (fun z => h1 ?_) (fun z => h0 ?_)
  · unfold fit; rw [e3, z]; simp
  · unfold fit; rw [e3]; exact decide_eq_false z
theorem gt_x {post : Int32 → Prop} {a b : Nat} (ha : a < 1000) (hb : b < 1000) (hp : post (nI (max a b))) : wpX_greater post (nI a) (nI b) := by
  refine pk_le a b (fun h => ?_) (fun h => ?_)
  · rw [Nat.max_eq_right h] at hp; exact hp
  · rw [Nat.max_eq_left (by omega)] at hp; exact hp
theorem mc_i {post : SX → Prop} {J : Int32 → (Nat → Int32) → (Nat → Int32) → (Nat → Int32) → (Nat → Int32) → (Nat → Int32) → (Nat → Int32) → (Nat → Int32) → (Nat → Int32) → (Nat → Int32) → (Nat → Int32) → (Nat → Int32) → (Nat → Int32) → (Nat → Int32) → (Nat → Int32) → Prop} {r m n e : Nat} (hr : r < 3) (hm : m ≤ 20) (hn : n ≤ 20) (he : e ≤ m) (hf : ∀ i, i < m → aF (22 * r + 1 + i) = bF (20 * r + i) ∧ ∃ l, l < 60 ∧ bF (20 * r + i) = nI l) (hJ : ∀ aM, dX (fit aX aC bF r) m n aM e (n + 1) → J (nI e) aF aL aC aT aR aX aS aG aH aN aW aM aP aQ) : ∀ f, f ≤ n + 1 → ∀ aM, dX (fit aX aC bF r) m n aM (e + 1) f → wX_measureCommon_30 post J (nI r) (nI m) (nI n) (nI (e + 1)) fp fc ft fr (f + 1) (nI f) aF aL aC aT aR aX aS aG aH aN aW aM aP aQ := by
  intro f
  induction f with
  | zero =>
    intro _ aM hd
    exact br_t (by decide) (nm_r (pk_m1 e) (hJ aM (dX_n hd)))
  | succ f ih =>
    intro hfn aM hd
    have e1 : nI (e + 1) * 22 + nI (f + 1) = nI (22 * (e + 1) + (f + 1)) := xa _ _
    have w0 : gT (fit aX aC bF r) m n e f = 0 → wX_measureCommon_58 post J (wX_measureCommon_30 post J (nI r) (nI m) (nI n) (nI (e + 1)) fp fc ft fr (f + 1)) (nI r) (nI m) (nI n) (nI (e + 1)) (nI (f + 1)) (nI (22 * (e + 1) + (f + 1))) fp fc ft fr aF aL aC aT aR aX aS aG aH aN aW aM aP aQ := fun z =>
      ⟨vp_in_nI (by omega) (by decide), nm_r (wr rfl (by omega) rfl) (nm_r (pk_m1 f) (ih (by omega) _ (dX_u hn (by omega) hd (by rw [z]; rfl))))⟩
    refine br_f (nI_nlt (b := 1) (by omega) (by omega)) (nm_r e1 ?_)
    by_cases h1 : m < e + 1
    · exact br_t (nI_lt h1 (by omega)) (w0 (gT_i _ (by omega)))
    · refine br_f (nI_nlt (by omega) (by omega)) ?_
      by_cases h2 : f + 1 ≤ n
      · obtain ⟨a1, l, hl, a2⟩ := hf e (by omega)
        refine br_t (nI_le h2 (by omega)) (xs_f hr (by omega) (by omega) hl a1 a2 (fun hy => ?_) (fun hy => ?_))
        · have e2 : nI (22 * (e + 1) + (f + 1)) + 22 + 1 = nI (22 * (e + 1 + 1) + (f + 1 + 1)) := by rw [ca_22, nI_1]; exact congrArg nI (by omega)
          refine br_f ca_10 ⟨pk_in _ 484 (by omega) e2, ⟨vp_in_nI (by omega) (by decide), nm_r (wr rfl (by omega) rfl) (nm_r (pk_m1 f) (ih (by omega) _ (dX_u hn (by omega) hd ?_)))⟩⟩
          rw [rd (a := aM) e2 (by omega) (hd (e + 1) (f + 1) (by omega) (by omega) (by omega)), nI_1, gT_t _ (by omega) (by omega) hy]
        · have e2 : nI (22 * (e + 1) + (f + 1)) + 22 = nI (22 * (e + 1 + 1) + (f + 1)) := by rw [ca_22]; exact congrArg nI (by omega)
          have e3 : nI (22 * (e + 1) + (f + 1)) + 1 = nI (22 * (e + 1) + (f + 1 + 1)) := nI_1 _
          refine br_t rfl ⟨pk_in _ 484 (by omega) e2, pk_in _ 484 (by omega) e3, ?_⟩
          rw [rd (a := aM) e2 (by omega) (hd (e + 1) f (by omega) (by omega) (by omega)), rd (a := aM) e3 (by omega) (hd e (f + 1) (by omega) (by omega) (by omega))]
          have b1 := gT_le (fit aX aC bF r) m n (e + 1) f
          have b2 := gT_le (fit aX aC bF r) m n e (f + 1)
          exact gt_x (by omega) (by omega) ⟨vp_in_nI (by omega) (by decide), nm_r (wr rfl (by omega) rfl) (nm_r (pk_m1 f) (ih (by omega) _ (dX_u hn (by omega) hd (by rw [gT_f _ (by omega) (by omega) hy]))))⟩
      · exact br_f (nI_ge (by omega) (by omega)) (w0 (gT_j _ (by omega)))
theorem mc_o {post : SX → Prop} {r m n : Nat} (hr : r < 3) (hm : m ≤ 20) (hn : n ≤ 20) (hf : ∀ i, i < m → aF (22 * r + 1 + i) = bF (20 * r + i) ∧ ∃ l, l < 60 ∧ bF (20 * r + i) = nI l) (hp : ∀ aM, dX (fit aX aC bF r) m n aM 0 (n + 1) → post (fp, fc, ft, fr, aF, aL, aC, aT, aR, aX, aS, aG, aH, aN, aW, aM, aP, aQ)) : ∀ e, e ≤ m + 1 → ∀ aM, dX (fit aX aC bF r) m n aM e (n + 1) → wX_measureCommon_19 post (nI r) (nI m) (nI n) fp fc ft fr (e + 1) (nI e) aF aL aC aT aR aX aS aG aH aN aW aM aP aQ := by
  intro e
  induction e with
  | zero => intro _ aM hd; exact br_t (by decide) (hp aM hd)
  | succ e ih =>
    intro he aM hd
    refine br_f (nI_nlt (b := 1) (by omega) (by omega)) (nm_r (nI_1 n) ⟨n + 1 + 1, mc_i hr hm hn (by omega) hf (fun aM' hd' => ih (by omega) aM' hd') (n + 1) (Nat.le_refl _) aM ?_⟩)
    exact hd
theorem mc_x {post : SX → Prop} {r m n : Nat} (hr : r < 3) (hm : m ≤ 20) (hn : n ≤ 20) (eL : aL r = nI m) (eT : aT r = nI n) (hf : ∀ i, i < m → aF (22 * r + 1 + i) = bF (20 * r + i) ∧ ∃ l, l < 60 ∧ bF (20 * r + i) = nI l) (hp : ∀ aM, dX (fit aX aC bF r) m n aM 0 (n + 1) → post (fp, fc, ft, fr, aF, aL, aC, aT, aR, aX, aS, aG, aH, aN, aW, aM, aP, aQ)) : wpX_measureCommon post (fp, fc, ft, fr, aF, aL, aC, aT, aR, aX, aS, aG, aH, aN, aW, aM, aP, aQ) (nI r) :=
  ⟨vp_in_nI hr (by decide), nm_r (rd rfl (by omega) eL) ⟨vp_in_nI hr (by decide), nm_r (rd rfl (by omega) eT) (nm_r (nI_1 m) ⟨_, mc_o hr hm hn hf hp (m + 1) (Nat.le_refl _) aM (fun i j hi hj hd => by omega)⟩)⟩⟩
/-! the first partner -/
theorem fp_l {post : Int32 → Prop} {r m n i fr0 : Nat} (hr : r < 3) (hm : m ≤ 20) (hn : n ≤ 20) (hi : i < m) (eT : aT r = nI n) (hf : ∀ i, i < m → aF (22 * r + 1 + i) = bF (20 * r + i) ∧ ∃ l, l < 60 ∧ bF (20 * r + i) = nI l) (hd : dX (fit aX aC bF r) m n aM 0 (n + 1)) : ∀ d j, j + d = n → (∀ k, gf (gP (fit aX aC bF r) m n i fr0) d j = some k → post (nI (k + 1))) → (gf (gP (fit aX aC bF r) m n i fr0) d j = none → post (-1)) → wX_firstPartner_28 post (nI r) (nI (i + 1)) (nI (gT (fit aX aC bF r) m n i fr0)) fp fc ft fr aF aL aC aT aR aX aS aG aH aN aW aM aP aQ (d + 1) (nI (j + 1)) := by
  intro d
  induction d with
  | zero =>
    intro j h hS hN
    exact ⟨vp_in_nI hr (by decide), br_t (by rw [rd (a := aT) rfl (by omega) eT]; exact nI_lt (by omega) (by omega)) (hN rfl)⟩
  | succ d ih =>
    intro j h hS hN
    have e2 : (nI (i + 1) + 1) * 22 + nI (j + 1) + 1 = nI (22 * (i + 1 + 1) + (j + 1 + 1)) := by rw [nI_1 (i + 1), xa, nI_1]; exact congrArg nI (by omega)
    have b1 := gT_le (fit aX aC bF r) m n (i + 1) (j + 1)
    have b2 := gT_le (fit aX aC bF r) m n i fr0
    refine ⟨vp_in_nI hr (by decide), br_f (by rw [rd (a := aT) rfl (by omega) eT]; exact nI_nlt (by omega) (by omega)) ⟨pk_in _ 484 (by omega) e2, ?_⟩⟩
    rw [rd (a := aM) e2 (by omega) (hd (i + 1) (j + 1) (by omega) (by omega) (by omega)), nI_1 (gT (fit aX aC bF r) m n (i + 1) (j + 1))]
    have nx : gP (fit aX aC bF r) m n i fr0 j = false → wX_firstPartner_28 post (nI r) (nI (i + 1)) (nI (gT (fit aX aC bF r) m n i fr0)) fp fc ft fr aF aL aC aT aR aX aS aG aH aN aW aM aP aQ (d + 1) (nI (j + 1 + 1)) := by
      intro z
      rw [gf_f z] at hS hN
      exact ih (j + 1) (by omega) hS hN
    obtain ⟨a1, l, hl, a2⟩ := hf i hi
    refine pk_eq (gT (fit aX aC bF r) m n (i + 1) (j + 1) + 1) (gT (fit aX aC bF r) m n i fr0) (fun hy => ?_) (fun hy => ?_)
    · refine br_f ca_10 (xs_f hr (by omega) (by omega) hl a1 a2 (fun hz => br_f ca_10 (hS j ?_)) (fun hz => br_t rfl (nm_r (nI_1 (j + 1)) (nx ?_))))
      · exact gf_t (by unfold gP; rw [hz, hy]; simp)
      · unfold gP; rw [hz]; rfl
    · refine br_t rfl (nm_r (nI_1 (j + 1)) (nx ?_))
      unfold gP
      rw [beq_eq_false_iff_ne.mpr hy, Bool.and_false]
theorem fp_x {post : Int32 → Prop} {r m n i np fr0 : Nat} (hr : r < 3) (hm : m ≤ 20) (hn : n ≤ 20) (hi : i < m) (hnp : np < 22) (hfr : fr0 ≤ n) (eT : aT r = nI n) (hf : ∀ i, i < m → aF (22 * r + 1 + i) = bF (20 * r + i) ∧ ∃ l, l < 60 ∧ bF (20 * r + i) = nI l) (hd : dX (fit aX aC bF r) m n aM 0 (n + 1)) (eQ : aQ np = nI fr0) (hS : ∀ k, gf (gP (fit aX aC bF r) m n i fr0) (n - fr0) fr0 = some k → post (nI (k + 1))) (hN : gf (gP (fit aX aC bF r) m n i fr0) (n - fr0) fr0 = none → post (-1)) : wpX_firstPartner post (fp, fc, ft, nI np, aF, aL, aC, aT, aR, aX, aS, aG, aH, aN, aW, aM, aP, aQ) (nI r) (nI (i + 1)) := by
  have e1 : nI (i + 1) * 22 + nI (fr0 + 1) = nI (22 * (i + 1) + (fr0 + 1)) := xa _ _
  exact ⟨vp_in_nI hnp (by decide), nm_r (e' := nI (fr0 + 1)) (by rw [rd (a := aQ) rfl (by omega) eQ, nI_1]) ⟨pk_in _ 484 (by omega) e1, nm_r (rd (a := aM) e1 (by omega) (hd i fr0 (by omega) (by omega) (by omega))) ⟨_, fp_l hr hm hn hi eT hf hd (n - fr0) fr0 (by omega) hS hN⟩⟩⟩
/-! the pairs -/
def pX (aP aQ : Nat → Int32) (s : Nat × (Nat → Nat) × (Nat → Nat)) : Prop := ∀ k, k ≤ s.1 → aP k = nI (s.2.1 k) ∧ aQ k = nI (s.2.2 k)
theorem mt_l {post : SX → Prop} {r m n : Nat} (hr : r < 3) (hm : m ≤ 20) (hn : n ≤ 20) (eL : aL r = nI m) (eT : aT r = nI n) (hf : ∀ i, i < m → aF (22 * r + 1 + i) = bF (20 * r + i) ∧ ∃ l, l < 60 ∧ bF (20 * r + i) = nI l) (hd : dX (fit aX aC bF r) m n aM 0 (n + 1)) (hp : ∀ aP aQ, pX aP aQ (gs (fit aX aC bF r) m n m) → aP ((gs (fit aX aC bF r) m n m).1 + 1) = nI (m + 1) → aQ ((gs (fit aX aC bF r) m n m).1 + 1) = nI (n + 1) → post (fp, fc, ft, nI (gs (fit aX aC bF r) m n m).1, aF, aL, aC, aT, aR, aX, aS, aG, aH, aN, aW, aM, aP, aQ)) : ∀ d i, i + d = m → ∀ aP aQ, pX aP aQ (gs (fit aX aC bF r) m n i) → wX_matchTexts_26 post (nI r) fp fc ft (d + 1) (nI (i + 1)) (nI (gs (fit aX aC bF r) m n i).1) aF aL aC aT aR aX aS aG aH aN aW aM aP aQ := by
  intro d
  induction d with
  | zero =>
    intro i h aP aQ hP
    obtain rfl : i = m := by omega
    have g := gI_i (q := fit aX aC bF r) (m := i) (n := n) i (Nat.le_refl _)
    have g1 := g.1
    have e1 : nI (gs (fit aX aC bF r) i n i).1 + 1 = nI ((gs (fit aX aC bF r) i n i).1 + 1) := nI_1 _
    refine ⟨vp_in_nI hr (by decide), br_t (by rw [rd (a := aL) rfl (by omega) eL]; exact nI_lt (by omega) (by omega)) ⟨vp_in_nI hr (by decide), ⟨pk_in _ 22 (by omega) e1, nm_r (wr e1 (by omega) (by rw [rd (a := aL) rfl (by omega) eL, nI_1])) ⟨vp_in_nI hr (by decide), ⟨pk_in _ 22 (by omega) e1, nm_r (wr e1 (by omega) (by rw [rd (a := aT) rfl (by omega) eT, nI_1])) (hp _ _ ?_ pk_us pk_us)⟩⟩⟩⟩⟩
    intro k hk
    rw [pk_un (by omega), pk_un (by omega)]
    exact hP k hk
  | succ d ih =>
    intro i h aP aQ hP
    have g := gI_i (q := fit aX aC bF r) (m := m) (n := n) i (by omega)
    have g1 := g.1
    have g2 := g.2.1
    refine ⟨vp_in_nI hr (by decide), br_f (by rw [rd (a := aL) rfl (by omega) eL]; exact nI_nlt (by omega) (by omega)) (fp_x hr hm hn (by omega) (by omega) g2 eT hf hd (hP _ (Nat.le_refl _)).2 (fun k hk => br_f (ca_ne1 ?_) (nm_r (nI_1 _) ⟨vp_in_nI (by omega) (by decide), nm_r (wr rfl (by omega) rfl) ⟨vp_in_nI (by omega) (by decide), nm_r (wr rfl (by omega) rfl) (nm_r (nI_1 (i + 1)) ?_)⟩⟩)) (fun hk => br_t rfl (nm_r (nI_1 (i + 1)) ?_)))⟩
    · have := gf_s hk; omega
    · have e0 : gs (fit aX aC bF r) m n (i + 1) = _ := gst_s hk
      have := ih (i + 1) (by omega) (upd aP ((gs (fit aX aC bF r) m n i).1 + 1) (nI (i + 1))) (upd aQ ((gs (fit aX aC bF r) m n i).1 + 1) (nI (k + 1)))
      rw [e0] at this
      refine this ?_
      intro x hx
      dsimp only at hx ⊢
      by_cases ex : x = (gs (fit aX aC bF r) m n i).1 + 1
      · rw [ex, pk_us, pk_us, nu_s, nu_s]; exact ⟨rfl, rfl⟩
      · rw [pk_un ex, pk_un ex, nu_n ex, nu_n ex]; exact hP x (by omega)
    · have e0 : gs (fit aX aC bF r) m n (i + 1) = _ := gst_n hk
      have := ih (i + 1) (by omega) aP aQ
      rw [e0] at this
      exact this hP
theorem mt_X {post : SX → Prop} {r m n : Nat} (hr : r < 3) (hm : m ≤ 20) (hn : n ≤ 20) (eL : aL r = nI m) (eT : aT r = nI n) (hf : ∀ i, i < m → aF (22 * r + 1 + i) = bF (20 * r + i) ∧ ∃ l, l < 60 ∧ bF (20 * r + i) = nI l) (hp : ∀ aM aP aQ, pX aP aQ (gs (fit aX aC bF r) m n m) → aP ((gs (fit aX aC bF r) m n m).1 + 1) = nI (m + 1) → aQ ((gs (fit aX aC bF r) m n m).1 + 1) = nI (n + 1) → post (fp, fc, ft, nI (gs (fit aX aC bF r) m n m).1, aF, aL, aC, aT, aR, aX, aS, aG, aH, aN, aW, aM, aP, aQ)) : wpX_matchTexts post (fp, fc, ft, fr, aF, aL, aC, aT, aR, aX, aS, aG, aH, aN, aW, aM, aP, aQ) (nI r) := by
  unfold wpX_matchTexts
  refine mc_x hr hm hn eL eT hf (fun aM hd => nm_r rfl (nm_r rfl ⟨m + 1, mt_l hr hm hn eL eT hf hd (fun aP aQ h1 h2 h3 => hp aM aP aQ h1 h2 h3) m 0 (by omega) _ _ ?_⟩))
  intro k hk
  obtain rfl : k = 0 := by
    have : (gs (fit aX aC bF r) m n 0).1 = 0 := rfl
    omega
  rw [pk_us, pk_us]
  exact ⟨rfl, rfl⟩
end
