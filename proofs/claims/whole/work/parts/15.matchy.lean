/-! the table of the reference -/
def dY (q : Nat → Nat → Bool) (m n : Nat) (bM : Nat → Int32) (e f : Nat) : Prop := ∀ i j, i ≤ m → j ≤ n → (e ≤ i ∨ (i + 1 = e ∧ f ≤ j)) → bM (22 * i + j) = nI (gT q m n i j)
theorem dY_u {q : Nat → Nat → Bool} {m n e f : Nat} {bM : Nat → Int32} {x : Int32} (hn : n ≤ 20) (hf : f ≤ n) (h : dY q m n bM (e + 1) (f + 1)) (hx : x = nI (gT q m n e f)) : dY q m n (upd bM (22 * e + f) x) (e + 1) f := by
  intro i j hi hj hd
  by_cases e1 : i = e ∧ j = f
  · rw [e1.1, e1.2, pk_us, hx]
  · rw [pk_un (by omega)]
    exact h i j hi hj (by omega)
theorem dY_n {q : Nat → Nat → Bool} {m n e : Nat} {bM : Nat → Int32} (h : dY q m n bM (e + 1) 0) : dY q m n bM e (n + 1) := by
  intro i j hi hj hd
  exact h i j hi hj (by omega)
theorem ca_m10 : nI 0 - 1 = (-1 : Int32) := by decide
theorem ca_pm (a : Nat) : nI a + (-1) = nI a - 1 := (Int32.sub_eq_add_neg _ _).symm
section
variable {fp fc fs : Int32} {aX aS bE bD bK bU bO bV aN aL bF aT aC aR bW bP bM : Nat → Int32}
theorem fi_f {post : Int32 → Prop} {r i j l : Nat} (hr : r < 3) (hi : i < 20) (hj : j < 20) (hl : l < 60) (e2 : bF (20 * r + i) = nI l) (h1 : fit aX aC bF r i j = true → post 1) (h0 : fit aX aC bF r i j = false → post 0) : wpY_fits post (fp, fc, fs, aX, aS, bE, bD, bK, bU, bO, bV, aN, aL, bF, aT, aC, aR, bW, bP, bM) (nI r) (nI i) (nI j) := by
  have e3 : aX (bF (20 * r + i)).toNatClampNeg = aX l := by rw [e2, nI_clamp (by omega)]
  refine fi_y hr hi hj hl e2 (fun z => h1 ?_) (fun z => h0 ?_)
  · unfold fit; rw [e3, z]; simp
  · unfold fit; rw [e3]; exact decide_eq_false z
theorem cp_8 {post : SY → Prop} {J K : Int32 → (Nat → Int32) → (Nat → Int32) → (Nat → Int32) → (Nat → Int32) → (Nat → Int32) → (Nat → Int32) → (Nat → Int32) → (Nat → Int32) → (Nat → Int32) → (Nat → Int32) → (Nat → Int32) → (Nat → Int32) → (Nat → Int32) → (Nat → Int32) → (Nat → Int32) → (Nat → Int32) → (Nat → Int32) → Prop} {x1 x2 x3 : Int32} {a b c : Nat} (ha : a < 1000) (hb : b < 1000) (hc : c < 1000) (hp : wY_countPairs_142 post J K x1 x2 x3 (nI (max (max a b) c)) fp fc fs aX aS bE bD bK bU bO bV aN aL bF aT aC aR bW bP bM) : wY_countPairs_108 post J K x1 x2 x3 (nI a) (nI b) (nI c) fp fc fs aX aS bE bD bK bU bO bV aN aL bF aT aC aR bW bP bM := by
  refine pk_le a b (fun h => ?_) (fun h => ?_)
  · refine pk_le c b (fun h2 => ?_) (fun h2 => ?_)
    · rw [show max (max a b) c = b by omega] at hp; exact hp
    · rw [show max (max a b) c = c by omega] at hp; exact hp
  · refine pk_le c a (fun h2 => ?_) (fun h2 => ?_)
    · rw [show max (max a b) c = a by omega] at hp; exact hp
    · rw [show max (max a b) c = c by omega] at hp; exact hp
theorem cp_i {post : SY → Prop} {J : Int32 → (Nat → Int32) → (Nat → Int32) → (Nat → Int32) → (Nat → Int32) → (Nat → Int32) → (Nat → Int32) → (Nat → Int32) → (Nat → Int32) → (Nat → Int32) → (Nat → Int32) → (Nat → Int32) → (Nat → Int32) → (Nat → Int32) → (Nat → Int32) → (Nat → Int32) → (Nat → Int32) → (Nat → Int32) → Prop} {r m n e : Nat} (hr : r < 3) (hm : m ≤ 20) (hn : n ≤ 20) (he : e ≤ m) (eL : aL r = nI m) (eT : aT r = nI n) (hf : ∀ i, i < m → ∃ l, l < 60 ∧ bF (20 * r + i) = nI l) (hJ : ∀ bM, dY (fit aX aC bF r) m n bM e (n + 1) → J (nI e - 1) aX aS bE bD bK bU bO bV aN aL bF aT aC aR bW bP bM) : ∀ f, f ≤ n + 1 → ∀ bM, dY (fit aX aC bF r) m n bM (e + 1) f → wY_countPairs_18 post J (nI r) (nI e) fp fc fs (f + 1) (nI f - 1) aX aS bE bD bK bU bO bV aN aL bF aT aC aR bW bP bM := by
  intro f
  induction f with
  | zero =>
    intro _ bM hd
    exact br_t (by decide) (nm_r (ca_pm e) (hJ bM (dY_n hd)))
  | succ f ih =>
    intro hfn bM hd
    rw [show nI (f + 1) - 1 = nI f from ca_z f]
    have e1 : 22 * nI e + nI f = nI (22 * e + f) := by rw [ca_l22, nI_add]
    have wz : ∀ x, x = nI (gT (fit aX aC bF r) m n e f) → wY_countPairs_142 post J (wY_countPairs_18 post J (nI r) (nI e) fp fc fs (f + 1)) (nI r) (nI e) (nI f) x fp fc fs aX aS bE bD bK bU bO bV aN aL bF aT aC aR bW bP bM := fun x z =>
      ⟨pk_in _ 484 (by omega) e1, nm_r (wr e1 (by omega) rfl) (nm_r (ca_pm f) (ih (by omega) _ (dY_u hn (by omega) hd z)))⟩
    refine br_f (nI_pos (by omega)) ⟨vp_in_nI hr (by decide), ?_⟩
    rw [rd (a := aL) rfl (by omega) eL]
    by_cases h1 : m ≤ e
    · exact br_t (nI_le h1 (by omega)) (wz 0 (by rw [gT_i _ (by omega)]; rfl))
    · refine br_f (nI_ge (by omega) (by omega)) ⟨vp_in_nI hr (by decide), ?_⟩
      rw [rd (a := aT) rfl (by omega) eT]
      by_cases h2 : n ≤ f
      · exact br_t (nI_le h2 (by omega)) (wz 0 (by rw [gT_j _ (by omega)]; rfl))
      · have e2 : 22 * nI e + 22 + nI f = nI (22 * (e + 1) + f) := by rw [ca_l22, ca_22, nI_add]; exact congrArg nI (by omega)
        have e3 : 22 * nI e + nI f + 1 = nI (22 * e + (f + 1)) := by rw [e1, nI_1]; rfl
        have e4 : 22 * nI e + 22 + nI f + 1 = nI (22 * (e + 1) + (f + 1)) := by rw [e2, nI_1]; rfl
        have b1 := gT_le (fit aX aC bF r) m n (e + 1) f
        have b2 := gT_le (fit aX aC bF r) m n e (f + 1)
        have b3 := gT_le (fit aX aC bF r) m n (e + 1) (f + 1)
        have b4 := gT_ge (fit aX aC bF r) m n e f
        obtain ⟨l, hl, a2⟩ := hf e (by omega)
        refine br_f (nI_ge (by omega) (by omega)) ⟨pk_in _ 484 (by omega) e2, nm_r (rd (a := bM) e2 (by omega) (hd (e + 1) f (by omega) (by omega) (by omega))) ⟨pk_in _ 484 (by omega) e3, nm_r (rd (a := bM) e3 (by omega) (hd e (f + 1) (by omega) (by omega) (by omega))) (fi_f hr (by omega) (by omega) hl a2 (fun hy => br_f ca_10 ⟨pk_in _ 484 (by omega) e4, ?_⟩) (fun hy => br_t rfl ?_))⟩⟩
        · rw [rd (a := bM) e4 (by omega) (hd (e + 1) (f + 1) (by omega) (by omega) (by omega)), nI_1 (gT (fit aX aC bF r) m n (e + 1) (f + 1))]
          have b5 := gT_t (fit aX aC bF r) (m := m) (n := n) (by omega) (by omega) hy
          exact cp_8 (by omega) (by omega) (by omega) (wz _ (congrArg nI (by omega)))
        · have b5 := gT_f (fit aX aC bF r) (m := m) (n := n) (by omega) (by omega) hy
          exact cp_8 (c := 0) (by omega) (by omega) (by omega) (wz _ (congrArg nI (by omega)))
theorem cp_o {post : SY → Prop} {r m n : Nat} (hr : r < 3) (hm : m ≤ 20) (hn : n ≤ 20) (eL : aL r = nI m) (eT : aT r = nI n) (hf : ∀ i, i < m → ∃ l, l < 60 ∧ bF (20 * r + i) = nI l) (hp : ∀ bM, dY (fit aX aC bF r) m n bM 0 (n + 1) → post (fp, fc, fs, aX, aS, bE, bD, bK, bU, bO, bV, aN, aL, bF, aT, aC, aR, bW, bP, bM)) : ∀ e, e ≤ m + 1 → ∀ bM, dY (fit aX aC bF r) m n bM e (n + 1) → wY_countPairs_7 post (nI r) fp fc fs (e + 1) (nI e - 1) aX aS bE bD bK bU bO bV aN aL bF aT aC aR bW bP bM := by
  intro e
  induction e with
  | zero => intro _ bM hd; exact br_t (by decide) (hp bM hd)
  | succ e ih =>
    intro he bM hd
    rw [show nI (e + 1) - 1 = nI e from ca_z e]
    refine br_f (nI_pos (by omega)) ⟨vp_in_nI hr (by decide), nm_r (e' := nI (n + 1) - 1) (by rw [rd (a := aT) rfl (by omega) eT, ca_z]) ⟨n + 1 + 1, cp_i hr hm hn (by omega) eL eT hf (fun bM' hd' => ih (by omega) bM' hd') (n + 1) (Nat.le_refl _) bM hd⟩⟩
theorem cp_y {post : SY → Prop} {r m n : Nat} (hr : r < 3) (hm : m ≤ 20) (hn : n ≤ 20) (eL : aL r = nI m) (eT : aT r = nI n) (hf : ∀ i, i < m → ∃ l, l < 60 ∧ bF (20 * r + i) = nI l) (hp : ∀ bM, dY (fit aX aC bF r) m n bM 0 (n + 1) → post (fp, fc, fs, aX, aS, bE, bD, bK, bU, bO, bV, aN, aL, bF, aT, aC, aR, bW, bP, bM)) : wpY_countPairs post (fp, fc, fs, aX, aS, bE, bD, bK, bU, bO, bV, aN, aL, bF, aT, aC, aR, bW, bP, bM) (nI r) :=
  ⟨vp_in_nI hr (by decide), nm_r (e' := nI (m + 1) - 1) (by rw [rd (a := aL) rfl (by omega) eL, ca_z]) ⟨_, cp_o hr hm hn eL eT hf hp (m + 1) (Nat.le_refl _) bM (fun i j hi hj hd => by omega)⟩⟩
/-! the pairs -/
def fo : Option Nat → Int32
  | none => -1
  | some j => nI j
def pY (bP : Nat → Int32) (s : Nat × (Nat → Nat) × (Nat → Nat)) : Prop := (∀ k, k < s.1 → bP (s.2.2 (k + 1) - 1) = nI (s.2.1 (k + 1) - 1)) ∧ (∀ j, j < 21 → (∀ k, k < s.1 → s.2.2 (k + 1) ≠ j + 1) → bP j = -1)
theorem ma_f {post : Int32 → SY → Prop} {J : Int32 → Int32 → Int32 → (Nat → Int32) → (Nat → Int32) → (Nat → Int32) → (Nat → Int32) → (Nat → Int32) → (Nat → Int32) → (Nat → Int32) → (Nat → Int32) → (Nat → Int32) → (Nat → Int32) → (Nat → Int32) → (Nat → Int32) → (Nat → Int32) → (Nat → Int32) → (Nat → Int32) → (Nat → Int32) → (Nat → Int32) → Prop} {r m n i np fr0 : Nat} (hr : r < 3) (hm : m ≤ 20) (hn : n ≤ 20) (hi : i < m) (hfr : fr0 ≤ n) (hf : ∀ i, i < m → ∃ l, l < 60 ∧ bF (20 * r + i) = nI l) (hd : dY (fit aX aC bF r) m n bM 0 (n + 1)) (hS : ∀ k, gf (gP (fit aX aC bF r) m n i fr0) (n - fr0) fr0 = some k → J (nI (np + 1)) (nI (k + 1)) (nI (i + 1)) aX aS bE bD bK bU bO bV aN aL bF aT aC aR bW (upd bP k (nI i)) bM) (hN : gf (gP (fit aX aC bF r) m n i fr0) (n - fr0) fr0 = none → J (nI np) (nI fr0) (nI (i + 1)) aX aS bE bD bK bU bO bV aN aL bF aT aC aR bW bP bM) : ∀ d, fr0 + d ≤ n → wY_match_67 post J (nI r) (nI np) (nI fr0) (nI i) (nI (gT (fit aX aC bF r) m n i fr0)) fp fc fs aX aS bE bD bK bU bO bV aN aL bF aT aC aR bW bP bM (d + 1) (fo (gf (gP (fit aX aC bF r) m n i fr0) (n - (fr0 + d)) (fr0 + d))) (nI (fr0 + d) - 1) := by
  intro d
  induction d with
  | zero =>
    intro h
    refine br_t (ca_pl (by omega)) ?_
    rw [Nat.add_zero]
    cases hg : gf (gP (fit aX aC bF r) m n i fr0) (n - fr0) fr0 with
    | none => exact br_t ca_n1 (nm_r (nI_1 i) (hN hg))
    | some k =>
      have := gf_s hg
      exact br_f (nI_pos (by omega)) ⟨vp_in_nI (by omega) (by decide), nm_r (wr rfl (by omega) rfl) (nm_r (nI_1 k) (nm_r (nI_1 np) (nm_r (nI_1 i) (hS k hg))))⟩
  | succ d ih =>
    intro h
    rw [show nI (fr0 + (d + 1)) - 1 = nI (fr0 + d) from ca_z _]
    have g1 : ∀ z, gP (fit aX aC bF r) m n i fr0 (fr0 + d) = z → gf (gP (fit aX aC bF r) m n i fr0) (n - (fr0 + d)) (fr0 + d) = if z = true then some (fr0 + d) else gf (gP (fit aX aC bF r) m n i fr0) (n - (fr0 + (d + 1))) (fr0 + (d + 1)) := by
      intro z hz
      rw [show n - (fr0 + d) = n - (fr0 + (d + 1)) + 1 by omega]
      cases z with
      | true => rw [gf_t hz, if_pos rfl]
      | false => rw [gf_f hz, if_neg (by decide)]; rfl
    have ih' := ih (by omega)
    have b1 := gT_le (fit aX aC bF r) m n (i + 1) (fr0 + d + 1)
    have b2 := gT_le (fit aX aC bF r) m n i fr0
    have ff : gP (fit aX aC bF r) m n i fr0 (fr0 + d) = false → wY_match_67 post J (nI r) (nI np) (nI fr0) (nI i) (nI (gT (fit aX aC bF r) m n i fr0)) fp fc fs aX aS bE bD bK bU bO bV aN aL bF aT aC aR bW bP bM (d + 1) (fo (gf (gP (fit aX aC bF r) m n i fr0) (n - (fr0 + (d + 1))) (fr0 + (d + 1)))) (nI (fr0 + d) - 1) := by
      intro z
      rw [g1 _ z, if_neg (by decide)] at ih'
      exact ih'
    refine br_f (nI_nlt (by omega) (by omega)) ?_
    refine pk_le (gT (fit aX aC bF r) m n i fr0) 0 (fun hz => nm_r (ca_pm _) (ff ?_)) (fun hz => ?_)
    · unfold gP
      rw [beq_eq_false_iff_ne.mpr (by omega), Bool.and_false]
    · obtain ⟨l, hl, a2⟩ := hf i hi
      have e4 : 22 * nI i + 22 + nI (fr0 + d) + 1 = nI (22 * (i + 1) + (fr0 + d + 1)) := by rw [ca_l22, ca_22, nI_add, nI_1]; exact congrArg nI (by omega)
      refine fi_f hr (by omega) (by omega) hl a2 (fun hy => br_f ca_10 ⟨pk_in _ 484 (by omega) e4, ?_⟩) (fun hy => br_t rfl (nm_r (ca_pm _) (ff (by unfold gP; rw [hy]; rfl))))
      rw [rd (a := bM) e4 (by omega) (hd (i + 1) (fr0 + d + 1) (by omega) (by omega) (by omega)), nI_1 (gT (fit aX aC bF r) m n (i + 1) (fr0 + d + 1))]
      refine pk_eq (gT (fit aX aC bF r) m n (i + 1) (fr0 + d + 1) + 1) (gT (fit aX aC bF r) m n i fr0) (fun he => nm_r (ca_pm _) ?_) (fun he => nm_r (ca_pm _) (ff ?_))
      · have z : gP (fit aX aC bF r) m n i fr0 (fr0 + d) = true := by unfold gP; rw [hy, he]; simp
        rw [g1 _ z, if_pos rfl] at ih'
        exact ih'
      · unfold gP
        rw [beq_eq_false_iff_ne.mpr he, Bool.and_false]
theorem ma_l {post : Int32 → SY → Prop} {r m n : Nat} (hr : r < 3) (hm : m ≤ 20) (hn : n ≤ 20) (eL : aL r = nI m) (eT : aT r = nI n) (hf : ∀ i, i < m → ∃ l, l < 60 ∧ bF (20 * r + i) = nI l) (hd : dY (fit aX aC bF r) m n bM 0 (n + 1)) (hp : ∀ bP, pY bP (gs (fit aX aC bF r) m n m) → post (nI (gs (fit aX aC bF r) m n m).1) (fp, fc, fs, aX, aS, bE, bD, bK, bU, bO, bV, aN, aL, bF, aT, aC, aR, bW, bP, bM)) : ∀ d i, i + d = m → ∀ bP, pY bP (gs (fit aX aC bF r) m n i) → wY_match_33 post (nI r) fp fc fs (d + 1) (nI (gs (fit aX aC bF r) m n i).1) (nI ((gs (fit aX aC bF r) m n i).2.2 (gs (fit aX aC bF r) m n i).1)) (nI i) aX aS bE bD bK bU bO bV aN aL bF aT aC aR bW bP bM := by
  intro d
  induction d with
  | zero =>
    intro i h bP hP
    obtain rfl : i = m := by omega
    exact ⟨vp_in_nI hr (by decide), br_t (by rw [rd (a := aL) rfl (by omega) eL]; exact nI_le (by omega) (by omega)) (hp bP hP)⟩
  | succ d ih =>
    intro i h bP hP
    have g := gI_i (q := fit aX aC bF r) (m := m) (n := n) i (by omega)
    obtain ⟨g1, g2, g3, g4, g5, g6, g7, g8⟩ := g
    have e0 : bM 0 = nI (gT (fit aX aC bF r) m n 0 0) := hd 0 0 (by omega) (by omega) (by omega)
    refine ⟨vp_in_nI hr (by decide), br_f (by rw [rd (a := aL) rfl (by omega) eL]; exact nI_ge (by omega) (by omega)) (nm_r (e' := nI (gT (fit aX aC bF r) m n i ((gs (fit aX aC bF r) m n i).2.2 (gs (fit aX aC bF r) m n i).1))) (by rw [e0, pk_sub (by omega)]; exact congrArg nI (by omega)) ⟨vp_in_nI hr (by decide), nm_r (e' := nI n - 1) (by rw [rd (a := aT) rfl (by omega) eT]) ?_⟩)⟩
    have t := ma_f (fp := fp) (fc := fc) (fs := fs) (aX := aX) (aS := aS) (bE := bE) (bD := bD) (bK := bK) (bU := bU) (bO := bO) (bV := bV) (aN := aN) (aL := aL) (bF := bF) (aT := aT) (aC := aC) (aR := aR) (bW := bW) (bP := bP) (bM := bM) (m := m) (n := n) (i := i) (post := post) (J := wY_match_33 post (nI r) fp fc fs (d + 1)) (np := (gs (fit aX aC bF r) m n i).1) hr hm hn (by omega) g2 hf hd ?_ ?_ (n - (gs (fit aX aC bF r) m n i).2.2 (gs (fit aX aC bF r) m n i).1) (by omega)
    · rw [show (gs (fit aX aC bF r) m n i).2.2 (gs (fit aX aC bF r) m n i).1 + (n - (gs (fit aX aC bF r) m n i).2.2 (gs (fit aX aC bF r) m n i).1) = n by omega, Nat.sub_self] at t
      exact ⟨_, t⟩
    · intro k hk
      have e1 : gs (fit aX aC bF r) m n (i + 1) = _ := gst_s hk
      have := ih (i + 1) (by omega) (upd bP k (nI i))
      rw [e1] at this
      dsimp only at this
      rw [nu_s] at this
      refine this ⟨?_, ?_⟩
      · intro x hx
        dsimp only at hx ⊢
        by_cases ex : x = (gs (fit aX aC bF r) m n i).1
        · rw [ex, nu_s, nu_s]
          show upd bP k (nI i) k = _
          rw [pk_us]; rfl
        · have a1 := gf_s hk
          rw [nu_n (by omega), nu_n (by omega), pk_un]
          · exact hP.1 x (by omega)
          · have a2 : ∀ y, y ≤ (gs (fit aX aC bF r) m n i).1 → (gs (fit aX aC bF r) m n i).2.2 y ≤ (gs (fit aX aC bF r) m n i).2.2 (gs (fit aX aC bF r) m n i).1 := by
              intro y hy
              obtain ⟨z, hz⟩ : ∃ z, y + z = (gs (fit aX aC bF r) m n i).1 := ⟨_, Nat.add_sub_of_le hy⟩
              clear this ex hx
              induction z generalizing y with
              | zero => rw [← hz]; exact Nat.le_refl _
              | succ z ihz =>
                have b1 := ihz (y + 1) (by omega) (by omega)
                have b2 := (g8 y (by omega)).2
                omega
            have a3 := a2 (x + 1) (by omega)
            have a4 := (g8 x (by omega)).2
            omega
      · intro j hj hne
        dsimp only at hne
        have a5 := hne (gs (fit aX aC bF r) m n i).1 (by omega)
        rw [nu_s] at a5
        rw [pk_un (by omega)]
        refine hP.2 j hj (fun x hx => ?_)
        have a6 := hne x (by omega)
        rw [nu_n (by omega)] at a6
        exact a6
    · intro hk
      have e1 : gs (fit aX aC bF r) m n (i + 1) = _ := gst_n hk
      have := ih (i + 1) (by omega) bP
      rw [e1] at this
      exact this hP
theorem ma_7 {post : Int32 → SY → Prop} {r : Nat} (hp : ∀ bP, (∀ j, j < 21 → bP j = -1) → ∃ n, wY_match_33 post (nI r) fp fc fs n 0 0 0 aX aS bE bD bK bU bO bV aN aL bF aT aC aR bW bP bM) : ∀ d i, i + d = 21 → ∀ bP, (∀ j, j < i → bP j = -1) → wY_match_7 post (nI r) fp fc fs (d + 1) (nI i) aX aS bE bD bK bU bO bV aN aL bF aT aC aR bW bP bM := by
  intro d
  induction d with
  | zero =>
    intro i h bP hP
    obtain rfl : i = 21 := by omega
    exact br_t (by decide) (hp bP hP)
  | succ d ih =>
    intro i h bP hP
    refine br_f (nI_ge (b := 21) (by omega) (by decide)) ⟨vp_in_nI (by omega) (by decide), nm_r (wr rfl (by omega) rfl) (nm_r (nI_1 i) (ih (i + 1) (by omega) _ (fun j hj => ?_)))⟩
    by_cases e : j = i
    · rw [e, pk_us]
    · rw [pk_un e]; exact hP j (by omega)
theorem mt_Y {post : Int32 → SY → Prop} {r m n : Nat} (hr : r < 3) (hm : m ≤ 20) (hn : n ≤ 20) (eL : aL r = nI m) (eT : aT r = nI n) (hf : ∀ i, i < m → ∃ l, l < 60 ∧ bF (20 * r + i) = nI l) (hp : ∀ bM bP, pY bP (gs (fit aX aC bF r) m n m) → post (nI (gs (fit aX aC bF r) m n m).1) (fp, fc, fs, aX, aS, bE, bD, bK, bU, bO, bV, aN, aL, bF, aT, aC, aR, bW, bP, bM)) : wpY_match post (fp, fc, fs, aX, aS, bE, bD, bK, bU, bO, bV, aN, aL, bF, aT, aC, aR, bW, bP, bM) (nI r) := by
  unfold wpY_match
  refine cp_y hr hm hn eL eT hf (fun bM hd => ⟨22, ma_7 (fun bP h1 => ⟨_, ma_l hr hm hn eL eT hf hd (fun bP hP => hp bM bP hP) m 0 (by omega) bP ⟨?_, ?_⟩⟩) 21 0 (by omega) bP (fun j h => absurd h (Nat.not_lt_zero j))⟩)
  · intro k hk; exact absurd hk (Nat.not_lt_zero k)
  · intro j hj _; exact h1 j hj
end
theorem i_vc_unrecorded {k : Nat} {u : SX} {v : SY} (I : i_Rel k u v) (hk : k + 4 ≤ 2048) (v1 : Int32) : wpX_unrecorded (fun r u' => wpY_unrecorded (fun r' v' => r' = r ∧ i_Rel (k + 4) u' v') v v1) u v1 := by
  have J := i_up I
  obtain ⟨p, c, ft, fr, fs, aF, aL, aC, aT, aR, aX, aS, aG, aH, aN, aW, aM, aP, aQ, bE, bD, bK, bU, bO, bV, bF, bW, bP, bM, rfl, rfl, hR⟩ := I
  unfold wpX_unrecorded wpY_unrecorded
  rcases rm_c v1 with ⟨r, hr, rfl⟩ | hb
  · have hR0 := hR
    obtain ⟨hp, hc, hF, hT, hR'⟩ := hR
    obtain ⟨m, hm, eL, e60, e61, hf⟩ := hF r hr
    obtain ⟨n, hn, eT⟩ := hT r hr
    have hf' : ∀ i, i < m → aF (22 * r + 1 + i) = bF (20 * r + i) ∧ ∃ l, l < 60 ∧ bF (20 * r + i) = nI l := fun i hi => by
      obtain ⟨a, l, hl, b⟩ := hf i hi
      exact ⟨a, l, by omega, b⟩
    refine rx_1 hr (br_f ca_10 (mt_X hr hm hn eL eT hf' (fun aM aP aQ _ _ _ => ⟨vp_in_nI hr (by decide), vp_in_nI hr (by decide), ?_⟩)))
    refine ry_1 hr (br_f ca_10 (mt_Y hr hm hn eL eT (fun i hi => (hf' i hi).2) (fun bM bP _ => ⟨vp_in_nI hr (by decide), vp_in_nI hr (by decide), rfl, rl_mk hR0⟩)))
  · refine rx_0 hb (br_t rfl ?_)
    exact ry_0 hb (br_t rfl ⟨rfl, J⟩)
