/-! the relation -/
def rl_F (aF aL bF : Nat → Int32) (p : Nat) : Prop := ∀ r, r < 3 → ∃ m, m ≤ 20 ∧ aL r = nI m ∧ aF (22 * r) = 60 ∧ aF (22 * r + 1 + m) = 61 ∧ ∀ i, i < m → aF (22 * r + 1 + i) = bF (20 * r + i) ∧ ∃ l, l < p ∧ bF (20 * r + i) = nI l
def rl_T (aT : Nat → Int32) : Prop := ∀ r, r < 3 → ∃ n, n ≤ 20 ∧ aT r = nI n
def rl_S (aG aH : Nat → Int32) (q : Nat) (e d k : Int32) (A : Nat → Int32) (b p : Nat) : Prop := ∃ t, t ≤ 20 ∧ k = nI t ∧ aH q = nI (t + 2) ∧ aG (22 * q) = e ∧ aG (22 * q + 1 + t) = d ∧ ∀ i, i < t → aG (22 * q + 1 + i) = A (b + i) ∧ ∃ l, l < p ∧ A (b + i) = nI l
def rl_C (aG aH bE bD bK bU bO bV : Nat → Int32) (p d : Nat) : Prop := rl_S aG aH (2 * d) (bE d) (bD d) (bK d) bO (20 * d) p ∧ rl_S aG aH (2 * d + 1) (bE d) (bD d) (bU d) bV (20 * d) p
def rl_R (p c : Nat) (aF aL bF aT aR aN aG aH bE bD bK bU bO bV : Nat → Int32) : Prop :=
  p ≤ 60 ∧ c ≤ 16 ∧ rl_F aF aL bF p ∧ rl_T aT ∧ (∀ d, d < c → rl_C aG aH bE bD bK bU bO bV p d) ∧ (∀ d, c ≤ d → d < 16 → aH (2 * d) = 0 ∧ aH (2 * d + 1) = 0) ∧ (∀ r, r < 3 → ∀ d, c ≤ d → d < 32 → bt (aR r) d = false) ∧ (∀ e, e < c → ∀ d, c ≤ d → d < 32 → bt (aN e) d = false)
def i_Rel (k : Nat) (u : SX) (v : SY) : Prop := ∃ (p c : Nat) (ft fr fs : Int32) (aF aL aC aT aR aX aS aG aH aN aW aM aP aQ bE bD bK bU bO bV bF bW bP bM : Nat → Int32), u = (nI p, nI c, ft, fr, aF, aL, aC, aT, aR, aX, aS, aG, aH, aN, aW, aM, aP, aQ) ∧ v = (nI p, nI c, fs, aX, aS, bE, bD, bK, bU, bO, bV, aN, aL, bF, aT, aC, aR, bW, bP, bM) ∧ rl_R p c aF aL bF aT aR aN aG aH bE bD bK bU bO bV
theorem i_up {k : Nat} {u : SX} {v : SY} (h : i_Rel k u v) : i_Rel (k + 4) u v := h
section
variable {p c : Nat} {fp fc ft fr : Int32} {aF aL aC aT aR aX aS aG aH aN aW aM aP aQ : Nat → Int32} {fs : Int32} {bE bD bK bU bO bV bF bW bP bM : Nat → Int32}
theorem rl_mk {k : Nat} (h : rl_R p c aF aL bF aT aR aN aG aH bE bD bK bU bO bV) : i_Rel k (nI p, nI c, ft, fr, aF, aL, aC, aT, aR, aX, aS, aG, aH, aN, aW, aM, aP, aQ) (nI p, nI c, fs, aX, aS, bE, bD, bK, bU, bO, bV, aN, aL, bF, aT, aC, aR, bW, bP, bM) := ⟨p, c, ft, fr, fs, aF, aL, aC, aT, aR, aX, aS, aG, aH, aN, aW, aM, aP, aQ, bE, bD, bK, bU, bO, bV, bF, bW, bP, bM, rfl, rfl, h⟩
end
theorem i_vc0 : wpX_init (fun u => wpY_init (fun v => i_Rel 0 u v)) := by
  refine ⟨4, br_f (by decide) ⟨pk_in 0 66 (by decide), nm_r rfl ⟨pk_in 1 66 (by decide), nm_r rfl (nm_r (e' := nI 1) rfl ?_)⟩⟩⟩
  refine br_f (by decide) ⟨pk_in 22 66 (by decide), nm_r rfl ⟨pk_in 23 66 (by decide), nm_r rfl (nm_r (e' := nI 2) rfl ?_)⟩⟩
  refine br_f (by decide) ⟨pk_in 44 66 (by decide), nm_r rfl ⟨pk_in 45 66 (by decide), nm_r rfl (nm_r (e' := nI 3) rfl ?_)⟩⟩
  refine br_t (by decide) ?_
  refine rl_mk (p := 0) (c := 0) (k := 0) ⟨by omega, by omega, ?_, ?_, fun d h => absurd h (Nat.not_lt_zero d), fun d _ _ => ⟨rfl, rfl⟩, fun r _ d _ _ => b_0 d, fun d h => absurd h (Nat.not_lt_zero d)⟩
  · intro r hr
    refine ⟨0, by omega, rfl, ?_, ?_, fun i h => absurd h (Nat.not_lt_zero i)⟩
    · obtain rfl | rfl | rfl : r = 0 ∨ r = 1 ∨ r = 2 := by omega
      · rfl
      · rfl
      · rfl
    · obtain rfl | rfl | rfl : r = 0 ∨ r = 1 ∨ r = 2 := by omega
      · rfl
      · rfl
      · rfl
  · exact fun r _ => ⟨0, by omega, rfl⟩
/-! reading, writing -/
theorem rd {a : Nat → Int32} {x y : Int32} {k : Nat} (hx : x = nI k) (hk : k < 2 ^ 31) (h : a k = y) : a x.toNatClampNeg = y := by rw [hx, nI_clamp hk, h]
theorem wr {f : Nat → Int32} {x y y' : Int32} {k : Nat} (hx : x = nI k) (hk : k < 2 ^ 31) (hy : y = y') : upd f x.toNatClampNeg y = upd f k y' := by rw [hx, nI_clamp hk, hy]
theorem ca_10 : ¬ (1 : Int32) = 0 := by decide
theorem rl_Tu {aT : Nat → Int32} {r n : Nat} (h : rl_T aT) (hn : n ≤ 20) : rl_T (upd aT r (nI n)) := by
  intro s hs
  by_cases e : s = r
  · exact ⟨n, hn, by rw [e, pk_us]⟩
  · rw [pk_un e]; exact h s hs
/-! rooms, changes -/
def rm_b (x : Int32) : Prop := x < 0 ∨ (¬ x < 0 ∧ (3 : Int32) ≤ x)
theorem rm_c (x : Int32) : (∃ r, r < 3 ∧ x = nI r) ∨ rm_b x := by
  by_cases h : x < 0
  · exact Or.inr (Or.inl h)
  · obtain ⟨j, hj, rfl⟩ := nI_of h
    by_cases h2 : j < 3
    · exact Or.inl ⟨j, h2, rfl⟩
    · exact Or.inr (Or.inr ⟨h, nI_le (a := 3) (by omega) hj⟩)
theorem rx_1 {post : Int32 → Prop} {r : Nat} (h : r < 3) (hp : post 1) : wpX_isRoom post (nI r) := br_f (nI_pos (by omega)) (br_f (nI_ge (b := 3) h (by decide)) hp)
theorem rx_0 {post : Int32 → Prop} {x : Int32} (h : rm_b x) (hp : post 0) : wpX_isRoom post x := by
  rcases h with h | ⟨h, h2⟩
  · exact br_t h hp
  · exact br_f h (br_t h2 hp)
section
variable {fp fc fs : Int32} {aX aS bE bD bK bU bO bV aN aL bF aT aC aR bW bP bM : Nat → Int32}
theorem ry_1 {post : Int32 → Prop} {r : Nat} (h : r < 3) (hp : post 1) : wpY_isRoom post (fp, fc, fs, aX, aS, bE, bD, bK, bU, bO, bV, aN, aL, bF, aT, aC, aR, bW, bP, bM) (nI r) := br_f (nI_pos (by omega)) (br_f (nI_nlt (b := r) (a := 2) (by omega) (by decide)) hp)
theorem ry_0 {post : Int32 → Prop} {x : Int32} (h : rm_b x) (hp : post 0) : wpY_isRoom post (fp, fc, fs, aX, aS, bE, bD, bK, bU, bO, bV, aN, aL, bF, aT, aC, aR, bW, bP, bM) x := by
  rcases h with h | ⟨h, h2⟩
  · exact br_t h hp
  · exact br_f h (br_t (Int32.lt_of_lt_of_le (by decide) h2) hp)
end
def rc_b (c : Nat) (x : Int32) : Prop := x < 0 ∨ (¬ x < 0 ∧ nI c ≤ x)
theorem rc_c (c : Nat) (x : Int32) : (∃ d, d < c ∧ x = nI d) ∨ rc_b c x := by
  by_cases h : x < 0
  · exact Or.inr (Or.inl h)
  · obtain ⟨j, hj, rfl⟩ := nI_of h
    by_cases h2 : j < c
    · exact Or.inl ⟨j, h2, rfl⟩
    · exact Or.inr (Or.inr ⟨h, nI_le (by omega) hj⟩)
section
variable {fp fc ft fr : Int32} {aF aL aC aT aR aX aS aG aH aN aW aM aP aQ : Nat → Int32}
theorem cx_1 {post : Int32 → Prop} {c d : Nat} (hc : c ≤ 16) (h : d < c) (hp : post 1) : wpX_isChange post (fp, nI c, ft, fr, aF, aL, aC, aT, aR, aX, aS, aG, aH, aN, aW, aM, aP, aQ) (nI d) := br_f (nI_pos (by omega)) (br_f (nI_ge h (by omega)) hp)
theorem cx_0 {post : Int32 → Prop} {c : Nat} {x : Int32} (h : rc_b c x) (hp : post 0) : wpX_isChange post (fp, nI c, ft, fr, aF, aL, aC, aT, aR, aX, aS, aG, aH, aN, aW, aM, aP, aQ) x := by
  rcases h with h | ⟨h, h2⟩
  · exact br_t h hp
  · exact br_f h (br_t h2 hp)
theorem ix_1 {post : Int32 → Prop} {s : Int32} {d : Nat} (hd : d < 32) (h : bt s d = true) (hp : post 1) : wpX_isIn post s (nI d) := br_t ((bq_in s hd).mpr h) hp
theorem ix_0 {post : Int32 → Prop} {s : Int32} {d : Nat} (hd : d < 32) (h : bt s d = false) (hp : post 0) : wpX_isIn post s (nI d) := br_f (fun z => by rw [(bq_in s hd).mp z] at h; cases h) hp
theorem hx_1 {post : Int32 → Prop} {r d : Nat} (hr : r < 3) (hd : d < 32) (h : bt (aR r) d = true) (hp : post 1) : wpX_roomHas post (fp, fc, ft, fr, aF, aL, aC, aT, aR, aX, aS, aG, aH, aN, aW, aM, aP, aQ) (nI r) (nI d) := ⟨vp_in_nI hr (by decide), ix_1 hd (by rw [nI_clamp (by omega)]; exact h) ⟨by decide, hp⟩⟩
theorem hx_0 {post : Int32 → Prop} {r d : Nat} (hr : r < 3) (hd : d < 32) (h : bt (aR r) d = false) (hp : post 0) : wpX_roomHas post (fp, fc, ft, fr, aF, aL, aC, aT, aR, aX, aS, aG, aH, aN, aW, aM, aP, aQ) (nI r) (nI d) := ⟨vp_in_nI hr (by decide), ix_0 hd (by rw [nI_clamp (by omega)]; exact h) ⟨by decide, hp⟩⟩
end
section
variable {fp fc fs : Int32} {aX aS bE bD bK bU bO bV aN aL bF aT aC aR bW bP bM : Nat → Int32}
theorem cy_1 {post : Int32 → Prop} {c d : Nat} (hc : c ≤ 16) (h : d < c) (hp : post 1) : wpY_isChange post (fp, nI c, fs, aX, aS, bE, bD, bK, bU, bO, bV, aN, aL, bF, aT, aC, aR, bW, bP, bM) (nI d) := br_f (nI_pos (by omega)) (br_f (nI_ge h (by omega)) hp)
theorem cy_0 {post : Int32 → Prop} {c : Nat} {x : Int32} (h : rc_b c x) (hp : post 0) : wpY_isChange post (fp, nI c, fs, aX, aS, bE, bD, bK, bU, bO, bV, aN, aL, bF, aT, aC, aR, bW, bP, bM) x := by
  rcases h with h | ⟨h, h2⟩
  · exact br_t h hp
  · exact br_f h (br_t h2 hp)
theorem iy_1 {post : Int32 → Prop} {s : Int32} {d : Nat} (hd : d < 32) (h : bt s d = true) (hp : post 1) : wpY_in post (fp, fc, fs, aX, aS, bE, bD, bK, bU, bO, bV, aN, aL, bF, aT, aC, aR, bW, bP, bM) s (nI d) := br_t ((bq_in s hd).mpr h) hp
theorem iy_0 {post : Int32 → Prop} {s : Int32} {d : Nat} (hd : d < 32) (h : bt s d = false) (hp : post 0) : wpY_in post (fp, fc, fs, aX, aS, bE, bD, bK, bU, bO, bV, aN, aL, bF, aT, aC, aR, bW, bP, bM) s (nI d) := br_f (fun z => by rw [(bq_in s hd).mp z] at h; cases h) hp
end
/-! the reading methods -/
