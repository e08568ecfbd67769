/-! insert -/
section
variable {fp fc ft fr : Int32} {aF aL aC aT aR aX aS aG aH aN aW aM aP aQ : Nat → Int32}
theorem in_x {post : Int32 → SX → Prop} {r p n : Nat} {x : Int32} (hr : r < 3) (hn : n < 20) (hp : post (nI n + 1) (fp, fc, ft, fr, aF, aL, upd (bk aC (20 * r + p + 1) (20 * r + n + 1) (fun j => aC (j - 1))) (20 * r + p) x, upd aT r (nI n + 1), aR, aX, aS, aG, aH, aN, aW, aM, aP, aQ)) : ∀ d, p + d ≤ n → wX_insert_63 post (nI r) (nI p) x (nI n) (nI (20 * r)) fp fc ft fr (d + 1) (nI (p + d)) aF aL (bk aC (20 * r + (p + d) + 1) (20 * r + n + 1) (fun j => aC (j - 1))) aT aR aX aS aG aH aN aW aM aP aQ := by
  intro d
  induction d with
  | zero => intro h; exact br_t (nI_le (Nat.le_refl _) (by omega)) ⟨pk_in (20 * r + p) 60 (by omega) (nI_add _ _), nm_r (wr (nI_add _ _) (by omega) rfl) ⟨vp_in_nI hr (by decide), nm_r (wr rfl (by omega) rfl) hp⟩⟩
  | succ d ih =>
    intro h
    have e1 : nI (20 * r) + nI (p + (d + 1)) - 1 = nI (20 * r + (p + d)) := by rw [nI_add]; exact ca_z _
    refine br_f (nI_ge (by omega) (by omega)) ⟨pk_in (20 * r + (p + d)) 60 (by omega) e1, ⟨pk_in (20 * r + (p + (d + 1))) 60 (by omega) (nI_add _ _), nm_r ?_ (nm_r (pk_m1 (p + d)) (ih (by omega)))⟩⟩
    exact (wr (nI_add _ _) (by omega) (rd e1 (by omega) (bk_lo (by omega)))).trans (bk_dn (by omega) (congrArg aC (by omega)))
theorem in_x0 {post : Int32 → SX → Prop} {r p n : Nat} {x : Int32} (hr : r < 3) (hn : n < 20) (hpn : p ≤ n) (hp : post (nI n + 1) (fp, fc, ft, fr, aF, aL, upd (bk aC (20 * r + p + 1) (20 * r + n + 1) (fun j => aC (j - 1))) (20 * r + p) x, upd aT r (nI n + 1), aR, aX, aS, aG, aH, aN, aW, aM, aP, aQ)) : ∃ k, wX_insert_63 post (nI r) (nI p) x (nI n) (nI (20 * r)) fp fc ft fr k (nI n) aF aL aC aT aR aX aS aG aH aN aW aM aP aQ := by
  have t := in_x hr hn hp (n - p) (by omega)
  rw [show p + (n - p) = n by omega, bk_0 (Nat.le_refl _)] at t
  exact ⟨_, t⟩
end
section
variable {fp fc fs : Int32} {aX aS bE bD bK bU bO bV aN aL bF aT aC aR bW bP bM : Nat → Int32}
theorem in_y {post : Int32 → SY → Prop} {r p n : Nat} {x : Int32} (hr : r < 3) (hn : n < 20) (eT : aT r = nI n) (hp : post (nI n + 1) (fp, fc, fs, aX, aS, bE, bD, bK, bU, bO, bV, aN, aL, bF, upd aT r (nI n + 1), upd (bk aC (20 * r + p + 1) (20 * r + n + 1) (fun j => aC (j - 1))) (20 * r + p) x, aR, bW, bP, bM)) : ∀ d, p + d ≤ n → wY_insert_62 post (nI r) (nI p) x fp fc fs (d + 1) (nI (p + d)) aX aS bE bD bK bU bO bV aN aL bF aT (bk aC (20 * r + (p + d) + 1) (20 * r + n + 1) (fun j => aC (j - 1))) aR bW bP bM := by
  intro d
  induction d with
  | zero =>
    intro h
    refine br_t (nI_le (Nat.le_refl _) (by omega)) ⟨pk_in (20 * r + p) 60 (by omega) (ya _ _), nm_r (wr (ya _ _) (by omega) rfl) ⟨vp_in_nI hr (by decide), vp_in_nI hr (by decide), nm_r (wr rfl (by omega) (congrArg (· + 1) (rd rfl (by omega) eT))) ⟨vp_in_nI hr (by decide), ?_⟩⟩⟩
    rw [rd (a := upd aT r (nI n + 1)) rfl (by omega) pk_us]
    exact hp
  | succ d ih =>
    intro h
    have e1 : 20 * nI r + nI (p + (d + 1)) - 1 = nI (20 * r + (p + d)) := yb r (p + d)
    refine br_f (nI_ge (by omega) (by omega)) ⟨pk_in (20 * r + (p + d)) 60 (by omega) e1, ⟨pk_in (20 * r + (p + (d + 1))) 60 (by omega) (ya _ _), nm_r ?_ (nm_r (pk_m1 (p + d)) (ih (by omega)))⟩⟩
    exact (wr (ya _ _) (by omega) (rd e1 (by omega) (bk_lo (by omega)))).trans (bk_dn (by omega) (congrArg aC (by omega)))
theorem in_y0 {post : Int32 → SY → Prop} {r p n : Nat} {x : Int32} (hr : r < 3) (hn : n < 20) (hpn : p ≤ n) (eT : aT r = nI n) (hp : post (nI n + 1) (fp, fc, fs, aX, aS, bE, bD, bK, bU, bO, bV, aN, aL, bF, upd aT r (nI n + 1), upd (bk aC (20 * r + p + 1) (20 * r + n + 1) (fun j => aC (j - 1))) (20 * r + p) x, aR, bW, bP, bM)) : ∃ k, wY_insert_62 post (nI r) (nI p) x fp fc fs k (nI n) aX aS bE bD bK bU bO bV aN aL bF aT aC aR bW bP bM := by
  have t := in_y hr hn eT hp (n - p) (by omega)
  rw [show p + (n - p) = n by omega, bk_0 (Nat.le_refl _)] at t
  exact ⟨_, t⟩
end
theorem i_vc_insert {k : Nat} {u : SX} {v : SY} (I : i_Rel k u v) (hk : k + 4 ≤ 2048) (v1 : Int32) (v2 : Int32) (v3 : Int32) : wpX_insert (fun r u' => wpY_insert (fun r' v' => r' = r ∧ i_Rel (k + 4) u' v') v v1 v2 v3) u v1 v2 v3 := by
  have J := i_up I
  obtain ⟨p, c, ft, fr, fs, aF, aL, aC, aT, aR, aX, aS, aG, aH, aN, aW, aM, aP, aQ, bE, bD, bK, bU, bO, bV, bF, bW, bP, bM, rfl, rfl, hR⟩ := I
  unfold wpX_insert wpY_insert
  rcases rm_c v1 with ⟨r, hr, rfl⟩ | hb
  · obtain ⟨hp, hc, hF, hT, hR'⟩ := hR
    obtain ⟨n, hn, eT⟩ := hT r hr
    have eT' : aT (nI r).toNatClampNeg = nI n := rd rfl (by omega) eT
    by_cases h0 : v2 < 0
    · refine rx_1 hr (br_f ca_10 ⟨vp_in_nI hr (by decide), nm_r eT' (br_t h0 ?_)⟩)
      exact ry_1 hr (br_f ca_10 (br_t h0 ⟨rfl, J⟩))
    obtain ⟨q, hq, rfl⟩ := nI_of h0
    by_cases h1 : q ≤ n
    · have h1' : nI q ≤ nI n := nI_le h1 (by omega)
      have h1'' : nI q ≤ aT (nI r).toNatClampNeg := by rw [eT']; exact h1'
      by_cases h2 : v3 < 0
      · refine rx_1 hr (br_f ca_10 ⟨vp_in_nI hr (by decide), nm_r eT' (br_f h0 (br_t h1' (br_t h2 ?_)))⟩)
        exact ry_1 hr (br_f ca_10 (br_f h0 ⟨vp_in_nI hr (by decide), br_t h1'' (br_t h2 ⟨rfl, J⟩)⟩))
      by_cases h3 : v3 ≤ 9
      · by_cases h4 : n < 20
        · refine rx_1 hr (br_f ca_10 ⟨vp_in_nI hr (by decide), nm_r eT' (br_f h0 (br_t h1' (br_f h2 (br_t h3 (br_t (nI_lt (b := 20) h4 (by decide)) (nm_r (ca_m20 r) (in_x0 hr h4 h1 ?_)))))))⟩)
          refine ry_1 hr (br_f ca_10 (br_f h0 ⟨vp_in_nI hr (by decide), br_t h1'' (br_f h2 (br_t h3 ⟨vp_in_nI hr (by decide), br_f (by rw [eT']; intro z; have := (nI_eq (b := 20) (by omega) (by decide)).mp z; omega) ⟨vp_in_nI hr (by decide), nm_r eT' (in_y0 hr h4 h1 eT ⟨rfl, ?_⟩)⟩⟩))⟩))
          rw [nI_1 n]
          exact rl_mk ⟨hp, hc, hF, rl_Tu hT (by omega), hR'⟩
        · refine rx_1 hr (br_f ca_10 ⟨vp_in_nI hr (by decide), nm_r eT' (br_f h0 (br_t h1' (br_f h2 (br_t h3 (br_f (nI_nlt (b := 20) (by omega) (by omega)) ?_)))))⟩)
          exact ry_1 hr (br_f ca_10 (br_f h0 ⟨vp_in_nI hr (by decide), br_t h1'' (br_f h2 (br_t h3 ⟨vp_in_nI hr (by decide), br_t (by rw [eT', show n = 20 by omega]; rfl) ⟨rfl, J⟩⟩))⟩))
      · refine rx_1 hr (br_f ca_10 ⟨vp_in_nI hr (by decide), nm_r eT' (br_f h0 (br_t h1' (br_f h2 (br_f h3 ?_))))⟩)
        exact ry_1 hr (br_f ca_10 (br_f h0 ⟨vp_in_nI hr (by decide), br_t h1'' (br_f h2 (br_f h3 ⟨rfl, J⟩))⟩))
    · refine rx_1 hr (br_f ca_10 ⟨vp_in_nI hr (by decide), nm_r eT' (br_f h0 (br_f (nI_ge (by omega) hq) ?_))⟩)
      exact ry_1 hr (br_f ca_10 (br_f h0 ⟨vp_in_nI hr (by decide), br_f (by rw [eT']; exact nI_ge (by omega) hq) ⟨rfl, J⟩⟩))
  · refine rx_0 hb (br_t rfl ?_)
    exact ry_0 hb (br_t rfl ⟨rfl, J⟩)
/-! delete -/
section
variable {fp fc ft fr : Int32} {aF aL aC aT aR aX aS aG aH aN aW aM aP aQ : Nat → Int32}
theorem de_x {post : Int32 → SX → Prop} {r p n : Nat} {x : Int32} (hr : r < 3) (hn : n ≤ 20) (hp : post x (fp, fc, ft, fr, aF, aL, bk aC (20 * r + p) (20 * r + (n - 1)) (fun j => aC (j + 1)), upd aT r (nI n - 1), aR, aX, aS, aG, aH, aN, aW, aM, aP, aQ)) : ∀ d i, i + d + 1 = n → p ≤ i → wX_delete_48 post (nI r) (nI n) (nI (20 * r)) x fp fc ft fr (d + 1) (nI i) aF aL (bk aC (20 * r + p) (20 * r + i) (fun j => aC (j + 1))) aT aR aX aS aG aH aN aW aM aP aQ := by
  intro d
  induction d with
  | zero =>
    intro i h hi
    obtain rfl : n = i + 1 := by omega
    exact br_t (by rw [ca_z]; exact nI_le (Nat.le_refl _) (by omega)) ⟨vp_in_nI hr (by decide), nm_r (wr rfl (by omega) rfl) hp⟩
  | succ d ih =>
    intro i h hi
    have e1 : nI (20 * r) + nI i + 1 = nI (20 * r + i + 1) := by rw [nI_add, ca_p1]
    refine br_f (by rw [ca_s1 (by omega)]; exact nI_ge (by omega) (by omega)) ⟨pk_in (20 * r + i + 1) 60 (by omega) e1, ⟨pk_in (20 * r + i) 60 (by omega) (nI_add _ _), nm_r ?_ (nm_r (nI_1 i) (ih (i + 1) (by omega) (by omega)))⟩⟩
    exact (wr (nI_add _ _) (by omega) (rd e1 (by omega) (bk_hi (by omega)))).trans (bk_up (by omega) rfl)
end
section
variable {fp fc fs : Int32} {aX aS bE bD bK bU bO bV aN aL bF aT aC aR bW bP bM : Nat → Int32}
theorem de_y {post : Int32 → SY → Prop} {r p n : Nat} {x : Int32} (hr : r < 3) (hn : n ≤ 20) (eT : aT r = nI (n - 1)) (hp : post x (fp, fc, fs, aX, aS, bE, bD, bK, bU, bO, bV, aN, aL, bF, aT, bk aC (20 * r + p) (20 * r + (n - 1)) (fun j => aC (j + 1)), aR, bW, bP, bM)) : ∀ d i, i + d + 1 = n → p ≤ i → wY_delete_52 post (nI r) x fp fc fs (d + 1) (nI i) aX aS bE bD bK bU bO bV aN aL bF aT (bk aC (20 * r + p) (20 * r + i) (fun j => aC (j + 1))) aR bW bP bM := by
  intro d
  induction d with
  | zero =>
    intro i h hi
    obtain rfl : n = i + 1 := by omega
    exact ⟨vp_in_nI hr (by decide), br_t (by rw [rd rfl (by omega) eT]; exact nI_le (by omega) (by omega)) hp⟩
  | succ d ih =>
    intro i h hi
    have e1 : 20 * nI r + nI i + 1 = nI (20 * r + i + 1) := yc r i
    refine ⟨vp_in_nI hr (by decide), br_f (by rw [rd rfl (by omega) eT]; exact nI_ge (by omega) (by omega)) ⟨pk_in (20 * r + i + 1) 60 (by omega) e1, ⟨pk_in (20 * r + i) 60 (by omega) (ya _ _), nm_r ?_ (nm_r (nI_1 i) (ih (i + 1) (by omega) (by omega)))⟩⟩⟩
    exact (wr (ya _ _) (by omega) (rd e1 (by omega) (bk_hi (by omega)))).trans (bk_up (by omega) rfl)
end
theorem i_vc_delete {k : Nat} {u : SX} {v : SY} (I : i_Rel k u v) (hk : k + 4 ≤ 2048) (v1 : Int32) (v2 : Int32) : wpX_delete (fun r u' => wpY_delete (fun r' v' => r' = r ∧ i_Rel (k + 4) u' v') v v1 v2) u v1 v2 := by
  have J := i_up I
  obtain ⟨p, c, ft, fr, fs, aF, aL, aC, aT, aR, aX, aS, aG, aH, aN, aW, aM, aP, aQ, bE, bD, bK, bU, bO, bV, bF, bW, bP, bM, rfl, rfl, hR⟩ := I
  unfold wpX_delete wpY_delete
  rcases rm_c v1 with ⟨r, hr, rfl⟩ | hb
  · obtain ⟨hp, hc, hF, hT, hR'⟩ := hR
    obtain ⟨n, hn, eT⟩ := hT r hr
    have eT' : aT (nI r).toNatClampNeg = nI n := rd rfl (by omega) eT
    by_cases h0 : v2 < 0
    · refine rx_1 hr (br_f ca_10 ⟨vp_in_nI hr (by decide), nm_r eT' (br_t h0 ?_)⟩)
      exact ry_1 hr (br_f ca_10 (br_t h0 ⟨rfl, J⟩))
    obtain ⟨q, hq, rfl⟩ := nI_of h0
    by_cases h1 : q < n
    · have h1' : nI q < nI n := nI_lt h1 (by omega)
      have h1'' : nI q < aT (nI r).toNatClampNeg := by rw [eT']; exact h1'
      have e0 : bk aC (20 * r + q) (20 * r + q) (fun j => aC (j + 1)) = aC := bk_0 (Nat.le_refl _)
      refine rx_1 hr (br_f ca_10 ⟨vp_in_nI hr (by decide), nm_r eT' (br_f h0 (br_t h1' (nm_r (ca_m20 r) ⟨pk_in (20 * r + q) 60 (by omega) (nI_add _ _), nm_r (e' := aC (20 * r + q)) (rd (nI_add _ _) (by omega) rfl) ⟨n - 1 - q + 1, ?_⟩⟩)))⟩)
      refine (congrArg (fun z => wX_delete_48 _ (nI r) (nI n) (nI (20 * r)) (aC (20 * r + q)) (nI p) (nI c) ft fr (n - 1 - q + 1) (nI q) aF aL z aT aR aX aS aG aH aN aW aM aP aQ) e0).mp (de_x hr hn ?_ (n - 1 - q) q (by omega) (Nat.le_refl _))
      refine ry_1 hr (br_f ca_10 (br_f h0 ⟨vp_in_nI hr (by decide), br_t h1'' ⟨pk_in (20 * r + q) 60 (by omega) (ya _ _), nm_r (e' := aC (20 * r + q)) (rd (ya _ _) (by omega) rfl) ⟨vp_in_nI hr (by decide), vp_in_nI hr (by decide), nm_r (wr rfl (by omega) (congrArg (· - 1) eT')) ⟨n - 1 - q + 1, ?_⟩⟩⟩⟩))
      refine (congrArg (fun z => wY_delete_52 _ (nI r) (aC (20 * r + q)) (nI p) (nI c) fs (n - 1 - q + 1) (nI q) aX aS bE bD bK bU bO bV aN aL bF (upd aT r (nI n - 1)) z aR bW bP bM) e0).mp (de_y hr hn (by rw [pk_us, ca_s1 (by omega)]) ?_ (n - 1 - q) q (by omega) (Nat.le_refl _))
      refine ⟨rfl, ?_⟩
      rw [ca_s1 (a := n) (by omega)]
      exact rl_mk ⟨hp, hc, hF, rl_Tu hT (by omega), hR'⟩
    · refine rx_1 hr (br_f ca_10 ⟨vp_in_nI hr (by decide), nm_r eT' (br_f h0 (br_f (nI_nlt (by omega) hq) ?_))⟩)
      exact ry_1 hr (br_f ca_10 (br_f h0 ⟨vp_in_nI hr (by decide), br_f (by rw [eT']; exact nI_nlt (by omega) hq) ⟨rfl, J⟩⟩))
  · refine rx_0 hb (br_t rfl ?_)
    exact ry_0 hb (br_t rfl ⟨rfl, J⟩)
