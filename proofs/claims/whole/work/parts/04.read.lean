theorem i_vc_changes {k : Nat} {u : SX} {v : SY} (I : i_Rel k u v) (hk : k + 4 ≤ 2048) : wpX_changes (fun r => wpY_changes (fun r' => r' = r ∧ i_Rel (k + 4) u v) v) u := by
  have J := i_up I
  obtain ⟨p, c, ft, fr, fs, aF, aL, aC, aT, aR, aX, aS, aG, aH, aN, aW, aM, aP, aQ, bE, bD, bK, bU, bO, bV, bF, bW, bP, bM, rfl, rfl, hR⟩ := I
  exact ⟨rfl, J⟩
theorem i_vc_lines {k : Nat} {u : SX} {v : SY} (I : i_Rel k u v) (hk : k + 4 ≤ 2048) (v1 : Int32) : wpX_lines (fun r => wpY_lines (fun r' => r' = r ∧ i_Rel (k + 4) u v) v v1) u v1 := by
  have J := i_up I
  obtain ⟨p, c, ft, fr, fs, aF, aL, aC, aT, aR, aX, aS, aG, aH, aN, aW, aM, aP, aQ, bE, bD, bK, bU, bO, bV, bF, bW, bP, bM, rfl, rfl, hR⟩ := I
  unfold wpX_lines wpY_lines
  rcases rm_c v1 with ⟨r, hr, rfl⟩ | hb
  · refine rx_1 hr (br_f ca_10 ⟨vp_in_nI hr (by decide), ?_⟩)
    exact ry_1 hr (br_f ca_10 ⟨vp_in_nI hr (by decide), rfl, J⟩)
  · refine rx_0 hb (br_t rfl ?_)
    exact ry_0 hb (br_t rfl ⟨rfl, J⟩)
theorem i_vc_line {k : Nat} {u : SX} {v : SY} (I : i_Rel k u v) (hk : k + 4 ≤ 2048) (v1 : Int32) (v2 : Int32) : wpX_line (fun r => wpY_line (fun r' => r' = r ∧ i_Rel (k + 4) u v) v v1 v2) u v1 v2 := by
  have J := i_up I
  obtain ⟨p, c, ft, fr, fs, aF, aL, aC, aT, aR, aX, aS, aG, aH, aN, aW, aM, aP, aQ, bE, bD, bK, bU, bO, bV, bF, bW, bP, bM, rfl, rfl, hR⟩ := I
  unfold wpX_line wpY_line
  rcases rm_c v1 with ⟨r, hr, rfl⟩ | hb
  · obtain ⟨hp, hc, hF, hT, -⟩ := hR
    obtain ⟨m, hm, eL, -, -, hf⟩ := hF r hr
    have eL' : aL (nI r).toNatClampNeg = nI m := rd rfl (by omega) eL
    by_cases h0 : v2 < 0
    · refine rx_1 hr (br_f ca_10 (br_t h0 ?_))
      exact ry_1 hr (br_f ca_10 (br_t h0 ⟨rfl, J⟩))
    · obtain ⟨i, hi, rfl⟩ := nI_of h0
      by_cases h : i < m
      · obtain ⟨e1, l, hl, e2⟩ := hf i h
        have ex : aF (nI r * 22 + 1 + nI i).toNatClampNeg = nI l := rd (xb r i) (by omega) (e1.trans e2)
        have ey : bF (20 * nI r + nI i).toNatClampNeg = nI l := rd (ya r i) (by omega) e2
        refine rx_1 hr (br_f ca_10 (br_f h0 ⟨vp_in_nI hr (by decide), br_t (by rw [eL']; exact nI_lt h (by omega)) ⟨pk_in (22 * r + 1 + i) 66 (by omega) (xb r i), ?_⟩⟩))
        refine ⟨by rw [ex]; exact vp_in_nI (by omega) (by decide), ?_⟩
        refine ry_1 hr (br_f ca_10 (br_f h0 ⟨vp_in_nI hr (by decide), br_f (by rw [eL']; exact nI_ge h (by omega)) ⟨pk_in (20 * r + i) 60 (by omega) (ya r i), ?_⟩⟩))
        refine ⟨by rw [ey]; exact vp_in_nI (by omega) (by decide), ?_, J⟩
        rw [ex, ey]
      · refine rx_1 hr (br_f ca_10 (br_f h0 ⟨vp_in_nI hr (by decide), br_f (by rw [eL']; exact nI_nlt (by omega) hi) ?_⟩))
        exact ry_1 hr (br_f ca_10 (br_f h0 ⟨vp_in_nI hr (by decide), br_t (by rw [eL']; exact nI_le (by omega) hi) ⟨rfl, J⟩⟩))
  · refine rx_0 hb (br_t rfl ?_)
    exact ry_0 hb (br_t rfl ⟨rfl, J⟩)
theorem i_vc_source {k : Nat} {u : SX} {v : SY} (I : i_Rel k u v) (hk : k + 4 ≤ 2048) (v1 : Int32) (v2 : Int32) : wpX_source (fun r => wpY_source (fun r' => r' = r ∧ i_Rel (k + 4) u v) v v1 v2) u v1 v2 := by
  have J := i_up I
  obtain ⟨p, c, ft, fr, fs, aF, aL, aC, aT, aR, aX, aS, aG, aH, aN, aW, aM, aP, aQ, bE, bD, bK, bU, bO, bV, bF, bW, bP, bM, rfl, rfl, hR⟩ := I
  unfold wpX_source wpY_source
  rcases rm_c v1 with ⟨r, hr, rfl⟩ | hb
  · obtain ⟨hp, hc, hF, hT, -⟩ := hR
    obtain ⟨m, hm, eL, -, -, hf⟩ := hF r hr
    have eL' : aL (nI r).toNatClampNeg = nI m := rd rfl (by omega) eL
    by_cases h0 : v2 < 0
    · refine rx_1 hr (br_f ca_10 (br_t h0 ?_))
      exact ry_1 hr (br_f ca_10 (br_t h0 ⟨rfl, J⟩))
    · obtain ⟨i, hi, rfl⟩ := nI_of h0
      by_cases h : i < m
      · obtain ⟨e1, l, hl, e2⟩ := hf i h
        have ex : aF (nI r * 22 + 1 + nI i).toNatClampNeg = nI l := rd (xb r i) (by omega) (e1.trans e2)
        have ey : bF (20 * nI r + nI i).toNatClampNeg = nI l := rd (ya r i) (by omega) e2
        refine rx_1 hr (br_f ca_10 (br_f h0 ⟨vp_in_nI hr (by decide), br_t (by rw [eL']; exact nI_lt h (by omega)) ⟨pk_in (22 * r + 1 + i) 66 (by omega) (xb r i), ?_⟩⟩))
        refine ⟨by rw [ex]; exact vp_in_nI (by omega) (by decide), ?_⟩
        refine ry_1 hr (br_f ca_10 (br_f h0 ⟨vp_in_nI hr (by decide), br_f (by rw [eL']; exact nI_ge h (by omega)) ⟨pk_in (20 * r + i) 60 (by omega) (ya r i), ?_⟩⟩))
        refine ⟨by rw [ey]; exact vp_in_nI (by omega) (by decide), ?_, J⟩
        rw [ex, ey]
      · refine rx_1 hr (br_f ca_10 (br_f h0 ⟨vp_in_nI hr (by decide), br_f (by rw [eL']; exact nI_nlt (by omega) hi) ?_⟩))
        exact ry_1 hr (br_f ca_10 (br_f h0 ⟨vp_in_nI hr (by decide), br_t (by rw [eL']; exact nI_le (by omega) hi) ⟨rfl, J⟩⟩))
  · refine rx_0 hb (br_t rfl ?_)
    exact ry_0 hb (br_t rfl ⟨rfl, J⟩)
theorem i_vc_text {k : Nat} {u : SX} {v : SY} (I : i_Rel k u v) (hk : k + 4 ≤ 2048) (v1 : Int32) (v2 : Int32) : wpX_text (fun r => wpY_text (fun r' => r' = r ∧ i_Rel (k + 4) u v) v v1 v2) u v1 v2 := by
  have J := i_up I
  obtain ⟨p, c, ft, fr, fs, aF, aL, aC, aT, aR, aX, aS, aG, aH, aN, aW, aM, aP, aQ, bE, bD, bK, bU, bO, bV, bF, bW, bP, bM, rfl, rfl, hR⟩ := I
  unfold wpX_text wpY_text
  rcases rm_c v1 with ⟨r, hr, rfl⟩ | hb
  · obtain ⟨hp, hc, hF, hT, -⟩ := hR
    obtain ⟨n, hn, eT⟩ := hT r hr
    have eT' : aT (nI r).toNatClampNeg = nI n := rd rfl (by omega) eT
    by_cases h0 : v2 < 0
    · refine rx_1 hr (br_f ca_10 (br_t h0 ?_))
      exact ry_1 hr (br_f ca_10 (br_t h0 ⟨rfl, J⟩))
    · obtain ⟨i, hi, rfl⟩ := nI_of h0
      by_cases h : i < n
      · refine rx_1 hr (br_f ca_10 (br_f h0 ⟨vp_in_nI hr (by decide), br_t (by rw [eT']; exact nI_lt h (by omega)) ⟨pk_in (20 * r + i) 60 (by omega) (xc r i), ?_⟩⟩))
        refine ry_1 hr (br_f ca_10 (br_f h0 ⟨vp_in_nI hr (by decide), br_f (by rw [eT']; exact nI_ge h (by omega)) ⟨pk_in (20 * r + i) 60 (by omega) (ya r i), ?_, J⟩⟩))
        rw [xc, ya]
      · refine rx_1 hr (br_f ca_10 (br_f h0 ⟨vp_in_nI hr (by decide), br_f (by rw [eT']; exact nI_nlt (by omega) hi) ?_⟩))
        exact ry_1 hr (br_f ca_10 (br_f h0 ⟨vp_in_nI hr (by decide), br_t (by rw [eT']; exact nI_le (by omega) hi) ⟨rfl, J⟩⟩))
  · refine rx_0 hb (br_t rfl ?_)
    exact ry_0 hb (br_t rfl ⟨rfl, J⟩)
theorem i_vc_has {k : Nat} {u : SX} {v : SY} (I : i_Rel k u v) (hk : k + 4 ≤ 2048) (v1 : Int32) (v2 : Int32) : wpX_has (fun r => wpY_has (fun r' => r' = r ∧ i_Rel (k + 4) u v) v v1 v2) u v1 v2 := by
  have J := i_up I
  obtain ⟨p, c, ft, fr, fs, aF, aL, aC, aT, aR, aX, aS, aG, aH, aN, aW, aM, aP, aQ, bE, bD, bK, bU, bO, bV, bF, bW, bP, bM, rfl, rfl, hR⟩ := I
  unfold wpX_has wpY_has
  rcases rm_c v1 with ⟨r, hr, rfl⟩ | hb
  · obtain ⟨hp, hc, -⟩ := hR
    rcases rc_c c v2 with ⟨d, hd, rfl⟩ | hb
    · have ea : aR (nI r).toNatClampNeg = aR r := rd rfl (by omega) rfl
      cases hx : bt (aR r) d with
      | true =>
        refine rx_1 hr (br_f ca_10 (cx_1 hc hd (br_f ca_10 (hx_1 hr (by omega) hx (br_f ca_10 ?_)))))
        exact ry_1 hr (br_f ca_10 (cy_1 hc hd (br_f ca_10 ⟨vp_in_nI hr (by decide), iy_1 (by omega) (by rw [ea]; exact hx) (br_f ca_10 ⟨rfl, J⟩)⟩)))
      | false =>
        refine rx_1 hr (br_f ca_10 (cx_1 hc hd (br_f ca_10 (hx_0 hr (by omega) hx (br_t rfl ?_)))))
        exact ry_1 hr (br_f ca_10 (cy_1 hc hd (br_f ca_10 ⟨vp_in_nI hr (by decide), iy_0 (by omega) (by rw [ea]; exact hx) (br_t rfl ⟨rfl, J⟩)⟩)))
    · refine rx_1 hr (br_f ca_10 (cx_0 hb (br_t rfl ?_)))
      exact ry_1 hr (br_f ca_10 (cy_0 hb (br_t rfl ⟨rfl, J⟩)))
  · refine rx_0 hb (br_t rfl ?_)
    exact ry_0 hb (br_t rfl ⟨rfl, J⟩)
theorem i_vc_needs {k : Nat} {u : SX} {v : SY} (I : i_Rel k u v) (hk : k + 4 ≤ 2048) (v1 : Int32) (v2 : Int32) : wpX_needs (fun r => wpY_needs (fun r' => r' = r ∧ i_Rel (k + 4) u v) v v1 v2) u v1 v2 := by
  have J := i_up I
  obtain ⟨p, c, ft, fr, fs, aF, aL, aC, aT, aR, aX, aS, aG, aH, aN, aW, aM, aP, aQ, bE, bD, bK, bU, bO, bV, bF, bW, bP, bM, rfl, rfl, hR⟩ := I
  unfold wpX_needs wpY_needs
  obtain ⟨hp, hc, -⟩ := hR
  rcases rc_c c v1 with ⟨d, hd, rfl⟩ | hb
  · rcases rc_c c v2 with ⟨e, he, rfl⟩ | hb
    · have ea : aN (nI d).toNatClampNeg = aN d := rd rfl (by omega) rfl
      cases hx : bt (aN d) e with
      | true =>
        refine cx_1 hc hd (br_f ca_10 (cx_1 hc he (br_f ca_10 ⟨vp_in_nI (by omega) (by decide), ix_1 (by omega) (by rw [ea]; exact hx) (br_f ca_10 ?_)⟩)))
        exact cy_1 hc hd (br_f ca_10 (cy_1 hc he (br_f ca_10 ⟨vp_in_nI (by omega) (by decide), iy_1 (by omega) (by rw [ea]; exact hx) (br_f ca_10 ⟨rfl, J⟩)⟩)))
      | false =>
        refine cx_1 hc hd (br_f ca_10 (cx_1 hc he (br_f ca_10 ⟨vp_in_nI (by omega) (by decide), ix_0 (by omega) (by rw [ea]; exact hx) (br_t rfl ?_)⟩)))
        exact cy_1 hc hd (br_f ca_10 (cy_1 hc he (br_f ca_10 ⟨vp_in_nI (by omega) (by decide), iy_0 (by omega) (by rw [ea]; exact hx) (br_t rfl ⟨rfl, J⟩)⟩)))
    · refine cx_1 hc hd (br_f ca_10 (cx_0 hb (br_t rfl ?_)))
      exact cy_1 hc hd (br_f ca_10 (cy_0 hb (br_t rfl ⟨rfl, J⟩)))
  · refine cx_0 hb (br_t rfl ?_)
    exact cy_0 hb (br_t rfl ⟨rfl, J⟩)
theorem i_vc_weight {k : Nat} {u : SX} {v : SY} (I : i_Rel k u v) (hk : k + 4 ≤ 2048) (v1 : Int32) : wpX_weight (fun r => wpY_weight (fun r' => r' = r ∧ i_Rel (k + 4) u v) v v1) u v1 := by
  have J := i_up I
  obtain ⟨p, c, ft, fr, fs, aF, aL, aC, aT, aR, aX, aS, aG, aH, aN, aW, aM, aP, aQ, bE, bD, bK, bU, bO, bV, bF, bW, bP, bM, rfl, rfl, hR⟩ := I
  unfold wpX_weight wpY_weight
  obtain ⟨hp, hc, -, -, hG, -⟩ := hR
  rcases rc_c c v1 with ⟨d, hd, rfl⟩ | hb
  · obtain ⟨⟨t, ht, eK, eH, -⟩, ⟨w, hw, eU, eH2, -⟩⟩ := hG d hd
    have e2 : (2 * nI d + 1) = nI (2 * d + 1) := by rw [ca_l2, ca_p1]
    refine cx_1 hc hd (br_f ca_10 ⟨pk_in (2 * d) 32 (by omega) (ca_l2 d), pk_in (2 * d + 1) 32 (by omega) e2, ?_⟩)
    refine cy_1 hc hd (br_f ca_10 ⟨vp_in_nI (by omega) (by decide), vp_in_nI (by omega) (by decide), ?_, J⟩)
    rw [rd (ca_l2 d) (by omega) eH, rd e2 (by omega) eH2, rd rfl (by omega) eK, rd rfl (by omega) eU, ca_s2 (by omega), nI_add, nI_add, ca_s2 (by omega)]
    exact congrArg nI (by omega)
  · refine cx_0 hb (br_t rfl ?_)
    exact cy_0 hb (br_t rfl ⟨rfl, J⟩)
