/-! all wanted changes, made in the trial -/
section
variable {fp fc ft fr : Int32} {aF aL aC aT aR aX aS aG aH aN aW aM aP aQ : Nat → Int32} {fs : Int32} {bE bD bK bU bO bV bF bW bP bM : Nat → Int32}
theorem mk_all {c P : Nat} {wn : Int32} (hc : c ≤ 16) (hG : ∀ d, d < c → rl_C aG aH bE bD bK bU bO bV P d) : ∀ k e, e + k = c → ∀ (s made : Nat) (w : Nat → Int32), s ≤ 20 → wv P s w → ∃ (ret : Int32) (s' : Nat) (w' : Nat → Int32), s' ≤ 20 ∧ wv P s' w' ∧ (∀ (post : Int32 → SX → Prop) (aW : Nat → Int32), tvX aW s w → (∀ aW', tvX aW' s' w' → post ret (fp, nI c, nI (s' + 2), fr, aF, aL, aC, aT, aR, aX, aS, aG, aH, aN, aW', aM, aP, aQ)) → wX_makeInTrial_4 post wn (k + 1) (nI made) (nI e) fp (nI c) (nI (s + 2)) fr aF aL aC aT aR aX aS aG aH aN aW aM aP aQ) ∧ (∀ (post : Int32 → SY → Prop) (bW : Nat → Int32), tvY bW s w → (∀ bW', tvY bW' s' w' → post ret (fp, nI c, nI s', aX, aS, bE, bD, bK, bU, bO, bV, aN, aL, bF, aT, aC, aR, bW', bP, bM)) → wY_makeAll_4 post wn (k + 1) (nI made) (nI e) fp (nI c) (nI s) aX aS bE bD bK bU bO bV aN aL bF aT aC aR bW bP bM) := by
  intro k
  induction k with
  | zero =>
    intro e h s made w hs hw
    exact ⟨nI made, s, w, hs, hw, fun post aW hX hp => br_t (nI_le (by omega) (by omega)) (hp aW hX), fun post bW hY hp => br_t (nI_le (by omega) (by omega)) (hp bW hY)⟩
  | succ k ih =>
    intro e h s made w hs hw
    have hlt : ¬ nI c ≤ nI e := nI_ge (by omega) (by omega)
    cases hb : bt wn e with
    | false =>
      obtain ⟨ret, s', w', h1, h2, hX, hY⟩ := ih (e + 1) (by omega) s made w hs hw
      exact ⟨ret, s', w', h1, h2, fun post aW tx hp => br_f hlt (ix_0 (by omega) hb (br_t rfl (nm_r (nI_1 e) (hX post aW tx hp)))), fun post bW ty hp => br_f hlt (iy_0 (by omega) hb (br_t rfl (nm_r (nI_1 e) (hY post bW ty hp))))⟩
    | true =>
      obtain ⟨⟨t, hS0⟩, ⟨o, hS1⟩⟩ : (∃ t, sd aG aH (2 * e) (bE e) (bD e) (bK e) bO (20 * e) P t) ∧ (∃ t, sd aG aH (2 * e + 1) (bE e) (bD e) (bU e) bV (20 * e) P t) := hG e (by omega)
      have ht := hS0.1
      have ho := hS1.1
      obtain ⟨m0, m1, m2⟩ := sd_m hS0
      obtain ⟨n0, n1, n2⟩ := sd_m hS1
      rcases fd_c s (t + 2) w (fun k => aG (22 * (2 * e) + k)) with hNo | ⟨q, q1, q2, q3⟩
      · refine ⟨-6, s, w, hs, hw, fun post aW tx hp => br_f hlt (ix_1 (by omega) hb (br_f ca_10 (rb_x (ra_x (fx_n hs (by omega) (by omega) hS0.2.2.1 tx hNo (br_t rfl (hp aW tx))))))), fun post bW ty hp => br_f hlt (iy_1 (by omega) hb (br_f ca_10 (py_n hs (by omega) ty (ln_0 (by omega) hS0) (me_0 (by omega) hS0) hNo (br_f (by decide) (hp bW ty)))))⟩
      · by_cases h20 : s + o - t ≤ 20
        · obtain ⟨ret, s', w', h1, h2, hX, hY⟩ := ih (e + 1) (by omega) (s + o - t) (made + 1) (rpw q t o (fun k => aG (22 * (2 * e + 1) + k)) w) h20 (wv_r hw (by omega) n2)
          refine ⟨ret, s', w', h1, h2, fun post aW tx hp => br_f hlt (ix_1 (by omega) hb (br_f ca_10 (rb_x (ra_x (fx_s hs (by omega) (by omega) hS0.2.2.1 tx q1 q2 q3 (br_f (ca_ne1 (by omega)) ?_)))))), fun post bW ty hp => br_f hlt (iy_1 (by omega) hb (br_f ca_10 (py_s hs (by omega) ty (ln_0 (by omega) hS0) (me_0 (by omega) hS0) q1 q2 q3 (br_t (nI_pos' (by omega)) ⟨vp_in_nI (by omega) (by decide), vp_in_nI (by omega) (by decide), br_t ?_ ?_⟩))))⟩
          · have tX' := tv_rx (mem' := fun k => aG (22 * (2 * e + 1) + k)) (more := o) (G := fun j => aG (22 * (2 * e + 1) + (j - q))) tx q2 q1 (n0.trans m0.symm) (n1.trans m1.symm) (fun j _ _ => rfl)
            refine rp_x1 (n := t + 2) (n' := o + 2) (by omega) (by omega) hs (by omega) (by omega) (by omega) q1 hS0.2.2.1 hS1.2.2.1 ?_
            have hs' : s + 2 + (o + 2) - (t + 2) = s + o - t + 2 := by omega
            rw [hs'] at tX' ⊢
            exact br_f ca_10 (nm_r (nI_1 made) (nm_r (nI_1 e) (hX post _ tX' hp)))
          · rw [rd (a := bU) rfl (by omega) hS1.2.1, rd (a := bK) rfl (by omega) hS0.2.1, pk_sub (by omega), nI_add]
            exact nI_le (b := 20) (by omega) (by decide)
          · have tY' := tv_ry (mem' := fun k => aG (22 * (2 * e + 1) + k)) (more := o) (out := t) (p := q) (G := fun j => aG (22 * (2 * e + 1) + (j - q + 1))) ty (by omega) (fun j _ _ => rfl)
            exact ry_x (nfl := 1) (out := t) (more := o) (mem' := fun k => aG (22 * (2 * e + 1) + k)) (Or.inl ⟨rfl, rfl⟩) hs h20 (by omega) (fun fs bW => me_1 (by omega) hS1) (ln_0 (by omega) hS0) (ln_1 (by omega) hS1) (nm_r (nI_1 made) (nm_r (nI_1 e) (hY post _ tY' hp)))
        · refine ⟨-7, s, w, hs, hw, fun post aW tx hp => br_f hlt (ix_1 (by omega) hb (br_f ca_10 (rb_x (ra_x (fx_s hs (by omega) (by omega) hS0.2.2.1 tx q1 q2 q3 (br_f (ca_ne1 (by omega)) (rp_x0 (n := t + 2) (n' := o + 2) (by omega) (by omega) hs (by omega) (by omega) q1 hS0.2.2.1 hS1.2.2.1 (br_t rfl (hp aW tx))))))))), fun post bW ty hp => br_f hlt (iy_1 (by omega) hb (br_f ca_10 (py_s hs (by omega) ty (ln_0 (by omega) hS0) (me_0 (by omega) hS0) q1 q2 q3 (br_t (nI_pos' (by omega)) ⟨vp_in_nI (by omega) (by decide), vp_in_nI (by omega) (by decide), br_f ?_ (hp bW ty)⟩))))⟩
          rw [rd (a := bU) rfl (by omega) hS1.2.1, rd (a := bK) rfl (by omega) hS0.2.1, pk_sub (by omega), nI_add]
          exact nI_ge (a := 20) (by omega) (by omega)
theorem tp_all {p c : Nat} (hR : rl_R p c aF aL bF aT aR aN aG aH bE bD bK bU bO bV) (v1 v2 v3 : Int32) : ∃ ret : Int32, (ret < 0 ∧ (∀ post : Int32 → SX → Prop, (∀ (ft : Int32) (aW : Nat → Int32), post ret (nI p, nI c, ft, fr, aF, aL, aC, aT, aR, aX, aS, aG, aH, aN, aW, aM, aP, aQ)) → wpX_tryPull post (nI p, nI c, ft, fr, aF, aL, aC, aT, aR, aX, aS, aG, aH, aN, aW, aM, aP, aQ) v1 v2 v3) ∧ (∀ post : Int32 → SY → Prop, (∀ (fs : Int32) (bW : Nat → Int32), post ret (nI p, nI c, fs, aX, aS, bE, bD, bK, bU, bO, bV, aN, aL, bF, aT, aC, aR, bW, bP, bM)) → wpY_tryPull post (nI p, nI c, fs, aX, aS, bE, bD, bK, bU, bO, bV, aN, aL, bF, aT, aC, aR, bW, bP, bM) v1 v2 v3)) ∨ (¬ ret < 0 ∧ ∃ r d : Nat, r < 3 ∧ d < c ∧ v1 = nI r ∧ v3 = nI d ∧ ∃ (s : Nat) (w : Nat → Int32), s ≤ 20 ∧ wv p s w ∧ (∀ post : Int32 → SX → Prop, (∀ (aW : Nat → Int32), tvX aW s w → post ret (nI p, nI c, nI (s + 2), fr, aF, aL, aC, aT, aR, aX, aS, aG, aH, aN, aW, aM, aP, aQ)) → wpX_tryPull post (nI p, nI c, ft, fr, aF, aL, aC, aT, aR, aX, aS, aG, aH, aN, aW, aM, aP, aQ) v1 v2 v3) ∧ (∀ post : Int32 → SY → Prop, (∀ (bW : Nat → Int32), tvY bW s w → post ret (nI p, nI c, nI s, aX, aS, bE, bD, bK, bU, bO, bV, aN, aL, bF, aT, aC, aR, bW, bP, bM)) → wpY_tryPull post (nI p, nI c, fs, aX, aS, bE, bD, bK, bU, bO, bV, aN, aL, bF, aT, aC, aR, bW, bP, bM) v1 v2 v3)) := by
  obtain ⟨hp, hc, hF, hT, hG, hz, hA, hN⟩ := hR
  unfold wpX_tryPull wpY_tryPull
  rcases rm_c v1 with ⟨r, hr, rfl⟩ | hb
  · rcases rm_c v2 with ⟨f, hf3, rfl⟩ | hb
    · rcases rc_c c v3 with ⟨d, hd, rfl⟩ | hb
      · have er : aR (nI r).toNatClampNeg = aR r := rd rfl (by omega) rfl
        have ef : aR (nI f).toNatClampNeg = aR f := rd rfl (by omega) rfl
        cases hx : bt (aR f) d with
        | false =>
          refine ⟨-3, Or.inl ⟨by decide, fun post h => ?_, fun post h => ?_⟩⟩
          · exact rx_1 hr (br_f ca_10 (rx_1 hf3 (br_f ca_10 (cx_1 hc hd (br_f ca_10 (hx_0 hf3 (by omega) hx (br_t rfl (h _ _))))))))
          · exact ry_1 hr (br_f ca_10 (ry_1 hf3 (br_f ca_10 (cy_1 hc hd (br_f ca_10 ⟨vp_in_nI hf3 (by decide), iy_0 (by omega) (by rw [ef]; exact hx) (br_t rfl (h _ _))⟩)))))
        | true =>
          cases hx2 : bt (aR r) d with
          | true =>
            refine ⟨-4, Or.inl ⟨by decide, fun post h => ?_, fun post h => ?_⟩⟩
            · exact rx_1 hr (br_f ca_10 (rx_1 hf3 (br_f ca_10 (cx_1 hc hd (br_f ca_10 (hx_1 hf3 (by omega) hx (br_f ca_10 (hx_1 hr (by omega) hx2 (br_f ca_10 (h _ _))))))))))
            · exact ry_1 hr (br_f ca_10 (ry_1 hf3 (br_f ca_10 (cy_1 hc hd (br_f ca_10 ⟨vp_in_nI hf3 (by decide), iy_1 (by omega) (by rw [ef]; exact hx) (br_f ca_10 ⟨vp_in_nI hr (by decide), iy_1 (by omega) (by rw [er]; exact hx2) (br_f ca_10 (h _ _))⟩)⟩)))))
          | false =>
            obtain ⟨m, hm, eL, e60, e61, hf⟩ := hF r hr
            obtain ⟨n, hn, eT⟩ := hT r hr
            have hf' : ∀ i, i < m → aF (22 * r + 1 + i) = bF (20 * r + i) ∧ ∃ l, l < 60 ∧ bF (20 * r + i) = nI l := fun i hi => by
              obtain ⟨a, l, hl, b⟩ := hf i hi
              exact ⟨a, l, by omega, b⟩
            by_cases hcl : m = n ∧ ∀ i, i < m → aX (bF (20 * r + i)).toNatClampNeg = aC (20 * r + i)
            · have hw : wv p m (fun i => bF (20 * r + i)) := fun i hi => (hf i hi).2
              obtain ⟨ret, s, w, h1, h2, hX, hY⟩ := mk_all (fp := nI p) (fr := fr) (aF := aF) (aL := aL) (aC := aC) (aT := aT) (aR := aR) (aX := aX) (aS := aS) (aN := aN) (aM := aM) (aP := aP) (aQ := aQ) (bF := bF) (bP := bP) (bM := bM) (wn := ((aN d) ||| ((1 : Int32) <<< (nI d &&& 31))) &&& ((aR r) ^^^ (-1))) hc hG c 0 (by omega) m 0 (fun i => bF (20 * r + i)) hm hw
              have ea : aN (nI d).toNatClampNeg = aN d := rd rfl (by omega) rfl
              have tX := tv_sx (aL := aL) (aW := aW) e60 e61 (fun i hi => (hf i hi).1)
              have tY := tv_sy (bF := bF) (bW := bW) (r := r) (m := m)
              have QX : ∀ post : Int32 → SX → Prop, (∀ (aW : Nat → Int32), tvX aW s w → post ret (nI p, nI c, nI (s + 2), fr, aF, aL, aC, aT, aR, aX, aS, aG, aH, aN, aW, aM, aP, aQ)) → wpX_tryPull post (nI p, nI c, ft, fr, aF, aL, aC, aT, aR, aX, aS, aG, aH, aN, aW, aM, aP, aQ) (nI r) (nI f) (nI d) := by
                intro post h
                unfold wpX_tryPull
                refine rx_1 hr (br_f ca_10 (rx_1 hf3 (br_f ca_10 (cx_1 hc hd (br_f ca_10 (hx_1 hf3 (by omega) hx (br_f ca_10 (hx_0 hr (by omega) hx2 (br_t rfl (ic_x hr hm hn eL eT hf' (fun _ => br_f ca_10 (st_x0 hr hm eL ⟨vp_in_nI (by omega) (by decide), vp_in_nI hr (by decide), nm_r (by rw [ea, er]) ?_⟩)) (fun z => absurd hcl z))))))))))) 
                exact ⟨_, hX _ _ tX h⟩
              have QY : ∀ post : Int32 → SY → Prop, (∀ (bW : Nat → Int32), tvY bW s w → post ret (nI p, nI c, nI s, aX, aS, bE, bD, bK, bU, bO, bV, aN, aL, bF, aT, aC, aR, bW, bP, bM)) → wpY_tryPull post (nI p, nI c, fs, aX, aS, bE, bD, bK, bU, bO, bV, aN, aL, bF, aT, aC, aR, bW, bP, bM) (nI r) (nI f) (nI d) := by
                intro post h
                unfold wpY_tryPull
                refine ry_1 hr (br_f ca_10 (ry_1 hf3 (br_f ca_10 (cy_1 hc hd (br_f ca_10 ⟨vp_in_nI hf3 (by decide), iy_1 (by omega) (by rw [ef]; exact hx) (br_f ca_10 ⟨vp_in_nI hr (by decide), iy_0 (by omega) (by rw [er]; exact hx2) (br_t rfl (ic_y hr hm hn eL eT (fun i hi => (hf' i hi).2) (fun _ => br_f ca_10 (st_y0 hr hm eL ⟨vp_in_nI (by omega) (by decide), vp_in_nI hr (by decide), ?_⟩)) (fun z => absurd hcl z)))⟩)⟩)))))
                rw [ea, er]
                exact ⟨_, hY _ _ tY h⟩
              by_cases hret : ret < 0
              · have q1 : tvX (fun j => ew s w j) s w := fun j _ => rfl
                exact ⟨ret, Or.inl ⟨hret, fun post h => QX post (fun aW _ => h _ aW), fun post h => QY post (fun bW _ => h _ bW)⟩⟩
              · exact ⟨ret, Or.inr ⟨hret, r, d, hr, hd, rfl, rfl, s, w, h1, h2, QX, QY⟩⟩
            · refine ⟨-5, Or.inl ⟨by decide, fun post h => ?_, fun post h => ?_⟩⟩
              · exact rx_1 hr (br_f ca_10 (rx_1 hf3 (br_f ca_10 (cx_1 hc hd (br_f ca_10 (hx_1 hf3 (by omega) hx (br_f ca_10 (hx_0 hr (by omega) hx2 (br_t rfl (ic_x hr hm hn eL eT hf' (fun z => absurd z hcl) (fun _ => br_t rfl (h _ _)))))))))))) 
              · exact ry_1 hr (br_f ca_10 (ry_1 hf3 (br_f ca_10 (cy_1 hc hd (br_f ca_10 ⟨vp_in_nI hf3 (by decide), iy_1 (by omega) (by rw [ef]; exact hx) (br_f ca_10 ⟨vp_in_nI hr (by decide), iy_0 (by omega) (by rw [er]; exact hx2) (br_t rfl (ic_y hr hm hn eL eT (fun i hi => (hf' i hi).2) (fun z => absurd z hcl) (fun _ => br_t rfl (h _ _))))⟩)⟩)))))
      · refine ⟨-2, Or.inl ⟨by decide, fun post h => ?_, fun post h => ?_⟩⟩
        · exact rx_1 hr (br_f ca_10 (rx_1 hf3 (br_f ca_10 (cx_0 hb (br_t rfl (h _ _))))))
        · exact ry_1 hr (br_f ca_10 (ry_1 hf3 (br_f ca_10 (cy_0 hb (br_t rfl (h _ _))))))
    · refine ⟨-1, Or.inl ⟨by decide, fun post h => ?_, fun post h => ?_⟩⟩
      · exact rx_1 hr (br_f ca_10 (rx_0 hb (br_t rfl (h _ _))))
      · exact ry_1 hr (br_f ca_10 (ry_0 hb (br_t rfl (h _ _))))
  · refine ⟨-1, Or.inl ⟨by decide, fun post h => ?_, fun post h => ?_⟩⟩
    · exact rx_0 hb (br_t rfl (h _ _))
    · exact ry_0 hb (br_t rfl (h _ _))
end
