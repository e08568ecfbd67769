theorem pk_least (P : Nat → Prop) (h : ∃ k, P k) : ∃ k, P k ∧ ∀ j, j < k → ¬ P j := by
  obtain ⟨k, hk⟩ := h
  induction k using Nat.strongRecOn with
  | ind k ih =>
    by_cases e : ∃ j, j < k ∧ P j
    · obtain ⟨j, hj, pj⟩ := e
      exact ih j hj pj
    · exact ⟨k, hk, fun j hj pj => e ⟨j, hj, pj⟩⟩
theorem fd_c (s n : Nat) (w mem : Nat → Int32) : (∀ p, p + n ≤ s + 2 → ¬ fq s w mem n p) ∨ ∃ p0, p0 + n ≤ s + 2 ∧ fq s w mem n p0 ∧ ∀ p, p < p0 → ¬ fq s w mem n p := by
  by_cases h : ∃ p, p + n ≤ s + 2 ∧ fq s w mem n p
  · obtain ⟨p0, ⟨h1, h2⟩, h3⟩ := pk_least (fun p => p + n ≤ s + 2 ∧ fq s w mem n p) h
    exact Or.inr ⟨p0, h1, h2, fun p hp z => h3 p hp ⟨by omega, z⟩⟩
  · exact Or.inl (fun p hp z => h ⟨p, hp, z⟩)
theorem sd_m {aG aH A : Nat → Int32} {q b P t : Nat} {e d k : Int32} (h : sd aG aH q e d k A b P t) : aG (22 * q + 0) = e ∧ aG (22 * q + (t + 1)) = d ∧ ∀ i, i < t → ∃ l, l < P ∧ aG (22 * q + (i + 1)) = nI l := by
  obtain ⟨ht, eK, eH, e1, e2, e3⟩ := h
  refine ⟨e1, by rw [show 22 * q + (t + 1) = 22 * q + 1 + t by omega]; exact e2, fun i hi => ?_⟩
  obtain ⟨e4, l, hl, e5⟩ := e3 i hi
  exact ⟨l, hl, by rw [show 22 * q + (i + 1) = 22 * q + 1 + i by omega, e4]; exact e5⟩
section
variable {fp fc ft fr : Int32} {aF aL aC aT aR aX aS aG aH aN aW aM aP aQ : Nat → Int32}
theorem rb_x {post : Int32 → Prop} {d : Nat} (hp : post (nI (2 * d))) : wpX_runBefore post (nI d) := by unfold wpX_runBefore; rw [ca_l2]; exact hp
theorem ra_x {post : Int32 → Prop} {d : Nat} (hp : post (nI (2 * d + 1))) : wpX_runAfter post (nI d) := by unfold wpX_runAfter; rw [ca_l2, nI_1]; exact hp
theorem fx_n {post : Int32 → Prop} {s n q : Nat} {w : Nat → Int32} (hs : s ≤ 20) (hn : n ≤ 22) (hq : q < 32) (eH : aH q = nI n) (hW : tvX aW s w) (hN : ∀ p, p + n ≤ s + 2 → ¬ fq s w (fun k => aG (22 * q + k)) n p) (hp : post (-1)) : wpX_findInTrial post (fp, fc, nI (s + 2), fr, aF, aL, aC, aT, aR, aX, aS, aG, aH, aN, aW, aM, aP, aQ) (nI q) := ⟨_, fi_n hs hn hq eH hW (fun _ _ => rfl) hN hp (s + 3 - n) 0 (by omega)⟩
theorem fx_s {post : Int32 → Prop} {s n q p0 : Nat} {w : Nat → Int32} (hs : s ≤ 20) (hn : n ≤ 22) (hq : q < 32) (eH : aH q = nI n) (hW : tvX aW s w) (h0 : p0 + n ≤ s + 2) (hS : fq s w (fun k => aG (22 * q + k)) n p0) (hN : ∀ p, p < p0 → ¬ fq s w (fun k => aG (22 * q + k)) n p) (hp : post (nI p0)) : wpX_findInTrial post (fp, fc, nI (s + 2), fr, aF, aL, aC, aT, aR, aX, aS, aG, aH, aN, aW, aM, aP, aQ) (nI q) := ⟨_, fi_s hs hn hq eH hW (fun _ _ => rfl) h0 hS hN hp p0 0 (by omega)⟩
theorem rn_x {post : Int32 → Prop} {r c d : Nat} (hr : r < 3) (hc : c ≤ 16) (hd : d < 16) (h1 : (∃ e, e < c ∧ bt (aR r) e = true ∧ bt (aN e) d = true) → post 1) (h0 : (¬ ∃ e, e < c ∧ bt (aR r) e = true ∧ bt (aN e) d = true) → post 0) : ∀ k e, e + k = c → (∀ i, i < e → ¬ (bt (aR r) i = true ∧ bt (aN i) d = true)) → wX_roomNeeds_2 post (nI r) (nI d) fp (nI c) ft fr aF aL aC aT aR aX aS aG aH aN aW aM aP aQ (k + 1) (nI e) := by
  intro k
  induction k with
  | zero =>
    intro e h he
    exact br_t (nI_le (by omega) (by omega)) (h0 (fun ⟨i, h1, h2⟩ => he i (by omega) h2))
  | succ k ih =>
    intro e h he
    have nx : ¬ (bt (aR r) e = true ∧ bt (aN e) d = true) → wX_roomNeeds_2 post (nI r) (nI d) fp (nI c) ft fr aF aL aC aT aR aX aS aG aH aN aW aM aP aQ (k + 1) (nI (e + 1)) := by
      intro z
      refine ih (e + 1) (by omega) (fun i hi => ?_)
      by_cases ei : i = e
      · rw [ei]; exact z
      · exact he i (by omega)
    refine br_f (nI_ge (by omega) (by omega)) ?_
    cases hb : bt (aR r) e with
    | false => exact hx_0 hr (by omega) hb (br_t rfl (nm_r (nI_1 e) (nx (fun z => by rw [hb] at z; cases z.1))))
    | true =>
      have ea : aN (nI e).toNatClampNeg = aN e := rd rfl (by omega) rfl
      cases hb2 : bt (aN e) d with
      | true => exact hx_1 hr (by omega) hb (br_f ca_10 ⟨vp_in_nI (by omega) (by decide), ix_1 (by omega) (by rw [ea]; exact hb2) (br_f ca_10 (h1 ⟨e, by omega, hb, hb2⟩))⟩)
      | false => exact hx_1 hr (by omega) hb (br_f ca_10 ⟨vp_in_nI (by omega) (by decide), ix_0 (by omega) (by rw [ea]; exact hb2) (br_t rfl (nm_r (nI_1 e) (nx (fun z => by rw [hb2] at z; cases z.2))))⟩)
end
section
variable {fp fc fs : Int32} {aX aS bE bD bK bU bO bV aN aL bF aT aC aR bW bP bM : Nat → Int32} {aG aH : Nat → Int32}
theorem py_n {post : Int32 → Prop} {c n s : Nat} {fl : Int32} {w mem : Nat → Int32} (hs : s ≤ 20) (hn : n ≤ 22) (hW : tvY bW s w) (hL : ∀ (post : Int32 → Prop), post (nI n) → wpY_length post (fp, fc, nI s, aX, aS, bE, bD, bK, bU, bO, bV, aN, aL, bF, aT, aC, aR, bW, bP, bM) (nI c) fl) (hM : ∀ (post : Int32 → Prop) (k : Nat), k < n → post (mem k) → wpY_member post (fp, fc, nI s, aX, aS, bE, bD, bK, bU, bO, bV, aN, aL, bF, aT, aC, aR, bW, bP, bM) (nI c) fl (nI k)) (hN : ∀ p, p + n ≤ s + 2 → ¬ fq s w mem n p) (hp : post (-1)) : wpY_placeOf post (fp, fc, nI s, aX, aS, bE, bD, bK, bU, bO, bV, aN, aL, bF, aT, aC, aR, bW, bP, bM) (nI c) fl := by
  unfold wpY_placeOf
  exact hL _ ⟨_, pl_n hs hn hW hM hN hp (s + 3 - n) 0 (by omega)⟩
theorem py_s {post : Int32 → Prop} {c n s p0 : Nat} {fl : Int32} {w mem : Nat → Int32} (hs : s ≤ 20) (hn : n ≤ 22) (hW : tvY bW s w) (hL : ∀ (post : Int32 → Prop), post (nI n) → wpY_length post (fp, fc, nI s, aX, aS, bE, bD, bK, bU, bO, bV, aN, aL, bF, aT, aC, aR, bW, bP, bM) (nI c) fl) (hM : ∀ (post : Int32 → Prop) (k : Nat), k < n → post (mem k) → wpY_member post (fp, fc, nI s, aX, aS, bE, bD, bK, bU, bO, bV, aN, aL, bF, aT, aC, aR, bW, bP, bM) (nI c) fl (nI k)) (h0 : p0 + n ≤ s + 2) (hS : fq s w mem n p0) (hN : ∀ p, p < p0 → ¬ fq s w mem n p) (hp : post (nI p0)) : wpY_placeOf post (fp, fc, nI s, aX, aS, bE, bD, bK, bU, bO, bV, aN, aL, bF, aT, aC, aR, bW, bP, bM) (nI c) fl := by
  unfold wpY_placeOf
  exact hL _ ⟨_, pl_s hs hn hW hM h0 hS hN hp p0 0 (by omega)⟩
theorem un_0 {post : Int32 → SY → Prop} {r c d : Nat} {x : Int32} (hc : c ≤ 16) (hp : post (-4) (fp, nI c, fs, aX, aS, bE, bD, bK, bU, bO, bV, aN, aL, bF, aT, aC, aR, bW, bP, bM)) : ∀ k e, e + k = c → wY_uncommit_64 post (nI r) (nI d) x fp (nI c) fs aX aS bE bD bK bU bO bV aN aL bF aT aC aR bW bP bM (k + 1) 0 (nI e) := by
  intro k
  induction k with
  | zero => intro e h; exact br_t (nI_le (by omega) (by omega)) (br_t rfl hp)
  | succ k ih => intro e h; exact br_f (nI_ge (by omega) (by omega)) (br_t rfl (nm_r (nI_1 e) (ih (e + 1) (by omega))))
theorem un_1 {post : Int32 → SY → Prop} {r c d : Nat} {x : Int32} (hr : r < 3) (hc : c ≤ 16) (hd : d < 16) (h1 : (∃ e, e < c ∧ bt (aR r) e = true ∧ bt (aN e) d = true) → post (-4) (fp, nI c, fs, aX, aS, bE, bD, bK, bU, bO, bV, aN, aL, bF, aT, aC, aR, bW, bP, bM)) (h0 : (¬ ∃ e, e < c ∧ bt (aR r) e = true ∧ bt (aN e) d = true) → wY_uncommit_64 post (nI r) (nI d) x fp (nI c) fs aX aS bE bD bK bU bO bV aN aL bF aT aC aR bW bP bM 1 1 (nI c)) : ∀ k e, e + k = c → (∀ i, i < e → ¬ (bt (aR r) i = true ∧ bt (aN i) d = true)) → wY_uncommit_64 post (nI r) (nI d) x fp (nI c) fs aX aS bE bD bK bU bO bV aN aL bF aT aC aR bW bP bM (k + 1) 1 (nI e) := by
  intro k
  induction k with
  | zero =>
    intro e h he
    obtain rfl : e = c := by omega
    exact h0 (fun ⟨i, h1, h2⟩ => he i (by omega) h2)
  | succ k ih =>
    intro e h he
    have nx : ¬ (bt (aR r) e = true ∧ bt (aN e) d = true) → wY_uncommit_64 post (nI r) (nI d) x fp (nI c) fs aX aS bE bD bK bU bO bV aN aL bF aT aC aR bW bP bM (k + 1) 1 (nI (e + 1)) := by
      intro z
      refine ih (e + 1) (by omega) (fun i hi => ?_)
      by_cases ei : i = e
      · rw [ei]; exact z
      · exact he i (by omega)
    have er : aR (nI r).toNatClampNeg = aR r := rd rfl (by omega) rfl
    refine br_f (nI_ge (by omega) (by omega)) (br_f ca_10 ⟨vp_in_nI hr (by decide), ?_⟩)
    cases hb : bt (aR r) e with
    | false => exact iy_0 (by omega) (by rw [er]; exact hb) (br_t rfl (nm_r (nI_1 e) (nx (fun z => by rw [hb] at z; cases z.1))))
    | true =>
      have ea : aN (nI e).toNatClampNeg = aN e := rd rfl (by omega) rfl
      cases hb2 : bt (aN e) d with
      | true => exact iy_1 (by omega) (by rw [er]; exact hb) (br_f ca_10 ⟨vp_in_nI (by omega) (by decide), iy_1 (by omega) (by rw [ea]; exact hb2) (br_f ca_10 (nm_r (nI_1 e) (un_0 hc (h1 ⟨e, by omega, hb, hb2⟩) k (e + 1) (by omega))))⟩)
      | false => exact iy_1 (by omega) (by rw [er]; exact hb) (br_f ca_10 ⟨vp_in_nI (by omega) (by decide), iy_0 (by omega) (by rw [ea]; exact hb2) (br_t rfl (nm_r (nI_1 e) (nx (fun z => by rw [hb2] at z; cases z.2))))⟩)
end
theorem i_vc_uncommit {k : Nat} {u : SX} {v : SY} (I : i_Rel k u v) (hk : k + 4 ≤ 2048) (v1 : Int32) (v2 : Int32) : wpX_uncommit (fun r u' => wpY_uncommit (fun r' v' => r' = r ∧ i_Rel (k + 4) u' v') v v1 v2) u v1 v2 := by
  have J := i_up I
  obtain ⟨p, c, ft, fr, fs, aF, aL, aC, aT, aR, aX, aS, aG, aH, aN, aW, aM, aP, aQ, bE, bD, bK, bU, bO, bV, bF, bW, bP, bM, rfl, rfl, hR⟩ := I
  unfold wpX_uncommit wpY_uncommit
  rcases rm_c v1 with ⟨r, hr, rfl⟩ | hb
  · have hR0 := hR
    obtain ⟨hp, hc, hF, hT, hG, hz, hA, hN⟩ := hR
    rcases rc_c c v2 with ⟨d, hd, rfl⟩ | hb
    · have er : aR (nI r).toNatClampNeg = aR r := rd rfl (by omega) rfl
      cases hx : bt (aR r) d with
      | false =>
        refine rx_1 hr (br_f ca_10 (cx_1 hc hd (br_f ca_10 (hx_0 hr (by omega) hx (br_t rfl ?_)))))
        exact ry_1 hr (br_f ca_10 (cy_1 hc hd (br_f ca_10 ⟨vp_in_nI hr (by decide), iy_0 (by omega) (by rw [er]; exact hx) (br_t rfl ⟨rfl, J⟩)⟩)))
      | true =>
        obtain ⟨m, hm, eL, e60, e61, hf⟩ := hF r hr
        obtain ⟨⟨t, hS0⟩, ⟨o, hS1⟩⟩ : (∃ t, sd aG aH (2 * d) (bE d) (bD d) (bK d) bO (20 * d) p t) ∧ (∃ t, sd aG aH (2 * d + 1) (bE d) (bD d) (bU d) bV (20 * d) p t) := hG d hd
        have ht := hS0.1
        have ho := hS1.1
        obtain ⟨m0, m1, m2⟩ := sd_m hS0
        obtain ⟨n0, n1, n2⟩ := sd_m hS1
        have tX := tv_sx (aL := aL) (aW := aW) e60 e61 (fun i hi => (hf i hi).1)
        have tY := tv_sy (bF := bF) (bW := bW) (r := r) (m := m)
        have hw : wv p m (fun i => bF (20 * r + i)) := fun i hi => (hf i hi).2
        refine rx_1 hr (br_f ca_10 (cx_1 hc hd (br_f ca_10 (hx_1 hr (by omega) hx (br_f ca_10 (rb_x (ra_x (st_x0 hr hm eL ?_))))))))
        rcases fd_c m (o + 2) (fun i => bF (20 * r + i)) (fun k => aG (22 * (2 * d + 1) + k)) with hNo | ⟨q, q1, q2, q3⟩
        · refine fx_n hm (by omega) (by omega) hS1.2.2.1 tX hNo (br_t rfl ?_)
          refine ry_1 hr (br_f ca_10 (cy_1 hc hd (br_f ca_10 ⟨vp_in_nI hr (by decide), iy_1 (by omega) (by rw [er]; exact hx) (br_f ca_10 (st_y0 hr hm eL ?_))⟩)))
          refine py_n hm (by omega) tY (ln_1 (by omega) hS1) (me_1 (by omega) hS1) hNo (br_t ca_n1 ⟨_, un_0 hc ?_ c 0 (by omega)⟩)
          exact ⟨rfl, rl_mk hR0⟩
        · refine fx_s hm (by omega) (by omega) hS1.2.2.1 tX q1 q2 q3 (br_f (ca_ne1 (by omega)) ⟨_, rn_x hr hc (by omega) ?_ ?_ c 0 (by omega) (fun i h => absurd h (Nat.not_lt_zero i))⟩)
          · intro hE
            refine br_f ca_10 ?_
            refine ry_1 hr (br_f ca_10 (cy_1 hc hd (br_f ca_10 ⟨vp_in_nI hr (by decide), iy_1 (by omega) (by rw [er]; exact hx) (br_f ca_10 (st_y0 hr hm eL ?_))⟩)))
            refine py_s hm (by omega) tY (ln_1 (by omega) hS1) (me_1 (by omega) hS1) q1 q2 q3 (br_f (nI_pos (by omega)) ⟨_, un_1 hr hc (by omega) (fun _ => ?_) (fun z => absurd hE z) c 0 (by omega) (fun i h => absurd h (Nat.not_lt_zero i))⟩)
            exact ⟨rfl, rl_mk hR0⟩
          · intro hE
            refine br_t rfl ?_
            by_cases h20 : m + t - o ≤ 20
            · have hs' : m + 2 + (t + 2) - (o + 2) = m + t - o + 2 := by omega
              refine rp_x1 (n := o + 2) (n' := t + 2) (by omega) (by omega) hm (by omega) (by omega) (by omega) q1 hS1.2.2.1 hS0.2.2.1 ?_
              refine br_f ca_10 ?_
              have tX' := tv_rx (mem' := fun k => aG (22 * (2 * d) + k)) (more := t) (G := fun j => aG (22 * (2 * d) + (j - q))) tX q2 q1 (m0.trans n0.symm) (m1.trans n1.symm) (fun j _ _ => rfl)
              rw [hs'] at tX' ⊢
              refine kt_x0 hr h20 ⟨vp_in_nI hr (by decide), ⟨vp_in_nI hr (by decide), nm_r (wr rfl (by omega) rfl) ⟨vp_in_nI hr (by decide), ?_⟩⟩⟩
              refine ry_1 hr (br_f ca_10 (cy_1 hc hd (br_f ca_10 ⟨vp_in_nI hr (by decide), iy_1 (by omega) (by rw [er]; exact hx) (br_f ca_10 (st_y0 hr hm eL ?_))⟩)))
              refine py_s hm (by omega) tY (ln_1 (by omega) hS1) (me_1 (by omega) hS1) q1 q2 q3 (br_f (nI_pos (by omega)) ⟨_, un_1 hr hc (by omega) (fun z => absurd z hE) (fun _ => ?_) c 0 (by omega) (fun i h => absurd h (Nat.not_lt_zero i))⟩)
              refine br_t (nI_le (by omega) (by omega)) (br_f ca_10 ⟨vp_in_nI (by omega) (by decide), vp_in_nI (by omega) (by decide), br_t ?_ ?_⟩)
              · rw [rd (a := bU) rfl (by omega) hS1.2.1, rd (a := bK) rfl (by omega) hS0.2.1, pk_sub (by omega), nI_add]
                exact nI_le (b := 20) (by omega) (by decide)
              · refine ry_x (nfl := 0) (out := o) (more := t) (mem' := fun k => aG (22 * (2 * d) + k)) (Or.inr ⟨ca_10, rfl⟩) hm h20 (by omega) (fun fs bW => me_0 (by omega) hS0) (ln_1 (by omega) hS1) (ln_0 (by omega) hS0) ?_
                have tY' := tv_ry (mem' := fun k => aG (22 * (2 * d) + k)) (more := t) (out := o) (p := q) (G := fun j => aG (22 * (2 * d) + (j - q + 1))) tY (by omega) (fun j _ _ => rfl)
                refine kt_y0 hr h20 ⟨vp_in_nI hr (by decide), ⟨vp_in_nI hr (by decide), nm_r (wr rfl (by omega) rfl) ⟨?_, ?_⟩⟩⟩
                · exact (rd rfl (by omega) pk_us).symm
                · refine rl_mk ⟨hp, hc, rl_Fk hr h20 hF tX' tY' (wv_r hw (by omega) m2), hT, hG, hz, ?_, hN⟩
                  intro r' hr' d' h1 h2
                  by_cases e : r' = r
                  · rw [e, pk_us, b_and, er, hA r hr d' h1 h2]; rfl
                  · rw [pk_un e]; exact hA r' hr' d' h1 h2
            · refine rp_x0 (n := o + 2) (n' := t + 2) (by omega) (by omega) hm (by omega) (by omega) q1 hS1.2.2.1 hS0.2.2.1 ?_
              refine br_t rfl ?_
              refine ry_1 hr (br_f ca_10 (cy_1 hc hd (br_f ca_10 ⟨vp_in_nI hr (by decide), iy_1 (by omega) (by rw [er]; exact hx) (br_f ca_10 (st_y0 hr hm eL ?_))⟩)))
              refine py_s hm (by omega) tY (ln_1 (by omega) hS1) (me_1 (by omega) hS1) q1 q2 q3 (br_f (nI_pos (by omega)) ⟨_, un_1 hr hc (by omega) (fun z => absurd z hE) (fun _ => ?_) c 0 (by omega) (fun i h => absurd h (Nat.not_lt_zero i))⟩)
              refine br_t (nI_le (by omega) (by omega)) (br_f ca_10 ⟨vp_in_nI (by omega) (by decide), vp_in_nI (by omega) (by decide), br_f ?_ ?_⟩)
              · rw [rd (a := bU) rfl (by omega) hS1.2.1, rd (a := bK) rfl (by omega) hS0.2.1, pk_sub (by omega), nI_add]
                exact nI_ge (a := 20) (by omega) (by omega)
              · exact ⟨rfl, rl_mk hR0⟩
    · refine rx_1 hr (br_f ca_10 (cx_0 hb (br_t rfl ?_)))
      exact ry_1 hr (br_f ca_10 (cy_0 hb (br_t rfl ⟨rfl, J⟩)))
  · refine rx_0 hb (br_t rfl ?_)
    exact ry_0 hb (br_t rfl ⟨rfl, J⟩)
