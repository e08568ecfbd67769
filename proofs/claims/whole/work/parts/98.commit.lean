theorem i_vc_commit {k : Nat} {u : SX} {v : SY} (I : i_Rel k u v) (hk : k + 4 ≤ 2048) (v1 : Int32) : wpX_commit (fun r u' => wpY_commit (fun r' v' => r' = r ∧ i_Rel (k + 4) u' v') v v1) u v1 := by
  have J := i_up I
  obtain ⟨p, c, ft, fr, fs, aF, aL, aC, aT, aR, aX, aS, aG, aH, aN, aW, aM, aP, aQ, bE, bD, bK, bU, bO, bV, bF, bW, bP, bM, rfl, rfl, hR⟩ := I
  unfold wpX_commit wpY_commit
  rcases rm_c v1 with ⟨r, hr, rfl⟩ | hb
  · have hR0 := hR
    obtain ⟨hp, hc, hF, hT, hG, hz, hA, hN⟩ := hR
    obtain ⟨m, hm, eL, e60, e61, hf⟩ := hF r hr
    obtain ⟨n, hn, eT⟩ := hT r hr
    have hf' : ∀ i, i < m → aF (22 * r + 1 + i) = bF (20 * r + i) ∧ ∃ l, l < 60 ∧ bF (20 * r + i) = nI l := fun i hi => by
      obtain ⟨a, l, hl, b⟩ := hf i hi
      exact ⟨a, l, by omega, b⟩
    have gI := gI_i (q := fit aX aC bF r) (m := m) (n := n) m (Nat.le_refl _)
    obtain ⟨PL, PT, hpp, hs⟩ := pp_ex gI
    have eT' : aT (nI r).toNatClampNeg = nI n := rd rfl (by omega) eT
    have er : aR (nI r).toNatClampNeg = aR r := rd rfl (by omega) rfl
    have bn := pp_b hpp (Nat.le_refl _)
    have bg := gc_le PL PT ((gs (fit aX aC bF r) m n m).1 + 1)
    have e1 : nI c + nI (gc PL PT ((gs (fit aX aC bF r) m n m).1 + 1)) = nI (c + gc PL PT ((gs (fit aX aC bF r) m n m).1 + 1)) := nI_add _ _
    have e2 : nI p + nI n - nI (gs (fit aX aC bF r) m n m).1 = nI (p + n - (gs (fit aX aC bF r) m n m).1) := by rw [nI_add, pk_sub (by omega)]
    refine rx_1 hr (br_f ca_10 (mt_X hr hm hn eL eT hf' (fun aM aP aQ hx1 hx2 hx3 => ⟨_, cg_x hm hn hpp (pXX_of hpp hs hx1 hx2 hx3) ?_ ((gs (fit aX aC bF r) m n m).1 + 1) 0 (by omega)⟩)))
    have hPX := pXX_of hpp hs hx1 hx2 hx3
    by_cases h16 : c + gc PL PT ((gs (fit aX aC bF r) m n m).1 + 1) ≤ 16
    · refine br_t (by rw [e1]; exact nI_le (b := 16) h16 (by decide)) ⟨vp_in_nI hr (by decide), ?_⟩
      rw [eT', e2]
      by_cases h60 : p + n - (gs (fit aX aC bF r) m n m).1 ≤ 60
      · refine br_t (nI_le (b := 60) h60 (by decide)) ?_
        refine ⟨vp_in_nI hr (by decide), nm_r er ⟨_, it_l hr hm hn hpp hPX eT (fun aW hW => ?_) ((gs (fit aX aC bF r) m n m).1 + 2) 0 (by omega) aW (fun j h => absurd h (Nat.not_lt_zero j))⟩⟩
        have hl : ∀ q, q < 2 * c → (aH q).toNatClampNeg ≤ 22 := by
          intro q hq
          obtain ⟨⟨t, ht, -, eH, -⟩, ⟨o, ho, -, eH2, -⟩⟩ := hG (q / 2) (by omega)
          by_cases e : q = 2 * (q / 2)
          · rw [← e] at eH; rw [eH, nI_clamp (by omega)]; omega
          · rw [show 2 * (q / 2) + 1 = q by omega] at eH2; rw [eH2, nI_clamp (by omega)]; omega
        have hci : ci r n (gs (fit aX aC bF r) m n m).1 PL PT c aG aH aN aF (aR r) (p + PT 0 - 0) (c + gc PL PT 0) (PT 0) aG aH aW bE bD bK bU bO bV bW aN := by
          rw [hpp.2.1]
          exact ⟨hG, hz, fun _ _ => rfl, fun _ _ => rfl, hW, fun j h => absurd h (Nat.not_lt_zero j), fun d h1 h2 => absurd h2 (Nat.not_lt.mpr h1), fun _ _ => rfl⟩
        obtain ⟨aX', aS', aG', aH', aW', bE', bD', bK', bU', bO', bV', bW', aN', hci', hX, hY⟩ := st_all (ft := nI (n + 2)) (fs := fs) (aC := aC) (aM := aM) hr hm hn hpp hPX eL eT e60 e61 hf h16 h60 (hA r hr) hl ((gs (fit aX aC bF r) m n m).1 + 1) 0 (by omega) aX aS aG aH aW bE bD bK bU bO bV bW aN hci
        have eR : upd aR r (orb (aR r) c (gc PL PT 0)) = aR := ud_id aR r
        rw [eR, hpp.2.1] at hX
        rw [hpp.2.1, hpp.1] at hY
        obtain ⟨hC, hz', hGe, hHe, hWe, hBe, hNe, hNe'⟩ := hci'
        have hJ : ∀ u v, jn aG' aH' (aR r) u v (c + gc PL PT ((gs (fit aX aC bF r) m n m).1 + 1)) = (fun u v => jn aG aH (aR r) u v c) u v := by
          intro u v
          rw [jn_h (hA r hr) _ (by omega)]
          exact jn_c hGe hHe hl c (Nat.le_refl _)
        have eN : bk aN c (c + gc PL PT ((gs (fit aX aC bF r) m n m).1 + 1)) (fun d => nval (fun u v => jn aG aH (aR r) u v c) aN (fun k => aG' (22 * (2 * d) + k)) ((aH' (2 * d)).toNatClampNeg - 1)) = aN' := by
          funext d
          by_cases e : c ≤ d ∧ d < c + gc PL PT ((gs (fit aX aC bF r) m n m).1 + 1)
          · rw [bk_in e.1 e.2, hNe d e.1 e.2]; rfl
          · rw [bk_out e, hNe' d e]
        refine hX _ _ _ (rr_x (J := fun u v => jn aG aH (aR r) u v c) hr hn h16 (fun e he => ?_) (fun e he => ?_) hJ (fun u v e he => (jn_s he).1) (by omega) ?_)
        · obtain ⟨-, ⟨o, ho, -, eH2, -⟩⟩ := hC e he
          exact ⟨o + 2, by omega, by omega, eH2⟩
        · obtain ⟨⟨o, ho, -, eH2, -⟩, -⟩ := hC e he
          exact ⟨o + 2, by omega, by omega, eH2⟩
        · rw [eN]
          refine ry_1 hr (br_f ca_10 (mt_Y hr hm hn eL eT (fun i hi => (hf' i hi).2) (fun bM bP hy => ?_)))
          have hPY := pYY_of hn hpp hs hy
          have key := fun post hp => cs_y (post := post) (fp := nI p) (fc := nI c) (fs := fs) (aX := aX) (aS := aS) (bE := bE) (bD := bD) (bK := bK) (bU := bU) (bO := bO) (bV := bV) (aN := aN) (aL := aL) (bF := bF) (aT := aT) (aC := aC) (aR := aR) (bW := bW) (bP := bP) (bM := bM) hr hm hn hpp hPY eL eT hp ((gs (fit aX aC bF r) m n m).1 + 1) 0 (by omega)
          rw [hpp.1, hpp.2.1] at key
          refine key _ ?_
          refine br_t (by rw [e1]; exact nI_le (b := 16) h16 (by decide)) ⟨vp_in_nI hr (by decide), br_t (by rw [eT', e2]; exact nI_le (b := 60) h60 (by decide)) ?_⟩
          refine hY bP bM hPY _ ⟨vp_in_nI hr (by decide), nm_r eT' (kt_y0 hr hn ?_)⟩
          have t := fun post hp => cm_l (post := post) (ret := nI (gc PL PT ((gs (fit aX aC bF r) m n m).1 + 1))) (fp := nI (p + n - (gs (fit aX aC bF r) m n m).1)) (fs := nI n) (aX := aX') (aS := aS') (bE := bE') (bD := bD') (bK := bK') (bU := bU') (bO := bO') (bV := bV') (aN := aN') (aL := upd aL r (nI n)) (bF := bk bF (20 * r) (20 * r + n) (fun j => bW' (j - 20 * r))) (aT := aT) (aC := aC) (bW := bW') (bP := bP) (bM := bM) (R0 := aR) hr h16 hp (gc PL PT ((gs (fit aX aC bF r) m n m).1 + 1)) 0 (by omega)
          rw [show upd aR r (orb (aR r) c 0) = aR from ud_id aR r] at t
          refine ⟨_, t _ ⟨rfl, ?_⟩⟩
          have tX : tvX aW' n (fun i => aW' (i + 1)) := by
            intro j hj
            by_cases j0 : j = 0
            · subst j0
              have := hWe 0 (by omega)
              rw [hpp.1, hpp.2.1] at this
              rw [ew_0, this]; exact e60
            · by_cases j1 : j ≤ n
              · rw [ew_m (by omega) j1]; exact congrArg aW' (by omega)
              · have := hWe ((gs (fit aX aC bF r) m n m).1 + 1) (Nat.le_refl _)
                rw [hpp.2.2.1, hpp.2.2.2.1] at this
                rw [ew_e (by omega), show j = n + 1 by omega, this, ← e61]; exact congrArg aF (by omega)
          have tY : tvY bW' n (fun i => aW' (i + 1)) := fun i hi => (hBe i (by omega) hi).1
          have tw : wv (p + n - (gs (fit aX aC bF r) m n m).1) n (fun i => aW' (i + 1)) := fun i hi => (hBe i (by omega) hi).2
          refine rl_mk ⟨h60, h16, rl_Fk hr hn (rl_Fm hF (by omega)) tX tY tw, hT, hC, hz', fun r' hr' d h1 h2 => ?_, fun e he d h1 h2 => ?_⟩
          · by_cases e : r' = r
            · rw [e, pk_us]; exact orb_b (hA r hr) _ (by omega) d h1 h2
            · rw [pk_un e]; exact hA r' hr' d (by omega) h2
          · by_cases e2 : c ≤ e
            · rw [hNe e e2 he]
              exact nval_b (by omega) (fun u v x hx => (jn_s hx).1) hN _ d (by omega) h2
            · rw [hNe' e (by omega)]; exact hN e (by omega) d (by omega) h2
      · refine br_f (nI_ge (a := 60) (by omega) (by omega)) ?_
        refine ry_1 hr (br_f ca_10 (mt_Y hr hm hn eL eT (fun i hi => (hf' i hi).2) (fun bM bP hy => ?_)))
        have hPY := pYY_of hn hpp hs hy
        have key := fun post hp => cs_y (post := post) (fp := nI p) (fc := nI c) (fs := fs) (aX := aX) (aS := aS) (bE := bE) (bD := bD) (bK := bK) (bU := bU) (bO := bO) (bV := bV) (aN := aN) (aL := aL) (bF := bF) (aT := aT) (aC := aC) (aR := aR) (bW := bW) (bP := bP) (bM := bM) hr hm hn hpp hPY eL eT hp ((gs (fit aX aC bF r) m n m).1 + 1) 0 (by omega)
        rw [hpp.1, hpp.2.1] at key
        refine key _ ?_
        refine br_t (by rw [e1]; exact nI_le (b := 16) h16 (by decide)) ⟨vp_in_nI hr (by decide), br_f (by rw [eT', e2]; exact nI_ge (a := 60) (by omega) (by omega)) ?_⟩
        exact ⟨rfl, rl_mk hR0⟩
    · refine br_f (by rw [e1]; exact nI_ge (a := 16) (by omega) (by omega)) ?_
      refine ry_1 hr (br_f ca_10 (mt_Y hr hm hn eL eT (fun i hi => (hf' i hi).2) (fun bM bP hy => ?_)))
      have hPY := pYY_of hn hpp hs hy
      have key := fun post hp => cs_y (post := post) (fp := nI p) (fc := nI c) (fs := fs) (aX := aX) (aS := aS) (bE := bE) (bD := bD) (bK := bK) (bU := bU) (bO := bO) (bV := bV) (aN := aN) (aL := aL) (bF := bF) (aT := aT) (aC := aC) (aR := aR) (bW := bW) (bP := bP) (bM := bM) hr hm hn hpp hPY eL eT hp ((gs (fit aX aC bF r) m n m).1 + 1) 0 (by omega)
      rw [hpp.1, hpp.2.1] at key
      refine key _ ?_
      refine br_f (by rw [e1]; exact nI_ge (a := 16) (by omega) (by omega)) ?_
      exact ⟨rfl, rl_mk hR0⟩
  · refine rx_0 hb (br_t rfl ?_)
    exact ry_0 hb (br_t rfl ⟨rfl, J⟩)
