theorem i_vc_canPull {k : Nat} {u : SX} {v : SY} (I : i_Rel k u v) (hk : k + 4 ≤ 2048) (v1 : Int32) (v2 : Int32) (v3 : Int32) : wpX_canPull (fun r u' => wpY_canPull (fun r' v' => r' = r ∧ i_Rel (k + 4) u' v') v v1 v2 v3) u v1 v2 v3 := by
  obtain ⟨p, c, ft, fr, fs, aF, aL, aC, aT, aR, aX, aS, aG, aH, aN, aW, aM, aP, aQ, bE, bD, bK, bU, bO, bV, bF, bW, bP, bM, rfl, rfl, hR⟩ := I
  unfold wpX_canPull wpY_canPull
  obtain ⟨ret, ⟨h0, hX, hY⟩ | ⟨h0, r, d, hr, hd, rfl, rfl, s, w, hs, hw, hX, hY⟩⟩ := tp_all (ft := ft) (fr := fr) (fs := fs) (aC := aC) (aX := aX) (aS := aS) (aW := aW) (aM := aM) (aP := aP) (aQ := aQ) (bW := bW) (bP := bP) (bM := bM) hR v1 v2 v3
  · refine hX _ (fun ft aW => br_f (fun z => absurd h0 (Int32.not_lt.mpr z)) ?_)
    exact hY _ (fun fs bW => br_t h0 ⟨rfl, rl_mk hR⟩)
  · refine hX _ (fun aW tx => br_t (Int32.not_lt.mp h0) ?_)
    exact hY _ (fun bW ty => br_f h0 ⟨rfl, rl_mk hR⟩)
theorem i_vc_pull {k : Nat} {u : SX} {v : SY} (I : i_Rel k u v) (hk : k + 4 ≤ 2048) (v1 : Int32) (v2 : Int32) (v3 : Int32) : wpX_pull (fun r u' => wpY_pull (fun r' v' => r' = r ∧ i_Rel (k + 4) u' v') v v1 v2 v3) u v1 v2 v3 := by
  obtain ⟨p, c, ft, fr, fs, aF, aL, aC, aT, aR, aX, aS, aG, aH, aN, aW, aM, aP, aQ, bE, bD, bK, bU, bO, bV, bF, bW, bP, bM, rfl, rfl, hR⟩ := I
  unfold wpX_pull wpY_pull
  obtain ⟨ret, ⟨h0, hX, hY⟩ | ⟨h0, r, d, hr, hd, rfl, rfl, s, w, hs, hw, hX, hY⟩⟩ := tp_all (ft := ft) (fr := fr) (fs := fs) (aC := aC) (aX := aX) (aS := aS) (aW := aW) (aM := aM) (aP := aP) (aQ := aQ) (bW := bW) (bP := bP) (bM := bM) hR v1 v2 v3
  · refine hX _ (fun ft aW => br_f (fun z => absurd h0 (Int32.not_lt.mpr z)) ?_)
    exact hY _ (fun fs bW => br_t h0 ⟨rfl, rl_mk hR⟩)
  · obtain ⟨hp, hc, hF, hT, hG, hz, hA, hN⟩ := hR
    refine hX _ (fun aW tx => br_t (Int32.not_lt.mp h0) (kt_x0 hr hs ?_))
    have er : aR (nI r).toNatClampNeg = aR r := rd rfl (by omega) rfl
    have ea : aN (nI d).toNatClampNeg = aN d := rd rfl (by omega) rfl
    have hF' : rl_F (bk aF (22 * r) (22 * r + (s + 2)) (fun j => aW (j - 22 * r))) (upd aL r (nI s)) (bk bF (20 * r) (20 * r + s) (fun j => w (j - 20 * r))) p := by
      refine rl_Fk (bW := w) hr hs hF tx (fun i _ => rfl) hw
    obtain ⟨m', hm', eL', e60', e61', hf'⟩ := hF' r hr
    refine cf_x0 (g := fun j => aX (bk bF (20 * r) (20 * r + s) (fun j => w (j - 20 * r)) j).toNatClampNeg) hr hm' eL' ?_ ?_
    · intro i hi
      obtain ⟨e1, l, hl, e2⟩ := hf' i hi
      exact ⟨l, by omega, e1.trans e2, by rw [e2, nI_clamp (by omega)]⟩
    · refine ⟨vp_in_nI hr (by decide), vp_in_nI (by omega) (by decide), vp_in_nI hr (by decide), nm_r (e' := upd aR r (aR r ||| (aN d ||| ((1 : Int32) <<< (nI d &&& 31))))) (wr rfl (by omega) (by rw [er, ea])) ?_⟩
      refine hY _ (fun bW ty => br_f h0 (kt_y0 hr hs ⟨vp_in_nI hr (by decide), vp_in_nI (by omega) (by decide), vp_in_nI hr (by decide), nm_r (e' := upd aR r (aR r ||| (aN d ||| ((1 : Int32) <<< (nI d &&& 31))))) (wr rfl (by omega) (by rw [er, ea, Int32.or_assoc])) ?_⟩))
      have eb : bk bF (20 * r) (20 * r + s) (fun j => bW (j - 20 * r)) = bk bF (20 * r) (20 * r + s) (fun j => w (j - 20 * r)) := bk_cg (fun j h1 h2 => ty (j - 20 * r) (by omega))
      rw [eb]
      refine cf_y0 (g := fun j => aX (bk bF (20 * r) (20 * r + s) (fun j => w (j - 20 * r)) j).toNatClampNeg) hr hm' eL' ?_ ⟨rfl, rl_mk ⟨hp, hc, hF', rl_Tu hT hm', hG, hz, ?_, hN⟩⟩
      · intro i hi
        obtain ⟨e1, l, hl, e2⟩ := hf' i hi
        exact ⟨l, by omega, e2, by rw [e2, nI_clamp (by omega)]⟩
      · intro r' hr' d' h1 h2
        by_cases e : r' = r
        · rw [e, pk_us, b_or, b_or, hA r hr d' h1 h2, hN d hd d' h1 h2, bq_sh h2 (by omega), decide_eq_false (by omega)]; rfl
        · rw [pk_un e]; exact hA r' hr' d' h1 h2
