/-! the copy out of the file -/
section
variable {fp fc ft fr : Int32} {aF aL aC aT aR aX aS aG aH aN aW aM aP aQ : Nat → Int32}
theorem cf_x {post : SX → Prop} {r m : Nat} {g : Nat → Int32} (hr : r < 3) (hm : m ≤ 20) (hf : ∀ i, i < m → ∃ l, l < 60 ∧ aF (22 * r + 1 + i) = nI l ∧ aX l = g (20 * r + i)) (hp : post (fp, fc, ft, fr, aF, aL, bk aC (20 * r) (20 * r + m) g, upd aT r (nI m), aR, aX, aS, aG, aH, aN, aW, aM, aP, aQ)) : ∀ d i, i + d = m → wX_copyFromFile_9 post (nI r) (nI m) fp fc ft fr (d + 1) (nI i) aF aL (bk aC (20 * r) (20 * r + i) g) aT aR aX aS aG aH aN aW aM aP aQ := by
  intro d
  induction d with
  | zero =>
    intro i h
    obtain rfl : i = m := by omega
    exact br_t (nI_le (Nat.le_refl _) (by omega)) ⟨vp_in_nI hr (by decide), nm_r (wr rfl (by omega) rfl) hp⟩
  | succ d ih =>
    intro i h
    obtain ⟨l, hl, e1, e2⟩ := hf i (by omega)
    refine br_f (nI_ge (by omega) (by omega)) ⟨pk_in (22 * r + 1 + i) 66 (by omega) (xb r i), nm_r (rd (xb r i) (by omega) e1) ⟨vp_in_nI hl (by decide), ⟨pk_in (20 * r + i) 60 (by omega) (xc r i), nm_r ?_ (nm_r (nI_1 i) (ih (i + 1) (by omega)))⟩⟩⟩
    exact (wr (xc _ _) (by omega) (rd rfl (by omega) e2)).trans (bk_up (by omega) rfl)
theorem cf_x0 {post : SX → Prop} {r m : Nat} {g : Nat → Int32} (hr : r < 3) (hm : m ≤ 20) (eL : aL r = nI m) (hf : ∀ i, i < m → ∃ l, l < 60 ∧ aF (22 * r + 1 + i) = nI l ∧ aX l = g (20 * r + i)) (hp : post (fp, fc, ft, fr, aF, aL, bk aC (20 * r) (20 * r + m) g, upd aT r (nI m), aR, aX, aS, aG, aH, aN, aW, aM, aP, aQ)) : wpX_copyFromFile post (fp, fc, ft, fr, aF, aL, aC, aT, aR, aX, aS, aG, aH, aN, aW, aM, aP, aQ) (nI r) := by
  have t := cf_x hr hm hf hp m 0 (by omega)
  rw [bk_0 (Nat.le_of_eq (Nat.add_zero _))] at t
  exact ⟨vp_in_nI hr (by decide), nm_r (rd rfl (by omega) eL) ⟨_, t⟩⟩
end
section
variable {fp fc fs : Int32} {aX aS bE bD bK bU bO bV aN aL bF aT aC aR bW bP bM : Nat → Int32}
theorem cf_y {post : Int32 → SY → Prop} {r m : Nat} {g : Nat → Int32} (hr : r < 3) (hm : m ≤ 20) (eL : aL r = nI m) (eT : aT r = nI m) (hf : ∀ i, i < m → ∃ l, l < 60 ∧ bF (20 * r + i) = nI l ∧ aX l = g (20 * r + i)) (hp : post (nI m) (fp, fc, fs, aX, aS, bE, bD, bK, bU, bO, bV, aN, aL, bF, aT, bk aC (20 * r) (20 * r + m) g, aR, bW, bP, bM)) : ∀ d i, i + d = m → wY_revert_24 post (nI r) fp fc fs (d + 1) (nI i) aX aS bE bD bK bU bO bV aN aL bF aT (bk aC (20 * r) (20 * r + i) g) aR bW bP bM := by
  intro d
  induction d with
  | zero =>
    intro i h
    obtain rfl : i = m := by omega
    refine ⟨vp_in_nI hr (by decide), br_t (by rw [rd rfl (by omega) eL]; exact nI_le (Nat.le_refl _) (by omega)) ⟨vp_in_nI hr (by decide), ?_⟩⟩
    rw [rd rfl (by omega) eT]
    exact hp
  | succ d ih =>
    intro i h
    obtain ⟨l, hl, e1, e2⟩ := hf i (by omega)
    have e1' : bF (20 * nI r + nI i).toNatClampNeg = nI l := rd (ya r i) (by omega) e1
    refine ⟨vp_in_nI hr (by decide), br_f (by rw [rd rfl (by omega) eL]; exact nI_ge (by omega) (by omega)) ⟨pk_in (20 * r + i) 60 (by omega) (ya r i), by rw [e1']; exact vp_in_nI hl (by decide), ⟨pk_in (20 * r + i) 60 (by omega) (ya r i), nm_r ?_ (nm_r (nI_1 i) (ih (i + 1) (by omega)))⟩⟩⟩
    exact (wr (ya _ _) (by omega) (rd e1' (by omega) e2)).trans (bk_up (by omega) rfl)
theorem cf_y0 {post : Int32 → SY → Prop} {r m : Nat} {g : Nat → Int32} (hr : r < 3) (hm : m ≤ 20) (eL : aL r = nI m) (hf : ∀ i, i < m → ∃ l, l < 60 ∧ bF (20 * r + i) = nI l ∧ aX l = g (20 * r + i)) (hp : post (nI m) (fp, fc, fs, aX, aS, bE, bD, bK, bU, bO, bV, aN, aL, bF, upd aT r (nI m), bk aC (20 * r) (20 * r + m) g, aR, bW, bP, bM)) : wpY_revert post (fp, fc, fs, aX, aS, bE, bD, bK, bU, bO, bV, aN, aL, bF, aT, aC, aR, bW, bP, bM) (nI r) := by
  have t := cf_y (aT := upd aT r (nI m)) hr hm eL pk_us hf hp m 0 (by omega)
  rw [bk_0 (Nat.le_of_eq (Nat.add_zero _))] at t
  unfold wpY_revert
  exact ry_1 hr (br_f ca_10 ⟨vp_in_nI hr (by decide), vp_in_nI hr (by decide), nm_r (wr rfl (by omega) (rd rfl (by omega) eL)) ⟨_, t⟩⟩)
end
theorem i_vc_revert {k : Nat} {u : SX} {v : SY} (I : i_Rel k u v) (hk : k + 4 ≤ 2048) (v1 : Int32) : wpX_revert (fun r u' => wpY_revert (fun r' v' => r' = r ∧ i_Rel (k + 4) u' v') v v1) u v1 := by
  have J := i_up I
  obtain ⟨p, c, ft, fr, fs, aF, aL, aC, aT, aR, aX, aS, aG, aH, aN, aW, aM, aP, aQ, bE, bD, bK, bU, bO, bV, bF, bW, bP, bM, rfl, rfl, hR⟩ := I
  rcases rm_c v1 with ⟨r, hr, rfl⟩ | hb
  · obtain ⟨hp, hc, hF, hT, hR'⟩ := hR
    obtain ⟨m, hm, eL, e60, e61, hf⟩ := hF r hr
    unfold wpX_revert
    refine rx_1 hr (br_f ca_10 (cf_x0 (g := fun j => aX (bF j).toNatClampNeg) hr hm eL ?_ ⟨vp_in_nI hr (by decide), ?_⟩))
    · intro i hi
      obtain ⟨e1, l, hl, e2⟩ := hf i hi
      exact ⟨l, by omega, e1.trans e2, by rw [e2, nI_clamp (by omega)]⟩
    · refine cf_y0 (g := fun j => aX (bF j).toNatClampNeg) hr hm eL ?_ ⟨?_, rl_mk ⟨hp, hc, hF, rl_Tu hT hm, hR'⟩⟩
      · intro i hi
        obtain ⟨e1, l, hl, e2⟩ := hf i hi
        exact ⟨l, by omega, e2, by rw [e2, nI_clamp (by omega)]⟩
      · exact (rd rfl (by omega) pk_us).symm
  · unfold wpX_revert wpY_revert
    refine rx_0 hb (br_t rfl ?_)
    exact ry_0 hb (br_t rfl ⟨rfl, J⟩)
/-! compare -/
section
variable {fp fc ft fr : Int32} {aF aL aC aT aR aX aS aG aH aN aW aM aP aQ : Nat → Int32}
theorem sf_x {post : Int32 → Prop} {r s m : Nat} (hr : r < 3) (hs : s < 3) (hm : m ≤ 20) (eL : aL r = nI m) (h1 : (∀ i, i < m → aF (22 * r + 1 + i) = aF (22 * s + 1 + i)) → post 1) (h0 : ¬ (∀ i, i < m → aF (22 * r + 1 + i) = aF (22 * s + 1 + i)) → post 0) : ∀ d i, i + d = m → (∀ j, j < i → aF (22 * r + 1 + j) = aF (22 * s + 1 + j)) → wX_areSameFiles_19 post (nI r) (nI s) fp fc ft fr aF aL aC aT aR aX aS aG aH aN aW aM aP aQ (d + 1) (nI (i + 1)) := by
  intro d
  induction d with
  | zero =>
    intro i h hi
    obtain rfl : i = m := by omega
    exact ⟨vp_in_nI hr (by decide), br_t (by rw [rd rfl (by omega) eL]; exact nI_lt (by omega) (by omega)) (h1 hi)⟩
  | succ d ih =>
    intro i h hi
    have e1 : ∀ q, nI q * 22 + nI (i + 1) = nI (22 * q + 1 + i) := fun q => by rw [xa]; exact congrArg nI (by omega)
    refine ⟨vp_in_nI hr (by decide), br_f (by rw [rd rfl (by omega) eL]; exact nI_nlt (by omega) (by omega)) ⟨pk_in (22 * r + 1 + i) 66 (by omega) (e1 r), pk_in (22 * s + 1 + i) 66 (by omega) (e1 s), ?_⟩⟩
    rw [rd (a := aF) (e1 r) (by omega) rfl, rd (a := aF) (e1 s) (by omega) rfl]
    refine br_c (fun e => nm_r (nI_1 (i + 1)) (ih (i + 1) (by omega) ?_)) (fun e => h0 (fun z => e (z i (by omega))))
    intro j hj
    by_cases ej : j = i
    · rw [ej]; exact e
    · exact hi j (by omega)
end
section
variable {fp fc fs : Int32} {aX aS bE bD bK bU bO bV aN aL bF aT aC aR bW bP bM : Nat → Int32}
theorem sf_y0 {post : Int32 → Prop} {r s m : Nat} (hr : r < 3) (eL : aL r = nI m) (h0 : wY_compare_96 post (nI r) (nI s) 0 fp fc fs aX aS bE bD bK bU bO bV aN aL bF aT aC aR bW bP bM) (n i : Nat) (hm : m ≤ 20) (hi : i ≤ m) : wY_compare_42 post (nI r) (nI s) fp fc fs aX aS bE bD bK bU bO bV aN aL bF aT aC aR bW bP bM (n + 1) 0 (nI i) := by
  refine ⟨vp_in_nI hr (by decide), ?_⟩
  rw [rd rfl (by omega) eL]
  exact pk_le m i (fun _ => h0) (fun _ => br_t rfl h0)
theorem sf_y {post : Int32 → Prop} {r s m : Nat} (hr : r < 3) (hs : s < 3) (hm : m ≤ 20) (eL : aL r = nI m) (h1 : (∀ i, i < m → bF (20 * r + i) = bF (20 * s + i)) → wY_compare_96 post (nI r) (nI s) 1 fp fc fs aX aS bE bD bK bU bO bV aN aL bF aT aC aR bW bP bM) (h0 : ¬ (∀ i, i < m → bF (20 * r + i) = bF (20 * s + i)) → wY_compare_96 post (nI r) (nI s) 0 fp fc fs aX aS bE bD bK bU bO bV aN aL bF aT aC aR bW bP bM) : ∀ d i, i + d = m → (∀ j, j < i → bF (20 * r + j) = bF (20 * s + j)) → wY_compare_42 post (nI r) (nI s) fp fc fs aX aS bE bD bK bU bO bV aN aL bF aT aC aR bW bP bM (d + 1) 1 (nI i) := by
  intro d
  induction d with
  | zero =>
    intro i h hi
    obtain rfl : i = m := by omega
    exact ⟨vp_in_nI hr (by decide), br_t (by rw [rd rfl (by omega) eL]; exact nI_le (by omega) (by omega)) (h1 hi)⟩
  | succ d ih =>
    intro i h hi
    refine ⟨vp_in_nI hr (by decide), br_f (by rw [rd rfl (by omega) eL]; exact nI_ge (by omega) (by omega)) (br_f ca_10 ⟨pk_in (20 * r + i) 60 (by omega) (ya r i), pk_in (20 * s + i) 60 (by omega) (ya s i), ?_⟩)⟩
    rw [rd (a := bF) (ya r i) (by omega) rfl, rd (a := bF) (ya s i) (by omega) rfl]
    refine br_c (fun e => nm_r (nI_1 i) (ih (i + 1) (by omega) ?_)) (fun e => nm_r (nI_1 i) (sf_y0 hr eL (h0 (fun z => e (z i (by omega)))) d (i + 1) hm (by omega)))
    intro j hj
    by_cases ej : j = i
    · rw [ej]; exact e
    · exact hi j (by omega)
end
theorem i_vc_compare {k : Nat} {u : SX} {v : SY} (I : i_Rel k u v) (hk : k + 4 ≤ 2048) (v1 : Int32) (v2 : Int32) : wpX_compare (fun r => wpY_compare (fun r' => r' = r ∧ i_Rel (k + 4) u v) v v1 v2) u v1 v2 := by
  have J := i_up I
  obtain ⟨p, c, ft, fr, fs, aF, aL, aC, aT, aR, aX, aS, aG, aH, aN, aW, aM, aP, aQ, bE, bD, bK, bU, bO, bV, bF, bW, bP, bM, rfl, rfl, hR⟩ := I
  unfold wpX_compare wpY_compare
  rcases rm_c v1 with ⟨r, hr, rfl⟩ | hb
  · rcases rm_c v2 with ⟨s, hs, rfl⟩ | hb
    · obtain ⟨hp, hc, hF, hT, hR'⟩ := hR
      obtain ⟨m, hm, eL, -, -, hf⟩ := hF r hr
      obtain ⟨m2, hm2, eL2, -, -, hf2⟩ := hF s hs
      have eL' : aL (nI r).toNatClampNeg = nI m := rd rfl (by omega) eL
      have eL2' : aL (nI s).toNatClampNeg = nI m2 := rd rfl (by omega) eL2
      have er : aR (nI r).toNatClampNeg = aR r := rd rfl (by omega) rfl
      have es : aR (nI s).toNatClampNeg = aR s := rd rfl (by omega) rfl
      refine rx_1 hr (br_f ca_10 (rx_1 hs (br_f ca_10 ⟨vp_in_nI hr (by decide), vp_in_nI hs (by decide), ?_⟩)))
      rw [eL', eL2']
      by_cases e : m = m2
      · subst e
        refine br_t rfl ⟨m + 1, sf_x hr hs hm eL ?_ ?_ m 0 (by omega) (fun j h => absurd h (Nat.not_lt_zero j))⟩
        · intro hz
          have hz' : ∀ i, i < m → bF (20 * r + i) = bF (20 * s + i) := fun i hi => by rw [← (hf i hi).1, ← (hf2 i hi).1]; exact hz i hi
          refine ⟨vp_in_nI hr (by decide), vp_in_nI hs (by decide), ?_⟩
          refine br_c (fun ea => br_f ca_10 ?_) (fun ea => br_f ca_10 ?_)
          · refine ry_1 hr (br_f ca_10 (ry_1 hs (br_f ca_10 ⟨vp_in_nI hr (by decide), vp_in_nI hs (by decide), br_t (by rw [eL', eL2']) ⟨m + 1, sf_y hr hs hm eL ?_ (fun z => absurd hz' z) m 0 (by omega) (fun j h => absurd h (Nat.not_lt_zero j))⟩⟩)))
            exact fun _ => ⟨vp_in_nI hr (by decide), vp_in_nI hs (by decide), br_t ea (br_f ca_10 ⟨rfl, J⟩)⟩
          · refine ry_1 hr (br_f ca_10 (ry_1 hs (br_f ca_10 ⟨vp_in_nI hr (by decide), vp_in_nI hs (by decide), br_t (by rw [eL', eL2']) ⟨m + 1, sf_y hr hs hm eL ?_ (fun z => absurd hz' z) m 0 (by omega) (fun j h => absurd h (Nat.not_lt_zero j))⟩⟩)))
            exact fun _ => ⟨vp_in_nI hr (by decide), vp_in_nI hs (by decide), br_f ea (br_f ca_10 ⟨rfl, J⟩)⟩
        · intro hz
          have hz' : ¬ ∀ i, i < m → bF (20 * r + i) = bF (20 * s + i) := fun q => hz (fun i hi => by rw [(hf i hi).1, (hf2 i hi).1]; exact q i hi)
          refine ⟨vp_in_nI hr (by decide), vp_in_nI hs (by decide), ?_⟩
          refine br_c (fun ea => br_t rfl ?_) (fun ea => br_t rfl ?_)
          · refine ry_1 hr (br_f ca_10 (ry_1 hs (br_f ca_10 ⟨vp_in_nI hr (by decide), vp_in_nI hs (by decide), br_t (by rw [eL', eL2']) ⟨m + 1, sf_y hr hs hm eL (fun z => absurd z hz') ?_ m 0 (by omega) (fun j h => absurd h (Nat.not_lt_zero j))⟩⟩)))
            exact fun _ => ⟨vp_in_nI hr (by decide), vp_in_nI hs (by decide), br_t ea (br_t rfl ⟨rfl, J⟩)⟩
          · refine ry_1 hr (br_f ca_10 (ry_1 hs (br_f ca_10 ⟨vp_in_nI hr (by decide), vp_in_nI hs (by decide), br_t (by rw [eL', eL2']) ⟨m + 1, sf_y hr hs hm eL (fun z => absurd z hz') ?_ m 0 (by omega) (fun j h => absurd h (Nat.not_lt_zero j))⟩⟩)))
            exact fun _ => ⟨vp_in_nI hr (by decide), vp_in_nI hs (by decide), br_f ea (br_t rfl ⟨rfl, J⟩)⟩
      · have ne : ¬ nI m = nI m2 := fun z => e ((nI_eq (by omega) (by omega)).mp z)
        refine br_f ne ⟨vp_in_nI hr (by decide), vp_in_nI hs (by decide), ?_⟩
        refine br_c (fun ea => br_t rfl ?_) (fun ea => br_t rfl ?_)
        · refine ry_1 hr (br_f ca_10 (ry_1 hs (br_f ca_10 ⟨vp_in_nI hr (by decide), vp_in_nI hs (by decide), br_f (by rw [eL', eL2']; exact ne) ⟨1, sf_y0 hr eL ?_ 0 0 hm (by omega)⟩⟩)))
          exact ⟨vp_in_nI hr (by decide), vp_in_nI hs (by decide), br_t ea (br_t rfl ⟨rfl, J⟩)⟩
        · refine ry_1 hr (br_f ca_10 (ry_1 hs (br_f ca_10 ⟨vp_in_nI hr (by decide), vp_in_nI hs (by decide), br_f (by rw [eL', eL2']; exact ne) ⟨1, sf_y0 hr eL ?_ 0 0 hm (by omega)⟩⟩)))
          exact ⟨vp_in_nI hr (by decide), vp_in_nI hs (by decide), br_f ea (br_t rfl ⟨rfl, J⟩)⟩
    · refine rx_1 hr (br_f ca_10 (rx_0 hb (br_t rfl ?_)))
      exact ry_1 hr (br_f ca_10 (ry_0 hb (br_t rfl ⟨rfl, J⟩)))
  · refine rx_0 hb (br_t rfl ?_)
    exact ry_0 hb (br_t rfl ⟨rfl, J⟩)
