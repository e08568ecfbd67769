/-! is the copy as the file -/
section
variable {fp fc ft fr : Int32} {aF aL aC aT aR aX aS aG aH aN aW aM aP aQ : Nat → Int32}
theorem xs_x {post : Int32 → Prop} {r i j l : Nat} (hr : r < 3) (hi : i < 20) (hj : j < 20) (hl : l < 60) (e : aF (22 * r + 1 + i) = nI l) (h1 : aX l = aC (20 * r + j) → post 1) (h0 : ¬ aX l = aC (20 * r + j) → post 0) : wpX_isSameText post (fp, fc, ft, fr, aF, aL, aC, aT, aR, aX, aS, aG, aH, aN, aW, aM, aP, aQ) (nI r) (nI (i + 1)) (nI (j + 1)) := by
  have e1 : nI r * 22 + nI (i + 1) = nI (22 * r + 1 + i) := by rw [xa]; exact congrArg nI (by omega)
  refine ⟨pk_in (22 * r + 1 + i) 66 (by omega) e1, nm_r (rd e1 (by omega) e) ⟨vp_in_nI hl (by decide), pk_in (20 * r + j) 60 (by omega) (xd r j), ?_⟩⟩
  rw [rd (a := aX) rfl (by omega) rfl, rd (a := aC) (xd r j) (by omega) rfl]
  exact br_c h1 h0
theorem ic_l {post : Int32 → Prop} {r m : Nat} {bF : Nat → Int32} (hr : r < 3) (hm : m ≤ 20) (eL : aL r = nI m) (hf : ∀ i, i < m → aF (22 * r + 1 + i) = bF (20 * r + i) ∧ ∃ l, l < 60 ∧ bF (20 * r + i) = nI l) (h1 : (∀ i, i < m → aX (bF (20 * r + i)).toNatClampNeg = aC (20 * r + i)) → post 1) (h0 : ¬ (∀ i, i < m → aX (bF (20 * r + i)).toNatClampNeg = aC (20 * r + i)) → post 0) : ∀ d i, i + d = m → (∀ j, j < i → aX (bF (20 * r + j)).toNatClampNeg = aC (20 * r + j)) → wX_isCopyAsFile_19 post (nI r) fp fc ft fr aF aL aC aT aR aX aS aG aH aN aW aM aP aQ (d + 1) (nI (i + 1)) := by
  intro d
  induction d with
  | zero =>
    intro i h hi
    obtain rfl : i = m := by omega
    exact ⟨vp_in_nI hr (by decide), br_t (by rw [rd rfl (by omega) eL]; exact nI_lt (by omega) (by omega)) (h1 hi)⟩
  | succ d ih =>
    intro i h hi
    obtain ⟨e1, l, hl, e2⟩ := hf i (by omega)
    have e3 : aX (bF (20 * r + i)).toNatClampNeg = aX l := by rw [e2, nI_clamp (by omega)]
    refine ⟨vp_in_nI hr (by decide), br_f (by rw [rd rfl (by omega) eL]; exact nI_nlt (by omega) (by omega)) (xs_x hr (by omega) (by omega) hl (e1.trans e2) (fun e => br_f ca_10 (nm_r (nI_1 (i + 1)) (ih (i + 1) (by omega) ?_))) (fun e => br_t rfl (h0 (fun z => e (e3.symm.trans (z i (by omega)))))))⟩
    intro j hj
    by_cases ej : j = i
    · rw [ej, e3]; exact e
    · exact hi j (by omega)
theorem ic_x {post : Int32 → Prop} {r m n : Nat} {bF : Nat → Int32} (hr : r < 3) (hm : m ≤ 20) (hn : n ≤ 20) (eL : aL r = nI m) (eT : aT r = nI n) (hf : ∀ i, i < m → aF (22 * r + 1 + i) = bF (20 * r + i) ∧ ∃ l, l < 60 ∧ bF (20 * r + i) = nI l) (h1 : (m = n ∧ ∀ i, i < m → aX (bF (20 * r + i)).toNatClampNeg = aC (20 * r + i)) → post 1) (h0 : ¬ (m = n ∧ ∀ i, i < m → aX (bF (20 * r + i)).toNatClampNeg = aC (20 * r + i)) → post 0) : wpX_isCopyAsFile post (fp, fc, ft, fr, aF, aL, aC, aT, aR, aX, aS, aG, aH, aN, aW, aM, aP, aQ) (nI r) := by
  refine ⟨vp_in_nI hr (by decide), vp_in_nI hr (by decide), ?_⟩
  rw [rd (a := aL) rfl (by omega) eL, rd (a := aT) rfl (by omega) eT]
  refine pk_eq m n (fun e => ⟨m + 1, ic_l hr hm eL hf (fun z => h1 ⟨e, z⟩) (fun z => h0 (fun q => z q.2)) m 0 (by omega) (fun j h => absurd h (Nat.not_lt_zero j))⟩) (fun e => h0 (fun q => e q.1))
end
section
variable {fp fc fs : Int32} {aX aS bE bD bK bU bO bV aN aL bF aT aC aR bW bP bM : Nat → Int32}
theorem fi_y {post : Int32 → Prop} {r i j l : Nat} (hr : r < 3) (hi : i < 20) (hj : j < 20) (hl : l < 60) (e : bF (20 * r + i) = nI l) (h1 : aX l = aC (20 * r + j) → post 1) (h0 : ¬ aX l = aC (20 * r + j) → post 0) : wpY_fits post (fp, fc, fs, aX, aS, bE, bD, bK, bU, bO, bV, aN, aL, bF, aT, aC, aR, bW, bP, bM) (nI r) (nI i) (nI j) := by
  have e1 : bF (20 * nI r + nI i).toNatClampNeg = nI l := rd (ya r i) (by omega) e
  refine ⟨pk_in (20 * r + i) 60 (by omega) (ya r i), by rw [e1]; exact vp_in_nI hl (by decide), pk_in (20 * r + j) 60 (by omega) (ya r j), ?_⟩
  rw [rd (a := aX) e1 (by omega) rfl, rd (a := aC) (ya r j) (by omega) rfl]
  exact br_c h1 h0
theorem ic_0 {post : Int32 → Prop} {r m : Nat} (hr : r < 3) (hm : m ≤ 20) (eL : aL r = nI m) (hp : post 0) (n i : Nat) (hi : i ≤ m) : wY_isClean_23 post (nI r) fp fc fs aX aS bE bD bK bU bO bV aN aL bF aT aC aR bW bP bM (n + 1) 0 (nI i) := by
  refine ⟨vp_in_nI hr (by decide), ?_⟩
  rw [rd rfl (by omega) eL]
  exact pk_le m i (fun _ => ⟨by decide, hp⟩) (fun _ => br_t rfl ⟨by decide, hp⟩)
theorem ic_1 {post : Int32 → Prop} {r m : Nat} (hr : r < 3) (hm : m ≤ 20) (eL : aL r = nI m) (hf : ∀ i, i < m → ∃ l, l < 60 ∧ bF (20 * r + i) = nI l) (h1 : (∀ i, i < m → aX (bF (20 * r + i)).toNatClampNeg = aC (20 * r + i)) → post 1) (h0 : ¬ (∀ i, i < m → aX (bF (20 * r + i)).toNatClampNeg = aC (20 * r + i)) → post 0) : ∀ d i, i + d = m → (∀ j, j < i → aX (bF (20 * r + j)).toNatClampNeg = aC (20 * r + j)) → wY_isClean_23 post (nI r) fp fc fs aX aS bE bD bK bU bO bV aN aL bF aT aC aR bW bP bM (d + 1) 1 (nI i) := by
  intro d
  induction d with
  | zero =>
    intro i h hi
    obtain rfl : i = m := by omega
    exact ⟨vp_in_nI hr (by decide), br_t (by rw [rd rfl (by omega) eL]; exact nI_le (by omega) (by omega)) ⟨by decide, h1 hi⟩⟩
  | succ d ih =>
    intro i h hi
    obtain ⟨l, hl, e2⟩ := hf i (by omega)
    have e3 : aX (bF (20 * r + i)).toNatClampNeg = aX l := by rw [e2, nI_clamp (by omega)]
    refine ⟨vp_in_nI hr (by decide), br_f (by rw [rd rfl (by omega) eL]; exact nI_ge (by omega) (by omega)) (br_f ca_10 (fi_y hr (by omega) (by omega) hl e2 (fun e => nm_r (nI_1 i) (ih (i + 1) (by omega) ?_)) (fun e => nm_r (nI_1 i) (ic_0 hr hm eL (h0 (fun z => e (e3.symm.trans (z i (by omega))))) d (i + 1) (by omega)))))⟩
    intro j hj
    by_cases ej : j = i
    · rw [ej, e3]; exact e
    · exact hi j (by omega)
theorem ic_y {post : Int32 → Prop} {r m n : Nat} (hr : r < 3) (hm : m ≤ 20) (hn : n ≤ 20) (eL : aL r = nI m) (eT : aT r = nI n) (hf : ∀ i, i < m → ∃ l, l < 60 ∧ bF (20 * r + i) = nI l) (h1 : (m = n ∧ ∀ i, i < m → aX (bF (20 * r + i)).toNatClampNeg = aC (20 * r + i)) → post 1) (h0 : ¬ (m = n ∧ ∀ i, i < m → aX (bF (20 * r + i)).toNatClampNeg = aC (20 * r + i)) → post 0) : wpY_isClean post (fp, fc, fs, aX, aS, bE, bD, bK, bU, bO, bV, aN, aL, bF, aT, aC, aR, bW, bP, bM) (nI r) := by
  refine ⟨vp_in_nI hr (by decide), vp_in_nI hr (by decide), ?_⟩
  rw [rd (a := aL) rfl (by omega) eL, rd (a := aT) rfl (by omega) eT]
  refine pk_eq m n (fun e => ⟨m + 1, ic_1 hr hm eL hf (fun z => h1 ⟨e, z⟩) (fun z => h0 (fun q => z q.2)) m 0 (by omega) (fun j h => absurd h (Nat.not_lt_zero j))⟩) (fun e => ⟨1, ic_0 hr hm eL (h0 (fun q => e q.1)) 0 0 (by omega)⟩)
end
