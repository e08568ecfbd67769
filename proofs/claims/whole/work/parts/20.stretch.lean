/-! the stretches, by the reference -/
def pYY (bP : Nat → Int32) (np : Nat) (PL PT : Nat → Nat) : Prop := ∀ k, k ≤ np → (∀ j, PT k ≤ j → j + 1 < PT (k + 1) → bP j = -1) ∧ (k < np → bP (PT (k + 1) - 1) = nI (PL (k + 1)) - 1)
theorem ca_dd {u v : Nat} (h : u ≤ v) : (nI v - 1) - (nI u - 1) = nI (v - u) := by
  rw [← pk_sub h]
  grind
section
variable {fp fc fs : Int32} {aX aS bE bD bK bU bO bV aN aL bF aT aC aR bW bP bM : Nat → Int32}
theorem sk_y {post : Int32 → SY → Prop} {r np m n k F : Nat} {PL PT : Nat → Nat} {x2 x3 x4 x5 : Int32} (hr : r < 3) (hm : m ≤ 20) (hn : n ≤ 20) (hpp : pp np m n PL PT) (hP : pYY bP np PL PT) (hk : k ≤ np) (eL : aL r = nI m) (eT : aT r = nI n) (hp : wY_stretches_49 post (wY_stretches_11 post (nI r) x2 F) (nI r) x2 x3 x4 x5 (nI (PT (k + 1)) - 1) (nI (PL (k + 1)) - 1) fp fc fs aX aS bE bD bK bU bO bV aN aL bF aT aC aR bW bP bM) : ∀ d j, j + d + 1 = PT (k + 1) → PT k ≤ j → wY_stretches_11 post (nI r) x2 (F + d + 1) x3 x4 x5 (nI j) fp fc fs aX aS bE bD bK bU bO bV aN aL bF aT aC aR bW bP bM := by
  have b1 := pp_b hpp (show k + 1 ≤ np + 1 by omega)
  intro d
  induction d with
  | zero =>
    intro j h hj
    have ej : nI (PT (k + 1)) - 1 = nI j := by rw [ca_s1 (by omega)]; exact congrArg nI (by omega)
    rw [ej] at hp
    refine ⟨vp_in_nI hr (by decide), br_f (by rw [rd (a := aT) rfl (by omega) eT]; exact nI_nlt (by omega) (by omega)) ⟨vp_in_nI hr (by decide), ?_⟩⟩
    by_cases hkn : k < np
    · have b2 := pp_b hpp (show k + 2 ≤ np + 1 by omega)
      refine br_f (by rw [rd (a := aT) rfl (by omega) eT]; exact nI_ge (by omega) (by omega)) ⟨vp_in_nI (by omega) (by decide), ?_⟩
      have := (hP k hk).2 hkn
      rw [show PT (k + 1) - 1 = j by omega] at this
      rw [rd (a := bP) rfl (by omega) this]
      exact hp
    · obtain rfl : k = np := by omega
      have := hpp.2.2.2.1
      refine br_t (by rw [rd (a := aT) rfl (by omega) eT]; exact nI_le (by omega) (by omega)) ⟨vp_in_nI hr (by decide), ?_⟩
      rw [hpp.2.2.1, ca_z] at hp
      rw [rd (a := aL) rfl (by omega) eL]
      exact hp
  | succ d ih =>
    intro j h hj
    refine ⟨vp_in_nI hr (by decide), br_f (by rw [rd (a := aT) rfl (by omega) eT]; exact nI_nlt (by omega) (by omega)) ⟨vp_in_nI hr (by decide), br_f (by rw [rd (a := aT) rfl (by omega) eT]; exact nI_ge (by omega) (by omega)) ⟨vp_in_nI (by omega) (by decide), ?_⟩⟩⟩
    rw [rd (a := bP) rfl (by omega) ((hP k hk).1 j hj (by omega))]
    exact br_t ca_n1 (nm_r (nI_1 j) (ih (j + 1) (by omega) (by omega)))
theorem cs_y {post : Int32 → SY → Prop} {r np m n : Nat} {PL PT : Nat → Nat} (hr : r < 3) (hm : m ≤ 20) (hn : n ≤ 20) (hpp : pp np m n PL PT) (hP : pYY bP np PL PT) (eL : aL r = nI m) (eT : aT r = nI n) (hp : post (nI (gc PL PT (np + 1))) (fp, fc, fs, aX, aS, bE, bD, bK, bU, bO, bV, aN, aL, bF, aT, aC, aR, bW, bP, bM)) : ∀ d k, k + d = np + 1 → ∃ F, wY_stretches_11 post (nI r) 0 F (nI (gc PL PT k)) (nI (PL k) - 1) (nI (PT k) - 1) (nI (PT k)) fp fc fs aX aS bE bD bK bU bO bV aN aL bF aT aC aR bW bP bM := by
  intro d
  induction d with
  | zero =>
    intro k h
    obtain rfl : k = np + 1 := by omega
    rw [hpp.2.2.2.1]
    exact ⟨1, ⟨vp_in_nI hr (by decide), br_t (by rw [rd (a := aT) rfl (by omega) eT]; exact nI_lt (by omega) (by omega)) hp⟩⟩
  | succ d ih =>
    intro k h
    obtain ⟨F, t⟩ := ih (k + 1) (by omega)
    have b0 := pp_b hpp (show k ≤ np + 1 by omega)
    have b1 := pp_b hpp (show k + 1 ≤ np + 1 by omega)
    have b2 := hpp.2.2.2.2 k (by omega)
    have g94 : ∀ x3, x3 = nI (gc PL PT (k + 1)) → wY_stretches_94 post (wY_stretches_11 post (nI r) 0 F) (nI r) 0 x3 (nI (PT (k + 1)) - 1) (nI (PL (k + 1)) - 1) fp fc fs aX aS bE bD bK bU bO bV aN aL bF aT aC aR bW bP bM := by
      intro x3 hx
      rw [hx]
      exact br_t rfl (nm_r (Int32.sub_add_cancel _ _) t)
    refine ⟨F + (PT (k + 1) - 1 - PT k) + 1, sk_y hr hm hn hpp hP (by omega) eL eT ?_ (PT (k + 1) - 1 - PT k) (PT k) (by omega) (Nat.le_refl _)⟩
    refine br_f (by rw [ca_s1 (by omega)]; exact nI_pos (by omega)) ?_
    rw [ca_dd (by omega), ca_dd (by omega)]
    by_cases hg : 1 < PL (k + 1) - PL k ∨ 1 < PT (k + 1) - PT k
    · have g74 : wY_stretches_74 post (wY_stretches_11 post (nI r) 0 F) (nI r) 0 (nI (gc PL PT k)) (nI (PL k) - 1) (nI (PT k) - 1) (nI (PT (k + 1)) - 1) (nI (PL (k + 1)) - 1) fp fc fs aX aS bE bD bK bU bO bV aN aL bF aT aC aR bW bP bM :=
        nm_r (nI_1 _) (br_t rfl (g94 _ (by rw [gc, if_pos hg])))
      exact pk_lt 1 (PL (k + 1) - PL k) (fun _ => g74) (fun h1 => pk_le (PT (k + 1) - PT k) 1 (fun h2 => absurd hg (by omega)) (fun _ => g74))
    · exact pk_lt 1 (PL (k + 1) - PL k) (fun h1 => absurd (Or.inl h1) hg) (fun h1 => pk_le (PT (k + 1) - PT k) 1 (fun _ => g94 _ (by rw [gc, if_neg hg])) (fun h2 => absurd (Or.inr h2) hg))
theorem cm_l {post : Int32 → SY → Prop} {r c0 x : Nat} {ret : Int32} {R0 : Nat → Int32} (hr : r < 3) (hc : c0 + x ≤ 16) (hp : post ret (fp, nI (c0 + x), fs, aX, aS, bE, bD, bK, bU, bO, bV, aN, aL, bF, aT, aC, upd R0 r (orb (R0 r) c0 x), bW, bP, bM)) : ∀ d e, e + d = x → wY_commit_90 post (nI r) ret fp (nI (c0 + x)) fs (d + 1) (nI (c0 + e)) aX aS bE bD bK bU bO bV aN aL bF aT aC (upd R0 r (orb (R0 r) c0 e)) bW bP bM := by
  intro d
  induction d with
  | zero =>
    intro e h
    obtain rfl : e = x := by omega
    exact br_t (nI_le (by omega) (by omega)) hp
  | succ d ih =>
    intro e h
    refine br_f (nI_ge (by omega) (by omega)) ⟨vp_in_nI hr (by decide), ⟨vp_in_nI hr (by decide), nm_r ((wr rfl (by omega) ?_).trans (ud_ud _ _ _ _)) (nm_r (nI_1 _) (ih (e + 1) (by omega)))⟩⟩
    rw [rd (a := upd R0 r (orb (R0 r) c0 e)) rfl (by omega) pk_us]
    rfl
end
