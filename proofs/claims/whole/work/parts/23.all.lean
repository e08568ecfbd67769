section
variable {ft fr fs : Int32} {aF aL aC aT aM aP aQ bF : Nat → Int32}
theorem st_all {r m n np c0 p0 : Nat} {PL PT : Nat → Nat} {G0 H0 N0 R0 : Nat → Int32} (hr : r < 3) (hm : m ≤ 20) (hn : n ≤ 20) (hpp : pp np m n PL PT) (hPX : pXX aP aQ np PL PT) (eL : aL r = nI m) (eT : aT r = nI n) (e60 : aF (22 * r) = 60) (e61 : aF (22 * r + 1 + m) = 61) (hf : ∀ i, i < m → aF (22 * r + 1 + i) = bF (20 * r + i) ∧ ∃ l, l < p0 ∧ bF (20 * r + i) = nI l) (hc16 : c0 + gc PL PT (np + 1) ≤ 16) (hp60 : p0 + n - np ≤ 60) (hb : ∀ d, c0 ≤ d → d < 32 → bt (R0 r) d = false) (hl : ∀ q, q < 2 * c0 → (H0 q).toNatClampNeg ≤ 22) : ∀ d k, k + d = np + 1 → ∀ (aX aS aG aH aW bE bD bK bU bO bV bW aN : Nat → Int32), ci r n np PL PT c0 G0 H0 N0 aF (R0 r) (p0 + PT k - k) (c0 + gc PL PT k) (PT k) aG aH aW bE bD bK bU bO bV bW aN →
    ∃ (aX' aS' aG' aH' aW' bE' bD' bK' bU' bO' bV' bW' aN' : Nat → Int32), ci r n np PL PT c0 G0 H0 N0 aF (R0 r) (p0 + n - np) (c0 + gc PL PT (np + 1)) (n + 1) aG' aH' aW' bE' bD' bK' bU' bO' bV' bW' aN' ∧ (∀ (post : SX → Prop) (hd c : Int32), (∃ x, wX_recordGaps_110 post (nI r) hd (nI (p0 + n - np)) (nI (c0 + gc PL PT (np + 1))) ft (nI np) x c aF aL aC aT (upd R0 r (orb (R0 r) c0 (gc PL PT (np + 1)))) aX' aS' aG' aH' N0 aW' aM aP aQ) → ∃ F, wX_recordGaps_76 post (nI r) hd c F (nI k) (nI (p0 + PT k - k)) (nI (c0 + gc PL PT k)) ft (nI np) aF aL aC aT (upd R0 r (orb (R0 r) c0 (gc PL PT k))) aX aS aG aH N0 aW aM aP aQ) ∧ (∀ (bP bM : Nat → Int32), pYY bP np PL PT → ∀ (post : Int32 → SY → Prop), post (nI (gc PL PT (np + 1))) (nI (p0 + n - np), nI (c0 + gc PL PT (np + 1)), fs, aX', aS', bE', bD', bK', bU', bO', bV', aN', aL, bF, aT, aC, R0, bW', bP, bM) → ∃ F', wY_stretches_11 post (nI r) 1 F' (nI (gc PL PT k)) (nI (PL k) - 1) (nI (PT k) - 1) (nI (PT k)) (nI (p0 + PT k - k)) (nI (c0 + gc PL PT k)) fs aX aS bE bD bK bU bO bV aN aL bF aT aC R0 bW bP bM) := by
  have bn := pp_b hpp (Nat.le_refl (np + 1))
  intro d
  induction d with
  | zero =>
    intro k h aX aS aG aH aW bE bD bK bU bO bV bW aN hci
    obtain rfl : k = np + 1 := by omega
    have e1 := hpp.2.2.2.1
    have e2 : p0 + PT (np + 1) - (np + 1) = p0 + n - np := by omega
    rw [e2, e1] at hci
    rw [e2, e1]
    refine ⟨aX, aS, aG, aH, aW, bE, bD, bK, bU, bO, bV, bW, aN, hci, fun post hd c t => ⟨1, br_t (nI_lt (by omega) (by omega)) t⟩, fun bP bM hPY post t => ⟨1, ⟨vp_in_nI hr (by decide), br_t (by rw [rd (a := aT) rfl (by omega) eT]; exact nI_lt (by omega) (by omega)) t⟩⟩⟩
  | succ d ih =>
    intro k h aX aS aG aH aW bE bD bK bU bO bV bW aN hci
    obtain ⟨aX1, aS1, aG1, aH1, aW1, bE1, bD1, bK1, bU1, bO1, bV1, bW1, aN1, hci1, hX1, hY1⟩ := st_k (ft := ft) (fs := fs) (aC := aC) (aX := aX) (aS := aS) (aM := aM) hr hm hn hpp hPX (by omega) eL eT e60 e61 hf hc16 hp60 hb hl hci
    obtain ⟨aX2, aS2, aG2, aH2, aW2, bE2, bD2, bK2, bU2, bO2, bV2, bW2, aN2, hci2, hX2, hY2⟩ := ih (k + 1) (by omega) aX1 aS1 aG1 aH1 aW1 bE1 bD1 bK1 bU1 bO1 bV1 bW1 aN1 hci1
    refine ⟨aX2, aS2, aG2, aH2, aW2, bE2, bD2, bK2, bU2, bO2, bV2, bW2, aN2, hci2, fun post hd c t => ?_, fun bP bM hPY post t => ?_⟩
    · obtain ⟨F, t2⟩ := hX2 post hd c t
      exact ⟨_, hX1 post F hd c t2⟩
    · obtain ⟨F, t2⟩ := hY2 bP bM hPY post t
      exact hY1 bP bM hPY post F t2
end
section
variable {fp fc ft fr : Int32} {aF aL aC aT aR aX aS aG aH aN aW aM aP aQ : Nat → Int32}
theorem rr_x {post : SX → Prop} {r n c0 N : Nat} {hd : Int32} {J : Int32 → Int32 → Nat} {N0 : Nat → Int32} (hr : r < 3) (hn : n ≤ 20) (hN : N ≤ 16) (hH : ∀ e, e < N → ∃ len, 1 ≤ len ∧ len ≤ 22 ∧ aH (2 * e + 1) = nI len) (hH' : ∀ e, e < N → ∃ len, 1 ≤ len ∧ len ≤ 22 ∧ aH (2 * e) = nI len) (hJ : ∀ u v, jn aG aH hd u v N = J u v) (hJc : ∀ u v e, J u v = e + 1 → e < c0) (hc0 : c0 ≤ N) (hp : post (fp, nI N, nI (n + 2), fr, bk aF (22 * r) (22 * r + (n + 2)) (fun j => aW (j - 22 * r)), upd aL r (nI n), aC, aT, aR, aX, aS, aG, aH, bk N0 c0 N (fun d => nval J N0 (fun k => aG (22 * (2 * d) + k)) ((aH (2 * d)).toNatClampNeg - 1)), aW, aM, aP, aQ)) : ∃ x, wX_recordGaps_110 post (nI r) hd fp (nI N) (nI (n + 2)) fr x (nI c0) aF aL aC aT aR aX aS aG aH N0 aW aM aP aQ := by
  have t := rr_l hr hn hN hH hH' hJ hJc hc0 hp (N - c0) c0 (by omega) (Nat.le_refl _)
  rw [bk_0 (Nat.le_refl _)] at t
  exact ⟨_, t⟩
end
theorem pp_ex {q : Nat → Nat → Bool} {m n : Nat} {s : Nat × (Nat → Nat) × (Nat → Nat)} (h : gI q m n m s) : ∃ PL PT : Nat → Nat, pp s.1 m n PL PT ∧ ∀ k, k ≤ s.1 → PL k = s.2.1 k ∧ PT k = s.2.2 k :=
  ⟨_, _, pp_gs h, fun k hk => ⟨if_pos hk, if_pos hk⟩⟩
theorem pYY_of {m n : Nat} {bP : Nat → Int32} {s : Nat × (Nat → Nat) × (Nat → Nat)} {PL PT : Nat → Nat} (hn : n ≤ 20) (hpp : pp s.1 m n PL PT) (hs : ∀ k, k ≤ s.1 → PL k = s.2.1 k ∧ PT k = s.2.2 k) (hP : pY bP s) : pYY bP s.1 PL PT := by
  intro k hk
  have b1 := pp_b hpp (show k + 1 ≤ s.1 + 1 by omega)
  refine ⟨fun j h1 h2 => ?_, fun h1 => ?_⟩
  · refine hP.2 j (by omega) (fun x hx e => ?_)
    rw [← (hs (x + 1) (by omega)).2] at e
    by_cases hxk : x + 1 ≤ k
    · by_cases e2 : x + 1 = k
      · rw [e2] at e; omega
      · have := (pp_lt hpp (show x + 1 < k by omega) (by omega)).2
        omega
    · by_cases e2 : x = k
      · rw [e2] at e; omega
      · have := (pp_lt hpp (show k + 1 < x + 1 by omega) (by omega)).2
        omega
  · rw [(hs (k + 1) (by omega)).1, (hs (k + 1) (by omega)).2, hP.1 k h1]
    have := (hs (k + 1) (by omega)).1
    exact (ca_s1 (by omega)).symm
theorem pXX_of {m n : Nat} {aP aQ : Nat → Int32} {s : Nat × (Nat → Nat) × (Nat → Nat)} {PL PT : Nat → Nat} (hpp : pp s.1 m n PL PT) (hs : ∀ k, k ≤ s.1 → PL k = s.2.1 k ∧ PT k = s.2.2 k) (h : pX aP aQ s) (h1 : aP (s.1 + 1) = nI (m + 1)) (h2 : aQ (s.1 + 1) = nI (n + 1)) : pXX aP aQ s.1 PL PT := by
  intro k hk
  by_cases e : k ≤ s.1
  · rw [(hs k e).1, (hs k e).2]; exact h k e
  · obtain rfl : k = s.1 + 1 := by omega
    rw [hpp.2.2.1, hpp.2.2.2.1]
    exact ⟨h1, h2⟩
