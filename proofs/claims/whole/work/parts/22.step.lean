section
variable {fp fc ft fr : Int32} {aF aL aC aT aR aX aS aG aH aN aW aM aP aQ : Nat → Int32} {fs : Int32} {bE bD bK bU bO bV bF bW bP bM : Nat → Int32}
theorem st_94 {r m n np k c0 p0 P c : Nat} {PL PT : Nat → Nat} {G0 H0 N0 : Nat → Int32} {hd : Int32} (hr : r < 3) (hm : m ≤ 20) (hn : n ≤ 20) (hpp : pp np m n PL PT) (hk : k ≤ np) (hpP : p0 ≤ P) (eT : aT r = nI n) (hf : ∀ i, i < m → aF (22 * r + 1 + i) = bF (20 * r + i) ∧ ∃ l, l < p0 ∧ bF (20 * r + i) = nI l) (h : ci r n np PL PT c0 G0 H0 N0 aF hd P c (PT (k + 1) - 1) aG aH aW bE bD bK bU bO bV bW aN) : ∃ bW', ci r n np PL PT c0 G0 H0 N0 aF hd P c (PT (k + 1)) aG aH aW bE bD bK bU bO bV bW' aN ∧ ∀ (bP bM : Nat → Int32) (post : Int32 → SY → Prop) (F : Nat) (x3 : Int32), wY_stretches_11 post (nI r) 1 F x3 (nI (PL (k + 1)) - 1) (nI (PT (k + 1)) - 1) (nI (PT (k + 1))) fp fc fs aX aS bE bD bK bU bO bV aN aL bF aT aC aR bW' bP bM → wY_stretches_94 post (wY_stretches_11 post (nI r) 1 F) (nI r) 1 x3 (nI (PT (k + 1)) - 1) (nI (PL (k + 1)) - 1) fp fc fs aX aS bE bD bK bU bO bV aN aL bF aT aC aR bW bP bM := by
  have b1 := pp_b hpp (show k + 1 ≤ np + 1 by omega)
  obtain ⟨hC, hz, hG, hH, hW, hB, hN, hN'⟩ := h
  by_cases hkn : k < np
  · have b2 := pp_b hpp (show k + 2 ≤ np + 1 by omega)
    have e1 : 20 * nI r + (nI (PL (k + 1)) - 1) = nI (20 * r + (PL (k + 1) - 1)) := by rw [ca_s1 (by omega), ya]
    have e2 : nI (PT (k + 1)) - 1 = nI (PT (k + 1) - 1) := ca_s1 (by omega)
    refine ⟨upd bW (PT (k + 1) - 1) (bF (20 * r + (PL (k + 1) - 1))), ⟨hC, hz, hG, hH, hW, fun j h1 h2 => ?_, hN, hN'⟩, fun bP bM post F x3 t => ?_⟩
    · by_cases e : j = PT (k + 1) - 1
      · obtain ⟨a1, l, hl, a2⟩ := hf (PL (k + 1) - 1) (by omega)
        have a3 := hW (k + 1) (by omega)
        rw [show PT (k + 1) = j + 1 by omega] at a3
        have a4 : aW (j + 1) = bF (20 * r + (PL (k + 1) - 1)) := by
          rw [a3, ← a1]; exact congrArg aF (by omega)
        rw [e, pk_us, ← e, a4]
        exact ⟨rfl, l, by omega, a2⟩
      · rw [pk_un e]; exact hB j (by omega) h2
    · exact br_f ca_10 ⟨vp_in_nI hr (by decide), br_f (by rw [rd (a := aT) rfl (by omega) eT, e2]; exact nI_ge (by omega) (by omega)) ⟨pk_in _ 60 (by omega) e1, ⟨pk_in (PT (k + 1) - 1) 20 (by omega) e2, nm_r (wr e2 (by omega) (rd (a := bF) e1 (by omega) rfl)) (nm_r (Int32.sub_add_cancel _ _) t)⟩⟩⟩
  · obtain rfl : k = np := by omega
    have e3 := hpp.2.2.2.1
    have e2 : nI (PT (k + 1)) - 1 = nI (PT (k + 1) - 1) := ca_s1 (by omega)
    refine ⟨bW, ⟨hC, hz, hG, hH, hW, fun j h1 h2 => hB j (by omega) h2, hN, hN'⟩, fun bP bM post F x3 t => ?_⟩
    exact br_f ca_10 ⟨vp_in_nI hr (by decide), br_t (by rw [rd (a := aT) rfl (by omega) eT, e2]; exact nI_le (by omega) (by omega)) (nm_r (Int32.sub_add_cancel _ _) t)⟩
theorem st_k {r m n np k c0 p0 : Nat} {PL PT : Nat → Nat} {G0 H0 N0 R0 : Nat → Int32} (hr : r < 3) (hm : m ≤ 20) (hn : n ≤ 20) (hpp : pp np m n PL PT) (hPX : pXX aP aQ np PL PT) (hk : k ≤ np) (eL : aL r = nI m) (eT : aT r = nI n) (e60 : aF (22 * r) = 60) (e61 : aF (22 * r + 1 + m) = 61) (hf : ∀ i, i < m → aF (22 * r + 1 + i) = bF (20 * r + i) ∧ ∃ l, l < p0 ∧ bF (20 * r + i) = nI l) (hc16 : c0 + gc PL PT (np + 1) ≤ 16) (hp60 : p0 + n - np ≤ 60) (hb : ∀ d, c0 ≤ d → d < 32 → bt (R0 r) d = false) (hl : ∀ q, q < 2 * c0 → (H0 q).toNatClampNeg ≤ 22) (h : ci r n np PL PT c0 G0 H0 N0 aF (R0 r) (p0 + PT k - k) (c0 + gc PL PT k) (PT k) aG aH aW bE bD bK bU bO bV bW aN) :
    ∃ (aX' aS' aG' aH' aW' bE' bD' bK' bU' bO' bV' bW' aN' : Nat → Int32), ci r n np PL PT c0 G0 H0 N0 aF (R0 r) (p0 + PT (k + 1) - (k + 1)) (c0 + gc PL PT (k + 1)) (PT (k + 1)) aG' aH' aW' bE' bD' bK' bU' bO' bV' bW' aN' ∧ (∀ (post : SX → Prop) (F : Nat) (hd c : Int32), wX_recordGaps_76 post (nI r) hd c F (nI (k + 1)) (nI (p0 + PT (k + 1) - (k + 1))) (nI (c0 + gc PL PT (k + 1))) ft (nI np) aF aL aC aT (upd R0 r (orb (R0 r) c0 (gc PL PT (k + 1)))) aX' aS' aG' aH' N0 aW' aM aP aQ → wX_recordGaps_76 post (nI r) hd c (F + 1) (nI k) (nI (p0 + PT k - k)) (nI (c0 + gc PL PT k)) ft (nI np) aF aL aC aT (upd R0 r (orb (R0 r) c0 (gc PL PT k))) aX aS aG aH N0 aW aM aP aQ) ∧ (∀ (bP bM : Nat → Int32), pYY bP np PL PT → ∀ (post : Int32 → SY → Prop) (F : Nat), wY_stretches_11 post (nI r) 1 F (nI (gc PL PT (k + 1))) (nI (PL (k + 1)) - 1) (nI (PT (k + 1)) - 1) (nI (PT (k + 1))) (nI (p0 + PT (k + 1) - (k + 1))) (nI (c0 + gc PL PT (k + 1))) fs aX' aS' bE' bD' bK' bU' bO' bV' aN' aL bF aT aC R0 bW' bP bM → ∃ F', wY_stretches_11 post (nI r) 1 F' (nI (gc PL PT k)) (nI (PL k) - 1) (nI (PT k) - 1) (nI (PT k)) (nI (p0 + PT k - k)) (nI (c0 + gc PL PT k)) fs aX aS bE bD bK bU bO bV aN aL bF aT aC R0 bW bP bM) := by
  have b0 := pp_b hpp (show k ≤ np + 1 by omega)
  have b1 := pp_b hpp (show k + 1 ≤ np + 1 by omega)
  have b2 := hpp.2.2.2.2 k hk
  have bn := pp_b hpp (Nat.le_refl (np + 1))
  obtain ⟨p1, p2⟩ := hPX k (by omega)
  obtain ⟨p3, p4⟩ := hPX (k + 1) (by omega)
  have gm := gc_m PL PT (np + 1 - (k + 1)) (k + 1)
  rw [show k + 1 + (np + 1 - (k + 1)) = np + 1 by omega] at gm
  by_cases hg : 1 < PL (k + 1) - PL k ∨ 1 < PT (k + 1) - PT k
  · have eg : gc PL PT (k + 1) = gc PL PT k + 1 := by rw [gc, if_pos hg]
    have eP : p0 + PT k - k + (PT (k + 1) - PT k - 1) = p0 + PT (k + 1) - (k + 1) := by omega
    have hci := ci_g hm hn hpp hk (by omega) (show p0 ≤ p0 + PT k - k by omega) hf h
    obtain ⟨z1, z2⟩ := h.2.1 (c0 + gc PL PT k) (Nat.le_refl _) (by omega)
    have hNn := h.2.2.2.2.2.2.2
    have hci0 := hci
    rw [eP] at hci
    obtain ⟨bW', hci2, h94⟩ := st_94 (fp := nI (p0 + PT (k + 1) - (k + 1))) (fc := nI (c0 + gc PL PT k + 1)) (fs := fs) (aL := aL) (aC := aC) (aR := R0) (aX := bk aX (p0 + PT k - k) (p0 + PT k - k + (PT (k + 1) - PT k - 1)) (fun x => aC (20 * r + (PT k + (x - (p0 + PT k - k)))))) (aS := bk aS (p0 + PT k - k) (p0 + PT k - k + (PT (k + 1) - PT k - 1)) (fun _ => nI (c0 + gc PL PT k))) (p0 := p0) hr hm hn hpp hk (by omega) eT hf hci
    refine ⟨bk aX (p0 + PT k - k) (p0 + PT k - k + (PT (k + 1) - PT k - 1)) (fun x => aC (20 * r + (PT k + (x - (p0 + PT k - k))))), bk aS (p0 + PT k - k) (p0 + PT k - k + (PT (k + 1) - PT k - 1)) (fun _ => nI (c0 + gc PL PT k)), _, _, _, _, _, _, _, _, _, _, _, by rw [eg]; exact hci2, fun post F hd c t => ?_, fun bP bM hPY post F t => ?_⟩
    · rw [eg] at t
      refine br_f (nI_nlt (by omega) (by omega)) (ig_x hm hn hpp hPX hk (fun _ => br_f ca_10 (rg_x (a := PT k) (b := PT (k + 1)) (u := PL k) (v := PL (k + 1)) hr (by omega) (by omega) b2.2 (by omega) b2.1 (by omega) (by omega) p2 p4 p1 p3 z1 z2 (nm_r (nI_1 k) ?_))) (fun z => absurd hg z))
      rw [ud_ud, pk_us, eP]
      rw [eP] at t
      exact t
    · rw [eg] at t
      have g94 := h94 bP bM post F (nI (gc PL PT k + 1)) t
      refine ⟨F + (PT (k + 1) - 1 - PT k) + 1, sk_y hr hm hn hpp hPY hk eL eT ?_ (PT (k + 1) - 1 - PT k) (PT k) (by omega) (Nat.le_refl _)⟩
      refine br_f (by rw [ca_s1 (by omega)]; exact nI_pos (by omega)) ?_
      rw [ca_dd (by omega), ca_dd (by omega)]
      have g74 : wY_stretches_74 post (wY_stretches_11 post (nI r) 1 F) (nI r) 1 (nI (gc PL PT k)) (nI (PL k) - 1) (nI (PT k) - 1) (nI (PT (k + 1)) - 1) (nI (PL (k + 1)) - 1) (nI (p0 + PT k - k)) (nI (c0 + gc PL PT k)) fs aX aS bE bD bK bU bO bV aN aL bF aT aC R0 bW bP bM := by
        refine nm_r (nI_1 _) (br_f ca_10 (mc_y (m := m) (aF := aF) hr (by omega) hm b2.2 (by omega) b2.1 (by omega) (by omega) eL e60 e61 (fun i hi => (hf i hi).1) ?_))
        obtain ⟨t0, hS0⟩ : ∃ t, sd _ _ (2 * (c0 + gc PL PT k)) _ _ _ _ (20 * (c0 + gc PL PT k)) _ t := (hci0.1 (c0 + gc PL PT k) (by omega)).1
        have et : t0 + 2 = PL (k + 1) - PL k + 1 := by
          have e1 := hS0.2.2.1
          rw [pk_un (by omega), pk_us] at e1
          have := (nI_eq (by omega) (by have := hS0.1; omega)).mp e1
          omega
        refine fs_y (P := p0 + PT k - k + (PT (k + 1) - PT k - 1)) (len := PL (k + 1) - PL k + 1) (J := fun u v => jn G0 H0 (R0 r) u v c0) (N0 := N0) (B := fun y => (bk (bk aG (22 * (2 * (c0 + gc PL PT k))) (22 * (2 * (c0 + gc PL PT k)) + (PL (k + 1) - PL k + 1)) (fun x => aF (22 * r + (PL k + (x - 22 * (2 * (c0 + gc PL PT k))))))) (22 * (2 * (c0 + gc PL PT k) + 1)) (22 * (2 * (c0 + gc PL PT k) + 1) + (PT (k + 1) - PT k + 1)) (fun x => bk aW (PT k + 1) (PT k + 1 + (PT (k + 1) - PT k - 1)) (fun x => nI (p0 + PT k - k + (x - (PT k + 1)))) (PT k + (x - 22 * (2 * (c0 + gc PL PT k) + 1))))) (22 * (2 * (c0 + gc PL PT k)) + y)) hr (by omega) (by omega) (by omega) (fun e he => hci0.1 e (by omega)) (fun aN => ?_) (fun aN => ?_) (fun u v => ?_) (fun u v e he => ?_) (nm_r (nI_1 _) ?_)
        · rw [← et]; exact ln_0 (by omega) hS0
        · exact fun post y hy hq => me_0 (by omega) hS0 post y (by omega) hq
        · rw [jn_h hb (gc PL PT k) (by omega)]
          exact jn_c hci0.2.2.1 hci0.2.2.2.1 hl c0 (Nat.le_refl _)
        · have := (jn_s he).1
          exact ⟨by omega, hNn e (by omega)⟩
        · rw [eP] at g94 ⊢
          exact g94
      exact pk_lt 1 (PL (k + 1) - PL k) (fun _ => g74) (fun h1 => pk_le (PT (k + 1) - PT k) 1 (fun h2 => absurd hg (by omega)) (fun _ => g74))
  · have eg : gc PL PT (k + 1) = gc PL PT k := by rw [gc, if_neg hg]
    have eP : p0 + PT (k + 1) - (k + 1) = p0 + PT k - k := by omega
    have h' := h
    rw [show PT k = PT (k + 1) - 1 by omega] at h'
    rw [show p0 + (PT (k + 1) - 1) - k = p0 + PT k - k by omega] at h'
    obtain ⟨bW', hci2, h94⟩ := st_94 (fp := nI (p0 + PT k - k)) (fc := nI (c0 + gc PL PT k)) (fs := fs) (aL := aL) (aC := aC) (aR := R0) (aX := aX) (aS := aS) (p0 := p0) hr hm hn hpp hk (by omega) eT hf h'
    rw [eg, eP]
    refine ⟨aX, aS, aG, aH, aW, bE, bD, bK, bU, bO, bV, bW', aN, hci2, fun post F hd c t => ?_, fun bP bM hPY post F t => ?_⟩
    · exact br_f (nI_nlt (by omega) (by omega)) (ig_x hm hn hpp hPX hk (fun z => absurd z hg) (fun _ => br_t rfl (nm_r (nI_1 k) t)))
    · have g94 := h94 bP bM post F (nI (gc PL PT k)) t
      refine ⟨F + (PT (k + 1) - 1 - PT k) + 1, sk_y hr hm hn hpp hPY hk eL eT ?_ (PT (k + 1) - 1 - PT k) (PT k) (by omega) (Nat.le_refl _)⟩
      refine br_f (by rw [ca_s1 (by omega)]; exact nI_pos (by omega)) ?_
      rw [ca_dd (by omega), ca_dd (by omega)]
      exact pk_lt 1 (PL (k + 1) - PL k) (fun h1 => absurd (Or.inl h1) hg) (fun h1 => pk_le (PT (k + 1) - PT k) 1 (fun _ => g94) (fun h2 => absurd (Or.inr h2) hg))
end
