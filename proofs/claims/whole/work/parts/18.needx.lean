/-! what a change needs, by the component -/
section
variable {fp fc ft fr : Int32} {aF aL aC aT aR aX aS aG aH aN aW aM aP aQ : Nat → Int32}
theorem an_l {post : Int32 → Prop} {q len : Nat} {u v : Int32} (hq : q < 32) (hl : len ≤ 22) (eH : aH q = nI len) (h1 : (∃ k, k + 1 < len ∧ aG (22 * q + k) = u ∧ aG (22 * q + (k + 1)) = v) → post 1) (h0 : (¬ ∃ k, k + 1 < len ∧ aG (22 * q + k) = u ∧ aG (22 * q + (k + 1)) = v) → post 0) : ∀ d i, i + d + 1 = len → (∀ k, k < i → ¬ (aG (22 * q + k) = u ∧ aG (22 * q + (k + 1)) = v)) → wX_areNeighbours_6 post u v (nI q) fp fc ft fr aF aL aC aT aR aX aS aG aH aN aW aM aP aQ (d + 1) (nI (22 * q + i)) := by
  intro d
  induction d with
  | zero =>
    intro i h hi
    refine ⟨vp_in_nI hq (by decide), br_t (by rw [rd (a := aH) rfl (by omega) eH, xa, ca_s1 (by omega)]; exact nI_le (by omega) (by omega)) (h0 ?_)⟩
    rintro ⟨k, h2, h3⟩
    exact hi k (by omega) h3
  | succ d ih =>
    intro i h hi
    have nx : ¬ (aG (22 * q + i) = u ∧ aG (22 * q + (i + 1)) = v) → wX_areNeighbours_6 post u v (nI q) fp fc ft fr aF aL aC aT aR aX aS aG aH aN aW aM aP aQ (d + 1) (nI (22 * q + i + 1)) := by
      intro z
      refine ih (i + 1) (by omega) (fun k hk => ?_)
      by_cases e : k = i
      · rw [e]; exact z
      · exact hi k (by omega)
    refine ⟨vp_in_nI hq (by decide), br_f (by rw [rd (a := aH) rfl (by omega) eH, xa, ca_s1 (by omega)]; exact nI_ge (by omega) (by omega)) ⟨vp_in_nI (by omega) (by decide), ?_⟩⟩
    rw [nI_clamp (by omega)]
    refine br_c (fun e => ⟨pk_in (22 * q + i + 1) 704 (by omega) (nI_1 _), ?_⟩) (fun e => nm_r (nI_1 _) (nx (fun z => e z.1)))
    rw [rd (a := aG) (nI_1 (22 * q + i)) (by omega) rfl]
    exact br_c (fun e2 => h1 ⟨i, by omega, e, e2⟩) (fun e2 => nm_r (nI_1 _) (nx (fun z => e2 z.2)))
theorem an_x {post : Int32 → Prop} {q len : Nat} {u v : Int32} (hq : q < 32) (h0l : 1 ≤ len) (hl : len ≤ 22) (eH : aH q = nI len) (h1 : (∃ k, k + 1 < len ∧ aG (22 * q + k) = u ∧ aG (22 * q + (k + 1)) = v) → post 1) (h0 : (¬ ∃ k, k + 1 < len ∧ aG (22 * q + k) = u ∧ aG (22 * q + (k + 1)) = v) → post 0) : wpX_areNeighbours post (fp, fc, ft, fr, aF, aL, aC, aT, aR, aX, aS, aG, aH, aN, aW, aM, aP, aQ) u v (nI q) :=
  nm_r (ca_m22 q) ⟨_, an_l hq hl eH h1 h0 (len - 1) 0 (by omega) (fun k h => absurd h (Nat.not_lt_zero k))⟩
theorem lj_l {post : Int32 → Prop} {N : Nat} {u v hd : Int32} (hN : N ≤ 16) (hH : ∀ e, e < N → ∃ len, 1 ≤ len ∧ len ≤ 22 ∧ aH (2 * e + 1) = nI len) : ∀ e, e ≤ N → post (jr (jn aG aH hd u v e)) → wX_lastJoiner_8 post u v hd fp fc ft fr aF aL aC aT aR aX aS aG aH aN aW aM aP aQ (e + 1) (nI e - 1) := by
  intro e
  induction e with
  | zero => intro _ hp; exact br_t (by decide) hp
  | succ e ih =>
    intro he hp
    rw [show nI (e + 1) - 1 = nI e from ca_z e]
    obtain ⟨len, l1, l2, l3⟩ := hH e (by omega)
    have l4 : (aH (2 * e + 1)).toNatClampNeg = len := by rw [l3, nI_clamp (by omega)]
    refine br_f (nI_pos (by omega)) (ra_x ?_)
    cases hb : bt hd e with
    | false =>
      rw [jn_f (fun z => by rw [z.1] at hb; cases hb)] at hp
      exact ix_0 (by omega) hb (br_t rfl (nm_r (ca_pm e) (ih (by omega) hp)))
    | true =>
      refine ix_1 (by omega) hb (br_f ca_10 (an_x (by omega) l1 l2 l3 (fun hz => br_f ca_10 ?_) (fun hz => br_t rfl (nm_r (ca_pm e) (ih (by omega) ?_)))))
      · rw [jn_t ⟨hb, by rw [l4]; exact hz⟩] at hp
        exact hp
      · rw [jn_f (fun z => hz (by have := z.2; rw [l4] at this; exact this))] at hp
        exact hp
theorem lj_x {post : Int32 → Prop} {N : Nat} {u v hd : Int32} (hN : N ≤ 16) (hH : ∀ e, e < N → ∃ len, 1 ≤ len ∧ len ≤ 22 ∧ aH (2 * e + 1) = nI len) (hp : post (jr (jn aG aH hd u v N))) : wpX_lastJoiner post (fp, nI N, ft, fr, aF, aL, aC, aT, aR, aX, aS, aG, aH, aN, aW, aM, aP, aQ) u v hd := nm_r rfl ⟨_, lj_l hN hH N (Nat.le_refl _) hp⟩
theorem fn_l {post : Int32 → Prop} {N d len : Nat} {hd : Int32} {J : Int32 → Int32 → Nat} {N0 : Nat → Int32} (hN : N ≤ 16) (hH : ∀ e, e < N → ∃ len, 1 ≤ len ∧ len ≤ 22 ∧ aH (2 * e + 1) = nI len) (hd16 : d < 16) (hl : len ≤ 22) (eH : aH (2 * d) = nI len) (hJ : ∀ u v, jn aG aH hd u v N = J u v) (hN0 : ∀ u v e, J u v = e + 1 → e < 16 ∧ aN e = N0 e) (hp : post (nval J N0 (fun k => aG (22 * (2 * d) + k)) (len - 1))) : ∀ e i, i + e + 1 = len → wX_findNeeded_11 post hd (nI (2 * d)) fp (nI N) ft fr aF aL aC aT aR aX aS aG aH aN aW aM aP aQ (e + 1) (nval J N0 (fun k => aG (22 * (2 * d) + k)) i) (nI i) := by
  intro e
  induction e with
  | zero =>
    intro i h
    obtain rfl : len = i + 1 := by omega
    exact ⟨vp_in_nI (by omega) (by decide), br_t (by rw [rd (a := aH) rfl (by omega) eH, ca_z]; exact nI_le (by omega) (by omega)) hp⟩
  | succ e ih =>
    intro i h
    have t := ih (i + 1) (by omega)
    rw [nval] at t
    have e1 : nI (2 * d) * 22 + nI i + 1 = nI (22 * (2 * d) + (i + 1)) := by rw [xa, nI_1]; rfl
    refine ⟨vp_in_nI (by omega) (by decide), br_f (by rw [rd (a := aH) rfl (by omega) eH, ca_s1 (by omega)]; exact nI_ge (by omega) (by omega)) ⟨pk_in (22 * (2 * d) + i) 704 (by omega) (xa _ _), pk_in (22 * (2 * d) + (i + 1)) 704 (by omega) e1, ?_⟩⟩
    rw [rd (a := aG) (xa (2 * d) i) (by omega) rfl, rd (a := aG) e1 (by omega) rfl]
    refine lj_x hN hH ?_
    rw [hJ]
    cases hj : J (aG (22 * (2 * d) + i)) (aG (22 * (2 * d) + (i + 1))) with
    | zero =>
      rw [hj] at t
      exact br_t rfl (nm_r (nI_1 i) t)
    | succ x =>
      rw [hj] at t
      obtain ⟨hx, hn⟩ := hN0 _ _ _ hj
      exact br_f (ca_ne1 (by omega)) ⟨vp_in_nI hx (by decide), nm_r (by rw [show jr (x + 1) = nI x from rfl, rd (a := aN) rfl (by omega) hn]; rfl) (nm_r (nI_1 i) t)⟩
theorem fn_x {post : Int32 → Prop} {N d len : Nat} {hd : Int32} {J : Int32 → Int32 → Nat} {N0 : Nat → Int32} (hN : N ≤ 16) (hH : ∀ e, e < N → ∃ len, 1 ≤ len ∧ len ≤ 22 ∧ aH (2 * e + 1) = nI len) (hd16 : d < 16) (h0l : 1 ≤ len) (hl : len ≤ 22) (eH : aH (2 * d) = nI len) (hJ : ∀ u v, jn aG aH hd u v N = J u v) (hN0 : ∀ u v e, J u v = e + 1 → e < 16 ∧ aN e = N0 e) (hp : post (nval J N0 (fun k => aG (22 * (2 * d) + k)) (len - 1))) : wpX_findNeeded post (fp, nI N, ft, fr, aF, aL, aC, aT, aR, aX, aS, aG, aH, aN, aW, aM, aP, aQ) (nI d) hd := by
  unfold wpX_findNeeded
  exact rb_x ⟨_, fn_l hN hH hd16 hl eH hJ hN0 hp (len - 1) 0 (by omega)⟩
/-! the first and the last loop of a record -/
theorem it_l {post : SX → Prop} {r np m n : Nat} {hd c0 : Int32} {PL PT : Nat → Nat} (hr : r < 3) (hm : m ≤ 20) (hn : n ≤ 20) (hpp : pp np m n PL PT) (hP : pXX aP aQ np PL PT) (eT : aT r = nI n) (hp : ∀ aW, (∀ j, j ≤ np + 1 → aW (PT j) = aF (22 * r + PL j)) → ∃ x, wX_recordGaps_76 post (nI r) hd c0 x 0 fp fc (nI (n + 2)) (nI np) aF aL aC aT aR aX aS aG aH aN aW aM aP aQ) : ∀ d k, k + d = np + 2 → ∀ aW, (∀ j, j < k → aW (PT j) = aF (22 * r + PL j)) → wX_recordGaps_15 post (nI r) hd c0 fp fc ft (nI np) (d + 1) (nI k) aF aL aC aT aR aX aS aG aH aN aW aM aP aQ := by
  have b0 := pp_b hpp (Nat.le_refl (np + 1))
  intro d
  induction d with
  | zero =>
    intro k h aW hW
    obtain rfl : k = np + 2 := by omega
    exact br_t (by rw [nI_1]; exact nI_lt (by omega) (by omega)) ⟨vp_in_nI hr (by decide), nm_r (by rw [rd (a := aT) rfl (by omega) eT, ca_p2]) (hp aW (fun j hj => hW j (by omega)))⟩
  | succ d ih =>
    intro k h aW hW
    obtain ⟨p1, p2⟩ := hP k (by omega)
    have b1 := pp_b hpp (show k ≤ np + 1 by omega)
    have q1 : aP (nI k).toNatClampNeg = nI (PL k) := rd rfl (by omega) p1
    have q2 : aQ (nI k).toNatClampNeg = nI (PT k) := rd rfl (by omega) p2
    have e1 : nI r * 22 + aP (nI k).toNatClampNeg = nI (22 * r + PL k) := by rw [q1, xa]
    refine br_f (by rw [nI_1]; exact nI_nlt (by omega) (by omega)) ⟨vp_in_nI (by omega) (by decide), ⟨vp_in_nI (by omega) (by decide), ⟨pk_in _ 66 (by omega) e1, ⟨pk_in (PT k) 22 (by omega) q2, nm_r (wr q2 (by omega) (rd (a := aF) e1 (by omega) rfl)) (nm_r (nI_1 k) (ih (k + 1) (by omega) _ (fun j hj => ?_)))⟩⟩⟩⟩
    by_cases e : j = k
    · rw [e, pk_us]
    · have := pp_lt hpp (show j < k by omega) (by omega)
      rw [pk_un (by omega)]; exact hW j (by omega)
theorem rr_l {post : SX → Prop} {r n c0 N : Nat} {hd : Int32} {J : Int32 → Int32 → Nat} {N0 : Nat → Int32} (hr : r < 3) (hn : n ≤ 20) (hN : N ≤ 16) (hH : ∀ e, e < N → ∃ len, 1 ≤ len ∧ len ≤ 22 ∧ aH (2 * e + 1) = nI len) (hH' : ∀ e, e < N → ∃ len, 1 ≤ len ∧ len ≤ 22 ∧ aH (2 * e) = nI len) (hJ : ∀ u v, jn aG aH hd u v N = J u v) (hJc : ∀ u v e, J u v = e + 1 → e < c0) (hc0 : c0 ≤ N) (hp : post (fp, nI N, nI (n + 2), fr, bk aF (22 * r) (22 * r + (n + 2)) (fun j => aW (j - 22 * r)), upd aL r (nI n), aC, aT, aR, aX, aS, aG, aH, bk N0 c0 N (fun d => nval J N0 (fun k => aG (22 * (2 * d) + k)) ((aH (2 * d)).toNatClampNeg - 1)), aW, aM, aP, aQ)) : ∀ e d, d + e = N → c0 ≤ d → wX_recordGaps_110 post (nI r) hd fp (nI N) (nI (n + 2)) fr (e + 1) (nI d) aF aL aC aT aR aX aS aG aH (bk N0 c0 d (fun d => nval J N0 (fun k => aG (22 * (2 * d) + k)) ((aH (2 * d)).toNatClampNeg - 1))) aW aM aP aQ := by
  intro e
  induction e with
  | zero =>
    intro d h hd0
    obtain rfl : d = N := by omega
    exact br_t (nI_le (by omega) (by omega)) (kt_x0 hr hn hp)
  | succ e ih =>
    intro d h hd0
    obtain ⟨len, l1, l2, l3⟩ := hH' d (by omega)
    have l4 : (aH (2 * d)).toNatClampNeg = len := by rw [l3, nI_clamp (by omega)]
    refine br_f (nI_ge (by omega) (by omega)) (fn_x (N0 := N0) hN hH (by omega) l1 l2 l3 hJ (fun u v x hx => ?_) ⟨vp_in_nI (by omega) (by decide), nm_r ((wr rfl (by omega) rfl).trans (bk_up hd0 (by rw [l4]))) (nm_r (nI_1 d) (ih (d + 1) (by omega) (by omega)))⟩)
    have := hJc u v x hx
    exact ⟨by omega, bk_lo (by omega)⟩
end
