/-! the gaps, by the component -/
def pXX (aP aQ : Nat → Int32) (np : Nat) (PL PT : Nat → Nat) : Prop := ∀ k, k ≤ np + 1 → aP k = nI (PL k) ∧ aQ k = nI (PT k)
section
variable {fp fc ft fr : Int32} {aF aL aC aT aR aX aS aG aH aN aW aM aP aQ : Nat → Int32}
theorem ig_x {post : Int32 → Prop} {np m n k : Nat} {PL PT : Nat → Nat} (hm : m ≤ 20) (hn : n ≤ 20) (hpp : pp np m n PL PT) (hP : pXX aP aQ np PL PT) (hk : k ≤ np) (h1 : (1 < PL (k + 1) - PL k ∨ 1 < PT (k + 1) - PT k) → post 1) (h0 : ¬ (1 < PL (k + 1) - PL k ∨ 1 < PT (k + 1) - PT k) → post 0) : wpX_isGap post (fp, fc, ft, fr, aF, aL, aC, aT, aR, aX, aS, aG, aH, aN, aW, aM, aP, aQ) (nI k) := by
  have b0 := pp_b hpp (show k ≤ np + 1 by omega)
  have b1 := pp_b hpp (show k + 1 ≤ np + 1 by omega)
  have b2 := hpp.2.2.2.2 k hk
  obtain ⟨p1, p2⟩ := hP k (by omega)
  obtain ⟨p3, p4⟩ := hP (k + 1) (by omega)
  refine ⟨pk_in (k + 1) 22 (by omega) (nI_1 k), vp_in_nI (by omega) (by decide), ?_⟩
  rw [rd (a := aP) (nI_1 k) (by omega) p3, rd (a := aP) rfl (by omega) p1, rd (a := aQ) (nI_1 k) (by omega) p4, rd (a := aQ) rfl (by omega) p2, pk_sub (by omega), pk_sub (by omega)]
  refine pk_lt 1 (PL (k + 1) - PL k) (fun h => h1 (Or.inl h)) (fun h => ⟨pk_in (k + 1) 22 (by omega) (nI_1 k), vp_in_nI (by omega) (by decide), pk_le (PT (k + 1) - PT k) 1 (fun h2 => h0 (by omega)) (fun h2 => h1 (Or.inr h2))⟩)
theorem cg_x {post : Int32 → Prop} {np m n : Nat} {PL PT : Nat → Nat} (hm : m ≤ 20) (hn : n ≤ 20) (hpp : pp np m n PL PT) (hP : pXX aP aQ np PL PT) (hp : post (nI (gc PL PT (np + 1)))) : ∀ d k, k + d = np + 1 → wX_countGaps_4 post fp fc ft (nI np) aF aL aC aT aR aX aS aG aH aN aW aM aP aQ (d + 1) (nI (gc PL PT k)) (nI k) := by
  have b0 := pp_b hpp (Nat.le_refl (np + 1))
  intro d
  induction d with
  | zero =>
    intro k h
    obtain rfl : k = np + 1 := by omega
    exact br_t (nI_lt (by omega) (by omega)) hp
  | succ d ih =>
    intro k h
    refine br_f (nI_nlt (by omega) (by omega)) (ig_x hm hn hpp hP (by omega) (fun hg => br_f ca_10 (nm_r (nI_1 _) (nm_r (nI_1 k) ?_))) (fun hg => br_t rfl (nm_r (nI_1 k) ?_)))
    · have t := ih (k + 1) (by omega)
      rw [gc, if_pos hg] at t
      exact t
    · have t := ih (k + 1) (by omega)
      rw [gc, if_neg hg] at t
      exact t
theorem ad_x {post : SX → Prop} {q e : Nat} {x : Int32} (hq : q < 32) (he : e < 22) (eH : aH q = nI e) (hp : post (fp, fc, ft, fr, aF, aL, aC, aT, aR, aX, aS, upd aG (22 * q + e) x, upd aH q (nI (e + 1)), aN, aW, aM, aP, aQ)) : wpX_addToRun post (fp, fc, ft, fr, aF, aL, aC, aT, aR, aX, aS, aG, aH, aN, aW, aM, aP, aQ) (nI q) x := by
  have eH' : aH (nI q).toNatClampNeg = nI e := rd rfl (by omega) eH
  have e1 : nI q * 22 + aH (nI q).toNatClampNeg = nI (22 * q + e) := by rw [eH', xa]
  exact ⟨vp_in_nI hq (by decide), ⟨pk_in (22 * q + e) 704 (by omega) e1, nm_r (wr e1 (by omega) rfl) ⟨vp_in_nI hq (by decide), ⟨vp_in_nI hq (by decide), nm_r (wr rfl (by omega) (by rw [eH', nI_1])) hp⟩⟩⟩⟩
/-- the run after -/
theorem rg_3 {post : SX → Prop} {r k c a b q : Nat} (hr : r < 3) (hk : k < 21) (hq : q < 32) (hab : a ≤ b) (hb : b < 22) (eQ : aQ (k + 1) = nI b) (hp : post (fp, fc + 1, ft, fr, aF, aL, aC, aT, upd aR r (aR r ||| ((1 : Int32) <<< (nI c &&& 31))), aX, aS, bk aG (22 * q) (22 * q + (b - a + 1)) (fun x => aW (a + (x - 22 * q))), upd aH q (nI (b - a + 1)), aN, aW, aM, aP, aQ)) : ∀ d e, e + d = b - a + 1 → wX_recordGap_153 post (nI r) (nI k) (nI c) (nI q) (d + 1) (nI (a + e)) fp fc ft fr aF aL aC aT aR aX aS (bk aG (22 * q) (22 * q + e) (fun x => aW (a + (x - 22 * q)))) (upd aH q (nI e)) aN aW aM aP aQ := by
  intro d
  induction d with
  | zero =>
    intro e h
    obtain rfl : e = b - a + 1 := by omega
    exact ⟨pk_in (k + 1) 22 (by omega) (nI_1 k), br_t (by rw [rd (a := aQ) (nI_1 k) (by omega) eQ]; exact nI_lt (by omega) (by omega)) ⟨vp_in_nI hr (by decide), ⟨vp_in_nI hr (by decide), nm_r (wr rfl (by omega) (by rw [nI_clamp (by omega)])) (nm_r rfl hp)⟩⟩⟩
  | succ d ih =>
    intro e h
    refine ⟨pk_in (k + 1) 22 (by omega) (nI_1 k), br_f (by rw [rd (a := aQ) (nI_1 k) (by omega) eQ]; exact nI_nlt (by omega) (by omega)) ⟨vp_in_nI (by omega) (by decide), ad_x (e := e) hq (by omega) pk_us (nm_r (nI_1 _) ?_)⟩⟩
    rw [ud_ud, bk_up (f := aG) (by omega) (by rw [nI_clamp (by omega)]; exact congrArg aW (by omega))]
    exact ih (e + 1) (by omega)
/-- the run before -/
theorem rg_2 {post : SX → Prop} {r k c a u v q q' : Nat} (hr : r < 3) (hk : k < 21) (hq : q < 32) (huv : u ≤ v) (hv : v < 22) (eP : aP (k + 1) = nI v) (eQ : aQ k = nI a) (hp : ∃ n, wX_recordGap_153 post (nI r) (nI k) (nI c) (nI q') n (nI a) fp fc ft fr aF aL aC aT aR aX aS (bk aG (22 * q) (22 * q + (v - u + 1)) (fun x => aF (22 * r + (u + (x - 22 * q))))) (upd aH q (nI (v - u + 1))) aN aW aM aP aQ) : ∀ d e, e + d = v - u + 1 → wX_recordGap_108 post (nI r) (nI k) (nI c) (nI q) (nI q') (d + 1) (nI (u + e)) fp fc ft fr aF aL aC aT aR aX aS (bk aG (22 * q) (22 * q + e) (fun x => aF (22 * r + (u + (x - 22 * q))))) (upd aH q (nI e)) aN aW aM aP aQ := by
  intro d
  induction d with
  | zero =>
    intro e h
    obtain rfl : e = v - u + 1 := by omega
    exact ⟨pk_in (k + 1) 22 (by omega) (nI_1 k), br_t (by rw [rd (a := aP) (nI_1 k) (by omega) eP]; exact nI_lt (by omega) (by omega)) ⟨vp_in_nI (by omega) (by decide), nm_r (rd (a := aQ) rfl (by omega) eQ) hp⟩⟩
  | succ d ih =>
    intro e h
    refine ⟨pk_in (k + 1) 22 (by omega) (nI_1 k), br_f (by rw [rd (a := aP) (nI_1 k) (by omega) eP]; exact nI_nlt (by omega) (by omega)) ⟨pk_in (22 * r + (u + e)) 66 (by omega) (xa _ _), ad_x (e := e) hq (by omega) pk_us (nm_r (nI_1 _) ?_)⟩⟩
    rw [ud_ud, bk_up (f := aG) (by omega) (by rw [cl_xa (by omega)]; exact congrArg aF (by omega))]
    exact ih (e + 1) (by omega)
/-- the new lines -/
theorem rg_1 {post : SX → Prop} {r k c a b u q q' p : Nat} (hr : r < 3) (hk : k < 21) (hab : a < b) (hb : b < 22) (hp60 : p + (b - a - 1) ≤ 60) (eQ' : aQ (k + 1) = nI b) (eP : aP k = nI u) (hp : ∃ n, wX_recordGap_108 post (nI r) (nI k) (nI c) (nI q) (nI q') n (nI u) (nI (p + (b - a - 1))) fc ft fr aF aL aC aT aR (bk aX p (p + (b - a - 1)) (fun x => aC (20 * r + (a + (x - p))))) (bk aS p (p + (b - a - 1)) (fun _ => nI c)) aG aH aN (bk aW (a + 1) (a + 1 + (b - a - 1)) (fun x => nI (p + (x - (a + 1))))) aM aP aQ) : ∀ d e, e + d = b - a - 1 → wX_recordGap_27 post (nI r) (nI k) (nI c) (nI q) (nI q') fc ft fr (d + 1) (nI (a + 1 + e)) (nI (p + e)) aF aL aC aT aR (bk aX p (p + e) (fun x => aC (20 * r + (a + (x - p))))) (bk aS p (p + e) (fun _ => nI c)) aG aH aN (bk aW (a + 1) (a + 1 + e) (fun x => nI (p + (x - (a + 1))))) aM aP aQ := by
  intro d
  induction d with
  | zero =>
    intro e h
    obtain rfl : e = b - a - 1 := by omega
    exact ⟨pk_in (k + 1) 22 (by omega) (nI_1 k), br_t (by rw [rd (a := aQ) (nI_1 k) (by omega) eQ']; exact nI_le (by omega) (by omega)) ⟨vp_in_nI (by omega) (by decide), nm_r (rd (a := aP) rfl (by omega) eP) hp⟩⟩
  | succ d ih =>
    intro e h
    have e1 : nI r * 20 + nI (a + 1 + e) - 1 = nI (20 * r + (a + e)) := by rw [show a + 1 + e = a + e + 1 by omega]; exact xd r (a + e)
    exact ⟨pk_in (k + 1) 22 (by omega) (nI_1 k), br_f (by rw [rd (a := aQ) (nI_1 k) (by omega) eQ']; exact nI_ge (by omega) (by omega)) ⟨pk_in (20 * r + (a + e)) 60 (by omega) e1, ⟨vp_in_nI (by omega) (by decide), nm_r ((wr rfl (by omega) (rd (a := aC) e1 (by omega) rfl)).trans (bk_up (by omega) (congrArg aC (by omega)))) ⟨vp_in_nI (by omega) (by decide), nm_r ((wr rfl (by omega) rfl).trans (bk_up (by omega) rfl)) ⟨vp_in_nI (by omega) (by decide), nm_r ((wr rfl (by omega) rfl).trans (bk_up (by omega) (congrArg nI (by omega)))) (nm_r (nI_1 _) (nm_r (nI_1 _) (ih (e + 1) (by omega))))⟩⟩⟩⟩⟩
theorem rg_x {post : SX → Prop} {r k c a b u v p : Nat} (hr : r < 3) (hk : k < 21) (hc : c < 16) (hab : a < b) (hb : b < 22) (huv : u < v) (hv : v < 22) (hp60 : p + (b - a - 1) ≤ 60) (eQ : aQ k = nI a) (eQ' : aQ (k + 1) = nI b) (eP : aP k = nI u) (eP' : aP (k + 1) = nI v) (z1 : aH (2 * c) = 0) (z2 : aH (2 * c + 1) = 0) (hp : post (nI (p + (b - a - 1)), nI (c + 1), ft, fr, aF, aL, aC, aT, upd aR r (aR r ||| ((1 : Int32) <<< (nI c &&& 31))), bk aX p (p + (b - a - 1)) (fun x => aC (20 * r + (a + (x - p)))), bk aS p (p + (b - a - 1)) (fun _ => nI c), bk (bk aG (22 * (2 * c)) (22 * (2 * c) + (v - u + 1)) (fun x => aF (22 * r + (u + (x - 22 * (2 * c)))))) (22 * (2 * c + 1)) (22 * (2 * c + 1) + (b - a + 1)) (fun x => bk aW (a + 1) (a + 1 + (b - a - 1)) (fun x => nI (p + (x - (a + 1)))) (a + (x - 22 * (2 * c + 1)))), upd (upd aH (2 * c) (nI (v - u + 1))) (2 * c + 1) (nI (b - a + 1)), aN, bk aW (a + 1) (a + 1 + (b - a - 1)) (fun x => nI (p + (x - (a + 1)))), aM, aP, aQ)) : wpX_recordGap post (nI p, nI c, ft, fr, aF, aL, aC, aT, aR, aX, aS, aG, aH, aN, aW, aM, aP, aQ) (nI r) (nI k) := by
  unfold wpX_recordGap
  refine rb_x (ra_x ⟨vp_in_nI (by omega) (by decide), nm_r (e' := nI (a + 1)) (by rw [rd (a := aQ) rfl (by omega) eQ, nI_1]) ?_⟩)
  have t3 := rg_3 (post := post) (fp := nI (p + (b - a - 1))) (fc := nI c) (ft := ft) (fr := fr) (aF := aF) (aL := aL) (aC := aC) (aT := aT) (aR := aR) (aX := bk aX p (p + (b - a - 1)) (fun x => aC (20 * r + (a + (x - p))))) (aS := bk aS p (p + (b - a - 1)) (fun _ => nI c)) (aG := bk aG (22 * (2 * c)) (22 * (2 * c) + (v - u + 1)) (fun x => aF (22 * r + (u + (x - 22 * (2 * c)))))) (aH := upd aH (2 * c) (nI (v - u + 1))) (aN := aN) (aW := bk aW (a + 1) (a + 1 + (b - a - 1)) (fun x => nI (p + (x - (a + 1))))) (aM := aM) (aP := aP) (aQ := aQ) (c := c) (q := 2 * c + 1) hr hk (by omega) (Nat.le_of_lt hab) hb eQ' (by rw [nI_1 c]; exact hp) (b - a + 1) 0 (by omega)
  have u3 : upd (upd aH (2 * c) (nI (v - u + 1))) (2 * c + 1) (nI 0) = upd aH (2 * c) (nI (v - u + 1)) := by
    have := ud_id (upd aH (2 * c) (nI (v - u + 1))) (2 * c + 1)
    rw [pk_un (by omega), z2] at this
    exact this
  rw [u3, bk_0 (f := bk aG (22 * (2 * c)) (22 * (2 * c) + (v - u + 1)) (fun x => aF (22 * r + (u + (x - 22 * (2 * c)))))) (Nat.le_of_eq (Nat.add_zero _))] at t3
  have t2 := rg_2 (post := post) (fp := nI (p + (b - a - 1))) (fc := nI c) (ft := ft) (fr := fr) (aF := aF) (aL := aL) (aC := aC) (aT := aT) (aR := aR) (aX := bk aX p (p + (b - a - 1)) (fun x => aC (20 * r + (a + (x - p))))) (aS := bk aS p (p + (b - a - 1)) (fun _ => nI c)) (aG := aG) (aH := aH) (aN := aN) (aW := bk aW (a + 1) (a + 1 + (b - a - 1)) (fun x => nI (p + (x - (a + 1))))) (aM := aM) (aP := aP) (aQ := aQ) (c := c) (q := 2 * c) (q' := 2 * c + 1) hr hk (by omega) (Nat.le_of_lt huv) hv eP' eQ ⟨_, t3⟩ (v - u + 1) 0 (by omega)
  have u2 : upd aH (2 * c) (nI 0) = aH := by
    have := ud_id aH (2 * c)
    rw [z1] at this
    exact this
  rw [u2, bk_0 (f := aG) (Nat.le_of_eq (Nat.add_zero _))] at t2
  have t1 := rg_1 (post := post) (fc := nI c) (ft := ft) (fr := fr) (aF := aF) (aL := aL) (aC := aC) (aT := aT) (aR := aR) (aX := aX) (aS := aS) (aG := aG) (aH := aH) (aN := aN) (aW := aW) (aM := aM) (aP := aP) (aQ := aQ) (c := c) (q := 2 * c) (q' := 2 * c + 1) (p := p) hr hk hab hb hp60 eQ' eP ⟨_, t2⟩ (b - a - 1) 0 (by omega)
  rw [bk_0 (f := aX) (Nat.le_of_eq (Nat.add_zero _)), bk_0 (f := aS) (Nat.le_of_eq (Nat.add_zero _)), bk_0 (f := aW) (Nat.le_of_eq (Nat.add_zero _))] at t1
  exact ⟨_, t1⟩
end
