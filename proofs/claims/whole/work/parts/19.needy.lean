/-! what a change needs, by the reference -/
section
variable {fp fc fs : Int32} {aX aS bE bD bK bU bO bV aN aL bF aT aC aR bW bP bM : Nat → Int32} {aG aH : Nat → Int32}
theorem mo_l {post : Int32 → Prop} {J : Int32 → Int32 → Prop} {r e len : Nat} {u v old : Int32} {mem : Nat → Int32} (hr : r < 3) (he : e < 16) (hb : bt (aR r) e = true) (hl : len ≤ 22) (hL : ∀ (post : Int32 → Prop), post (nI len) → wpY_length post (fp, fc, fs, aX, aS, bE, bD, bK, bU, bO, bV, aN, aL, bF, aT, aC, aR, bW, bP, bM) (nI e) 1) (hM : ∀ (post : Int32 → Prop) (k : Nat), k < len → post (mem k) → wpY_member post (fp, fc, fs, aX, aS, bE, bD, bK, bU, bO, bV, aN, aL, bF, aT, aC, aR, bW, bP, bM) (nI e) 1 (nI k)) (h1 : (∃ k, k + 1 < len ∧ mem k = u ∧ mem (k + 1) = v) → J (nI e) (nI (e + 1))) (h0 : (¬ ∃ k, k + 1 < len ∧ mem k = u ∧ mem (k + 1) = v) → J old (nI (e + 1))) : ∀ d k x4, k + d + 1 = len → ((x4 = nI e ∧ ∃ k, k + 1 < len ∧ mem k = u ∧ mem (k + 1) = v) ∨ (x4 = old ∧ ∀ i, i < k → ¬ (mem i = u ∧ mem (i + 1) = v))) → wY_makerOf_18 post J (nI r) u v (nI e) fp fc fs aX aS bE bD bK bU bO bV aN aL bF aT aC aR bW bP bM (d + 1) x4 (nI k) := by
  intro d
  induction d with
  | zero =>
    intro k x4 h hx
    unfold wY_makerOf_18
    refine hL _ (br_t (by rw [nI_1]; exact nI_le (by omega) (by omega)) (nm_r (nI_1 e) ?_))
    rcases hx with ⟨e1, hE⟩ | ⟨e1, hN⟩
    · rw [e1]; exact h1 hE
    · rw [e1]; exact h0 (fun ⟨i, h2, h3⟩ => hN i (by omega) h3)
  | succ d ih =>
    intro k x4 h hx
    have er : aR (nI r).toNatClampNeg = aR r := rd rfl (by omega) rfl
    have nx : ¬ (mem k = u ∧ mem (k + 1) = v) → wY_makerOf_18 post J (nI r) u v (nI e) fp fc fs aX aS bE bD bK bU bO bV aN aL bF aT aC aR bW bP bM (d + 1) x4 (nI (k + 1)) := by
      intro z
      refine ih (k + 1) x4 (by omega) ?_
      rcases hx with hx | ⟨e1, hN⟩
      · exact Or.inl hx
      · refine Or.inr ⟨e1, fun i hi => ?_⟩
        by_cases ei : i = k
        · rw [ei]; exact z
        · exact hN i (by omega)
    unfold wY_makerOf_18
    rw [nI_1 k]
    refine hL _ (br_f (nI_ge (by omega) (by omega)) ⟨vp_in_nI hr (by decide), iy_1 (by omega) (by rw [er]; exact hb) (br_f ca_10 (hM _ k (by omega) (br_c (fun e1 => hM _ (k + 1) (by omega) (br_c (fun e2 => nm_r rfl (ih (k + 1) (nI e) (by omega) (Or.inl ⟨rfl, k, by omega, e1, e2⟩))) (fun e2 => nm_r rfl (nx (fun z => e2 z.2))))) (fun e1 => nm_r rfl (nx (fun z => e1 z.1))))))⟩)
theorem mo_o {post : Int32 → Prop} {r c P : Nat} {u v : Int32} (hr : r < 3) (hc : c ≤ 16) (hC : ∀ e, e < c → rl_C aG aH bE bD bK bU bO bV P e) (hp : post (jr (jn aG aH (aR r) u v c))) : ∀ d e, e + d = c → wY_makerOf_6 post (nI r) u v fp (nI c) fs aX aS bE bD bK bU bO bV aN aL bF aT aC aR bW bP bM (d + 1) (jr (jn aG aH (aR r) u v e)) (nI e) := by
  intro d
  induction d with
  | zero =>
    intro e h
    obtain rfl : e = c := by omega
    exact br_t (nI_le (by omega) (by omega)) hp
  | succ d ih =>
    intro e h
    have t := ih (e + 1) (by omega)
    obtain ⟨o, hS1⟩ : ∃ t, sd aG aH (2 * e + 1) (bE e) (bD e) (bU e) bV (20 * e) P t := (hC e (by omega)).2
    have ho := hS1.1
    have l4 : (aH (2 * e + 1)).toNatClampNeg = o + 2 := by rw [hS1.2.2.1, nI_clamp (by omega)]
    refine br_f (nI_ge (by omega) (by omega)) ?_
    cases hb : bt (aR r) e with
    | false =>
      rw [jn_f (fun z => by rw [z.1] at hb; cases hb)] at t
      have er : aR (nI r).toNatClampNeg = aR r := rd rfl (by omega) rfl
      refine ⟨1, ?_⟩
      unfold wY_makerOf_18
      exact ln_1 (by omega) hS1 _ (br_f (nI_ge (a := 1) (by omega) (by omega)) ⟨vp_in_nI hr (by decide), iy_0 (by omega) (by rw [er]; exact hb) (br_t rfl (nm_r (nI_1 e) t))⟩)
    | true =>
      refine ⟨_, mo_l (mem := fun k => aG (22 * (2 * e + 1) + k)) hr (by omega) hb (show o + 2 ≤ 22 by omega) (ln_1 (by omega) hS1) (me_1 (by omega) hS1) (fun hz => ?_) (fun hz => ?_) (o + 1) 0 _ (by omega) (Or.inr ⟨rfl, fun i h => absurd h (Nat.not_lt_zero i)⟩)⟩
      · rw [jn_t ⟨hb, by rw [l4]; exact hz⟩] at t
        exact t
      · rw [jn_f (fun z => hz (by have := z.2; rw [l4] at this; exact this))] at t
        exact t
theorem fs_l {post : SY → Prop} {r c len P : Nat} {J : Int32 → Int32 → Nat} {N0 B : Nat → Int32} (hr : r < 3) (hc : c < 16) (hl : len ≤ 22) (hC : ∀ e, e < c → rl_C aG aH bE bD bK bU bO bV P e) (hL : ∀ (aN : Nat → Int32) (post : Int32 → Prop), post (nI len) → wpY_length post (fp, nI c, fs, aX, aS, bE, bD, bK, bU, bO, bV, aN, aL, bF, aT, aC, aR, bW, bP, bM) (nI c) 0) (hM : ∀ (aN : Nat → Int32) (post : Int32 → Prop) (k : Nat), k < len → post (B k) → wpY_member post (fp, nI c, fs, aX, aS, bE, bD, bK, bU, bO, bV, aN, aL, bF, aT, aC, aR, bW, bP, bM) (nI c) 0 (nI k)) (hJ : ∀ u v, jn aG aH (aR r) u v c = J u v) (hN0 : ∀ u v e, J u v = e + 1 → e < c ∧ aN e = N0 e) (hp : post (fp, nI c, fs, aX, aS, bE, bD, bK, bU, bO, bV, upd aN c (nval J N0 B (len - 1)), aL, bF, aT, aC, aR, bW, bP, bM)) : ∀ e i, i + e + 1 = len → wY_findNeeds_9 post (nI r) (nI c) fp (nI c) fs (e + 1) (nI i) aX aS bE bD bK bU bO bV (upd aN c (nval J N0 B i)) aL bF aT aC aR bW bP bM := by
  intro e
  induction e with
  | zero =>
    intro i h
    obtain rfl : len = i + 1 := by omega
    unfold wY_findNeeds_9
    exact hL _ _ (br_t (by rw [nI_1]; exact nI_le (by omega) (by omega)) hp)
  | succ e ih =>
    intro i h
    have t := ih (i + 1) (by omega)
    rw [nval] at t
    unfold wY_findNeeds_9
    rw [nI_1 i]
    refine hL _ _ (br_f (nI_ge (by omega) (by omega)) (hM _ _ i (by omega) (hM _ _ (i + 1) (by omega) ⟨_, mo_o (P := P) hr (by omega) hC ?_ c 0 (by omega)⟩)))
    rw [hJ]
    cases hj : J (B i) (B (i + 1)) with
    | zero =>
      rw [hj] at t
      exact br_t ca_n1 ⟨vp_in_nI hc (by decide), ⟨vp_in_nI hc (by decide), nm_r ((wr rfl (by omega) (rd rfl (by omega) pk_us)).trans (ud_ud _ _ _ _)) (nm_r rfl t)⟩⟩
    | succ x =>
      rw [hj] at t
      obtain ⟨hx, hn⟩ := hN0 _ _ _ hj
      refine br_f (nI_pos (by omega)) ⟨vp_in_nI hc (by decide), ⟨vp_in_nI (by omega) (by decide), ⟨vp_in_nI hc (by decide), nm_r ((wr rfl (by omega) ?_).trans (ud_ud _ _ _ _)) (nm_r rfl t)⟩⟩⟩
      rw [show jr (x + 1) = nI x from rfl, rd (a := upd aN c (nval J N0 B i)) (k := c) rfl (by omega) pk_us, rd (a := upd aN c (nval J N0 B i)) (k := x) rfl (by omega) ((pk_un (by omega)).trans hn), Int32.or_assoc]
      rfl
theorem fs_y {post : SY → Prop} {r c len P : Nat} {J : Int32 → Int32 → Nat} {N0 B : Nat → Int32} (hr : r < 3) (hc : c < 16) (h0l : 1 ≤ len) (hl : len ≤ 22) (hC : ∀ e, e < c → rl_C aG aH bE bD bK bU bO bV P e) (hL : ∀ (aN : Nat → Int32) (post : Int32 → Prop), post (nI len) → wpY_length post (fp, nI c, fs, aX, aS, bE, bD, bK, bU, bO, bV, aN, aL, bF, aT, aC, aR, bW, bP, bM) (nI c) 0) (hM : ∀ (aN : Nat → Int32) (post : Int32 → Prop) (k : Nat), k < len → post (B k) → wpY_member post (fp, nI c, fs, aX, aS, bE, bD, bK, bU, bO, bV, aN, aL, bF, aT, aC, aR, bW, bP, bM) (nI c) 0 (nI k)) (hJ : ∀ u v, jn aG aH (aR r) u v c = J u v) (hN0 : ∀ u v e, J u v = e + 1 → e < c ∧ aN e = N0 e) (hp : post (fp, nI c, fs, aX, aS, bE, bD, bK, bU, bO, bV, upd aN c (nval J N0 B (len - 1)), aL, bF, aT, aC, aR, bW, bP, bM)) : wpY_findNeeds post (fp, nI c, fs, aX, aS, bE, bD, bK, bU, bO, bV, aN, aL, bF, aT, aC, aR, bW, bP, bM) (nI r) (nI c) :=
  ⟨vp_in_nI hc (by decide), nm_r (wr rfl (by omega) rfl) ⟨_, fs_l hr hc hl hC hL hM hJ hN0 hp (len - 1) 0 (by omega)⟩⟩
/-! a change is made -/
theorem mc_3 {post : SY → Prop} {r c a b p : Nat} (hr : r < 3) (hc : c < 16) (hab : a < b) (hb : b < 22) (hp60 : p + (b - a - 1) ≤ 60) (hp : wpY_findNeeds (fun u => match u with | (fp, fc, fs, aX, aS, bE, bD, bK, bU, bO, bV, aN, aL, bF, aT, aC, aR, bW, bP, bM) => (∀ fc' : Int32, fc' = fc + 1 → post (fp, fc', fs, aX, aS, bE, bD, bK, bU, bO, bV, aN, aL, bF, aT, aC, aR, bW, bP, bM))) (nI (p + (b - a - 1)), fc, fs, bk aX p (p + (b - a - 1)) (fun x => aC (20 * r + (a + (x - p)))), bk aS p (p + (b - a - 1)) (fun _ => nI c), bE, bD, bK, upd bU c (nI (b - a - 1)), bO, bk bV (20 * c) (20 * c + (b - a - 1)) (fun x => nI (p + (x - 20 * c))), aN, aL, bF, aT, aC, aR, bk bW a (a + (b - a - 1)) (fun x => nI (p + (x - a))), bP, bM) (nI r) (nI c)) : ∀ d e, e + d = b - a - 1 → wY_makeChange_146 post (nI r) (nI b - 1) (nI c) fc fs (d + 1) (nI (a + e)) (nI (p + e)) (bk aX p (p + e) (fun x => aC (20 * r + (a + (x - p))))) (bk aS p (p + e) (fun _ => nI c)) bE bD bK (upd bU c (nI e)) bO (bk bV (20 * c) (20 * c + e) (fun x => nI (p + (x - 20 * c)))) aN aL bF aT aC aR (bk bW a (a + e) (fun x => nI (p + (x - a)))) bP bM := by
  intro d
  induction d with
  | zero =>
    intro e h
    obtain rfl : e = b - a - 1 := by omega
    exact br_t (by rw [ca_s1 (by omega)]; exact nI_le (by omega) (by omega)) hp
  | succ d ih =>
    intro e h
    have e2 : 20 * nI c + upd bU c (nI e) (nI c).toNatClampNeg = nI (20 * c + e) := by rw [rd (a := upd bU c (nI e)) rfl (by omega) pk_us, ya]
    exact br_f (by rw [ca_s1 (by omega)]; exact nI_ge (by omega) (by omega)) ⟨pk_in (20 * r + (a + e)) 60 (by omega) (ya _ _), ⟨vp_in_nI (by omega) (by decide), nm_r ((wr rfl (by omega) (rd (a := aC) (ya _ _) (by omega) rfl)).trans (bk_up (by omega) (congrArg aC (by omega)))) ⟨vp_in_nI (by omega) (by decide), nm_r ((wr rfl (by omega) rfl).trans (bk_up (by omega) rfl)) ⟨vp_in_nI hc (by decide), ⟨pk_in (20 * c + e) 320 (by omega) e2, nm_r ((wr e2 (by omega) rfl).trans (bk_up (by omega) (congrArg nI (by omega)))) ⟨vp_in_nI (by omega) (by decide), nm_r ((wr rfl (by omega) rfl).trans (bk_up (by omega) (congrArg nI (by omega)))) ⟨vp_in_nI hc (by decide), ⟨vp_in_nI hc (by decide), nm_r ((wr rfl (by omega) (by rw [rd (a := upd bU c (nI e)) rfl (by omega) pk_us, nI_1])).trans (ud_ud _ _ _ _)) (nm_r (nI_1 _) (nm_r (nI_1 _) (ih (e + 1) (by omega))))⟩⟩⟩⟩⟩⟩⟩⟩
theorem mc_2 {post : SY → Prop} {r c u v a b : Nat} (hr : r < 3) (hc : c < 16) (huv : u < v) (hv : v < 22) (hp : ∃ n, wY_makeChange_146 post (nI r) (nI b - 1) (nI c) fc fs n (nI a) fp aX aS bE bD (upd bK c (nI (v - u - 1))) bU (bk bO (20 * c) (20 * c + (v - u - 1)) (fun x => bF (20 * r + (u + (x - 20 * c))))) bV aN aL bF aT aC aR bW bP bM) : ∀ d e, e + d = v - u - 1 → wY_makeChange_87 post (nI r) (nI v - 1) (nI a - 1) (nI b - 1) (nI c) fp fc fs (d + 1) (nI (u + e)) aX aS bE bD (upd bK c (nI e)) bU (bk bO (20 * c) (20 * c + e) (fun x => bF (20 * r + (u + (x - 20 * c))))) bV aN aL bF aT aC aR bW bP bM := by
  intro d
  induction d with
  | zero =>
    intro e h
    obtain rfl : e = v - u - 1 := by omega
    exact br_t (by rw [ca_s1 (by omega)]; exact nI_le (by omega) (by omega)) (nm_r (Int32.sub_add_cancel _ _) hp)
  | succ d ih =>
    intro e h
    have e2 : 20 * nI c + upd bK c (nI e) (nI c).toNatClampNeg = nI (20 * c + e) := by rw [rd (a := upd bK c (nI e)) rfl (by omega) pk_us, ya]
    exact br_f (by rw [ca_s1 (by omega)]; exact nI_ge (by omega) (by omega)) ⟨vp_in_nI hc (by decide), ⟨pk_in (20 * r + (u + e)) 60 (by omega) (ya _ _), ⟨pk_in (20 * c + e) 320 (by omega) e2, nm_r ((wr e2 (by omega) (rd (a := bF) (ya _ _) (by omega) rfl)).trans (bk_up (by omega) (congrArg bF (by omega)))) ⟨vp_in_nI hc (by decide), ⟨vp_in_nI hc (by decide), nm_r ((wr rfl (by omega) (by rw [rd (a := upd bK c (nI e)) rfl (by omega) pk_us, nI_1])).trans (ud_ud _ _ _ _)) (nm_r (nI_1 _) (ih (e + 1) (by omega)))⟩⟩⟩⟩⟩
theorem mc_y {post : SY → Prop} {r c u v a b p m : Nat} {aF : Nat → Int32} (hr : r < 3) (hc : c < 16) (hm : m ≤ 20) (hab : a < b) (hb : b < 22) (huv : u < v) (hv : v ≤ m + 1) (hp60 : p + (b - a - 1) ≤ 60) (eL : aL r = nI m) (e60 : aF (22 * r) = 60) (e61 : aF (22 * r + 1 + m) = 61) (hf : ∀ i, i < m → aF (22 * r + 1 + i) = bF (20 * r + i)) (hp : wpY_findNeeds (fun u => match u with | (fp, fc, fs, aX, aS, bE, bD, bK, bU, bO, bV, aN, aL, bF, aT, aC, aR, bW, bP, bM) => (∀ fc' : Int32, fc' = fc + 1 → post (fp, fc', fs, aX, aS, bE, bD, bK, bU, bO, bV, aN, aL, bF, aT, aC, aR, bW, bP, bM))) (nI (p + (b - a - 1)), nI c, fs, bk aX p (p + (b - a - 1)) (fun x => aC (20 * r + (a + (x - p)))), bk aS p (p + (b - a - 1)) (fun _ => nI c), upd bE c (aF (22 * r + u)), upd bD c (aF (22 * r + v)), upd bK c (nI (v - u - 1)), upd bU c (nI (b - a - 1)), bk bO (20 * c) (20 * c + (v - u - 1)) (fun x => bF (20 * r + (u + (x - 20 * c)))), bk bV (20 * c) (20 * c + (b - a - 1)) (fun x => nI (p + (x - 20 * c))), aN, aL, bF, aT, aC, aR, bk bW a (a + (b - a - 1)) (fun x => nI (p + (x - a))), bP, bM) (nI r) (nI c)) : wpY_makeChange post (nI p, nI c, fs, aX, aS, bE, bD, bK, bU, bO, bV, aN, aL, bF, aT, aC, aR, bW, bP, bM) (nI r) (nI u - 1) (nI v - 1) (nI a - 1) (nI b - 1) := by
  have t3 := mc_3 (post := post) (fc := nI c) (fs := fs) (aX := aX) (aS := aS) (bE := upd bE c (aF (22 * r + u))) (bD := upd bD c (aF (22 * r + v))) (bK := upd bK c (nI (v - u - 1))) (bU := bU) (bO := bk bO (20 * c) (20 * c + (v - u - 1)) (fun x => bF (20 * r + (u + (x - 20 * c))))) (bV := bV) (aN := aN) (aL := aL) (bF := bF) (aT := aT) (aC := aC) (aR := aR) (bW := bW) (bP := bP) (bM := bM) hr hc hab hb hp60 hp (b - a - 1) 0 (by omega)
  rw [bk_0 (f := aX) (Nat.le_of_eq (Nat.add_zero _)), bk_0 (f := aS) (Nat.le_of_eq (Nat.add_zero _)), bk_0 (f := bV) (Nat.le_of_eq (Nat.add_zero _)), bk_0 (f := bW) (Nat.le_of_eq (Nat.add_zero _))] at t3
  have t2 := mc_2 (post := post) (fp := nI p) (fc := nI c) (fs := fs) (aX := aX) (aS := aS) (bE := upd bE c (aF (22 * r + u))) (bD := upd bD c (aF (22 * r + v))) (bK := bK) (bU := upd bU c (nI 0)) (bO := bO) (bV := bV) (aN := aN) (aL := aL) (bF := bF) (aT := aT) (aC := aC) (aR := aR) (bW := bW) (bP := bP) (bM := bM) (a := a) (b := b) hr hc huv (by omega) ⟨_, t3⟩ (v - u - 1) 0 (by omega)
  rw [bk_0 (f := bO) (Nat.le_of_eq (Nat.add_zero _))] at t2
  have k65 : ∀ z, z = aF (22 * r + v) → wY_makeChange_65 post (nI r) (nI u - 1) (nI v - 1) (nI a - 1) (nI b - 1) (nI c) z (nI c) (nI p) (nI c) fs aX aS (upd bE c (aF (22 * r + u))) bD bK bU bO bV aN aL bF aT aC aR bW bP bM := by
    intro z hz
    exact ⟨vp_in_nI hc (by decide), nm_r (wr rfl (by omega) hz) ⟨vp_in_nI hc (by decide), nm_r (wr rfl (by omega) rfl) ⟨vp_in_nI hc (by decide), nm_r (wr rfl (by omega) rfl) (nm_r (Int32.sub_add_cancel _ _) ⟨_, t2⟩)⟩⟩⟩
  have k32 : ∀ z, z = aF (22 * r + u) → wY_makeChange_32 post (nI r) (nI u - 1) (nI v - 1) (nI a - 1) (nI b - 1) (nI c) z (nI c) (nI p) (nI c) fs aX aS bE bD bK bU bO bV aN aL bF aT aC aR bW bP bM := by
    intro z hz
    refine ⟨vp_in_nI hc (by decide), nm_r (wr rfl (by omega) hz) ⟨vp_in_nI hr (by decide), ?_⟩⟩
    rw [rd (a := aL) rfl (by omega) eL]
    by_cases h1 : m ≤ v - 1
    · refine br_t (by rw [ca_s1 (by omega)]; exact nI_le h1 (by omega)) (k65 61 ?_)
      rw [← e61]; exact congrArg aF (by omega)
    · have e1 : 20 * nI r + (nI v - 1) = nI (20 * r + (v - 1)) := by rw [ca_s1 (by omega), ya]
      refine br_f (by rw [ca_s1 (by omega)]; exact nI_ge (by omega) (by omega)) ⟨pk_in (20 * r + (v - 1)) 60 (by omega) e1, k65 _ ?_⟩
      rw [rd (a := bF) e1 (by omega) (hf (v - 1) (by omega)).symm]
      exact congrArg aF (by omega)
  by_cases h0 : u = 0
  · subst h0
    exact br_f (by decide) (k32 60 e60.symm)
  · have e1 : 20 * nI r + (nI u - 1) = nI (20 * r + (u - 1)) := by rw [ca_s1 (by omega), ya]
    refine br_t (by rw [ca_s1 (by omega)]; exact nI_pos' (by omega)) ⟨pk_in (20 * r + (u - 1)) 60 (by omega) e1, k32 _ ?_⟩
    rw [rd (a := bF) e1 (by omega) (hf (u - 1) (by omega)).symm]
    exact congrArg aF (by omega)
end
