/-! both sides, pair by pair -/
noncomputable def nvd (G0 H0 : Nat → Int32) (hd : Int32) (c0 : Nat) (N0 aG aH : Nat → Int32) (d : Nat) : Int32 := nval (fun u v => jn G0 H0 hd u v c0) N0 (fun k => aG (22 * (2 * d) + k)) ((aH (2 * d)).toNatClampNeg - 1)
def ci (r n np : Nat) (PL PT : Nat → Nat) (c0 : Nat) (G0 H0 N0 aF : Nat → Int32) (hd : Int32) (P c T : Nat) (aG aH aW bE bD bK bU bO bV bW aN : Nat → Int32) : Prop :=
  (∀ d, d < c → rl_C aG aH bE bD bK bU bO bV P d) ∧ (∀ d, c ≤ d → d < 16 → aH (2 * d) = 0 ∧ aH (2 * d + 1) = 0) ∧ (∀ x, x < 44 * c0 → aG x = G0 x) ∧ (∀ q, q < 2 * c0 → aH q = H0 q) ∧ (∀ j, j ≤ np + 1 → aW (PT j) = aF (22 * r + PL j)) ∧ (∀ j, j < T → j < n → bW j = aW (j + 1) ∧ ∃ l, l < P ∧ aW (j + 1) = nI l) ∧ (∀ d, c0 ≤ d → d < c → aN d = nvd G0 H0 hd c0 N0 aG aH d) ∧ (∀ d, ¬ (c0 ≤ d ∧ d < c) → aN d = N0 d)
theorem rs_c {aG aH aG' aH' A A' : Nat → Int32} {q b p p' : Nat} {e d k : Int32} (h : rl_S aG aH q e d k A b p) (hG : ∀ x, x < 22 → aG' (22 * q + x) = aG (22 * q + x)) (hH : aH' q = aH q) (hA : ∀ i, i < 20 → A' (b + i) = A (b + i)) (hp : p ≤ p') : rl_S aG' aH' q e d k A' b p' := by
  obtain ⟨t, ht, eK, eH, e1, e2, e3⟩ := h
  refine ⟨t, ht, eK, hH.trans eH, (hG 0 (by omega)).trans e1, ?_, fun i hi => ?_⟩
  · rw [Nat.add_assoc, hG (1 + t) (by omega), ← Nat.add_assoc]; exact e2
  · obtain ⟨a1, l, hl, a2⟩ := e3 i hi
    rw [Nat.add_assoc, hG (1 + i) (by omega), ← Nat.add_assoc, hA i (by omega)]
    exact ⟨a1, l, by omega, a2⟩
theorem ci_g {r m n np k c0 P c p0 : Nat} {PL PT : Nat → Nat} {G0 H0 N0 aF bF : Nat → Int32} {hd : Int32} {aG aH aW bE bD bK bU bO bV bW aN : Nat → Int32} (hm : m ≤ 20) (hn : n ≤ 20) (hpp : pp np m n PL PT) (hk : k ≤ np) (hc0 : c0 ≤ c) (hpP : p0 ≤ P) (hf : ∀ i, i < m → aF (22 * r + 1 + i) = bF (20 * r + i) ∧ ∃ l, l < p0 ∧ bF (20 * r + i) = nI l) (h : ci r n np PL PT c0 G0 H0 N0 aF hd P c (PT k) aG aH aW bE bD bK bU bO bV bW aN) :
    ci r n np PL PT c0 G0 H0 N0 aF hd (P + (PT (k + 1) - PT k - 1)) (c + 1) (PT (k + 1) - 1) (bk (bk aG (22 * (2 * c)) (22 * (2 * c) + (PL (k + 1) - PL k + 1)) (fun x => aF (22 * r + (PL k + (x - 22 * (2 * c)))))) (22 * (2 * c + 1)) (22 * (2 * c + 1) + (PT (k + 1) - PT k + 1)) (fun x => bk aW (PT k + 1) (PT k + 1 + (PT (k + 1) - PT k - 1)) (fun x => nI (P + (x - (PT k + 1)))) (PT k + (x - 22 * (2 * c + 1))))) (upd (upd aH (2 * c) (nI (PL (k + 1) - PL k + 1))) (2 * c + 1) (nI (PT (k + 1) - PT k + 1))) (bk aW (PT k + 1) (PT k + 1 + (PT (k + 1) - PT k - 1)) (fun x => nI (P + (x - (PT k + 1))))) (upd bE c (aF (22 * r + PL k))) (upd bD c (aF (22 * r + PL (k + 1)))) (upd bK c (nI (PL (k + 1) - PL k - 1))) (upd bU c (nI (PT (k + 1) - PT k - 1))) (bk bO (20 * c) (20 * c + (PL (k + 1) - PL k - 1)) (fun x => bF (20 * r + (PL k + (x - 20 * c))))) (bk bV (20 * c) (20 * c + (PT (k + 1) - PT k - 1)) (fun x => nI (P + (x - 20 * c)))) (bk bW (PT k) (PT k + (PT (k + 1) - PT k - 1)) (fun x => nI (P + (x - PT k)))) (upd aN c (nval (fun u v => jn G0 H0 hd u v c0) N0 (fun y => (bk (bk aG (22 * (2 * c)) (22 * (2 * c) + (PL (k + 1) - PL k + 1)) (fun x => aF (22 * r + (PL k + (x - 22 * (2 * c)))))) (22 * (2 * c + 1)) (22 * (2 * c + 1) + (PT (k + 1) - PT k + 1)) (fun x => bk aW (PT k + 1) (PT k + 1 + (PT (k + 1) - PT k - 1)) (fun x => nI (P + (x - (PT k + 1)))) (PT k + (x - 22 * (2 * c + 1))))) (22 * (2 * c) + y)) (PL (k + 1) - PL k + 1 - 1))) := by
  have b0 := pp_b hpp (show k ≤ np + 1 by omega)
  have b1 := pp_b hpp (show k + 1 ≤ np + 1 by omega)
  have b2 := hpp.2.2.2.2 k hk
  have hlo : ∀ j, j ≤ k → PT j ≤ PT k := fun j hj => by
    by_cases e : j = k
    · rw [e]; exact Nat.le_refl _
    · exact Nat.le_of_lt (pp_lt hpp (show j < k by omega) (by omega)).2
  have hhi : ∀ j, k + 1 ≤ j → j ≤ np + 1 → PT (k + 1) ≤ PT j := fun j hj hj2 => by
    by_cases e : j = k + 1
    · rw [e]; exact Nat.le_refl _
    · exact Nat.le_of_lt (pp_lt hpp (show k + 1 < j by omega) hj2).2
  obtain ⟨hC, hz, hG, hH, hW, hB, hN, hN'⟩ := h
  generalize eu : PL k = u at *
  generalize ev : PL (k + 1) = v at *
  generalize ea : PT k = a at *
  generalize eb : PT (k + 1) = b at *
  have wA : ∀ x, ¬ (a + 1 ≤ x ∧ x < b) → bk aW (a + 1) (a + 1 + (b - a - 1)) (fun x => nI (P + (x - (a + 1)))) x = aW x := fun x hx => bk_out (by omega)
  have hCd : ∀ d, d < c → (∀ x, x < 44 → (bk (bk aG (22 * (2 * c)) (22 * (2 * c) + (v - u + 1)) (fun x => aF (22 * r + (u + (x - 22 * (2 * c)))))) (22 * (2 * c + 1)) (22 * (2 * c + 1) + (b - a + 1)) (fun x => bk aW (a + 1) (a + 1 + (b - a - 1)) (fun x => nI (P + (x - (a + 1)))) (a + (x - 22 * (2 * c + 1))))) (44 * d + x) = aG (44 * d + x)) := fun d hd x hx => by
    rw [bk_lo (by omega), bk_lo (by omega)]
  refine ⟨fun d hd => ?_, fun d h1 h2 => ?_, fun x hx => ?_, fun q hq => ?_, fun j hj => ?_, fun j hj hjn => ?_, fun d h1 h2 => ?_, fun d h1 => ?_⟩
  · by_cases e : d = c
    · subst e
      refine ⟨⟨v - u - 1, by omega, pk_us, ?_, ?_, ?_, fun i hi => ?_⟩, ⟨b - a - 1, by omega, pk_us, ?_, ?_, ?_, fun i hi => ?_⟩⟩
      · rw [pk_un (by omega), pk_us]; exact congrArg nI (by omega)
      · rw [pk_us, bk_lo (by omega), bk_in (Nat.le_refl _) (by omega), Nat.sub_self]; rfl
      · rw [pk_us, bk_lo (by omega), bk_in (by omega) (by omega)]; exact congrArg aF (by omega)
      · obtain ⟨a1, l, hl, a2⟩ := hf (u + i) (by omega)
        rw [bk_lo (by omega), bk_in (by omega) (by omega), bk_in (by omega) (by omega), show 20 * d + i - 20 * d = i by omega, ← a1]
        exact ⟨congrArg aF (by omega), l, by omega, a1.trans a2⟩
      · rw [pk_us]; exact congrArg nI (by omega)
      · rw [pk_us, bk_in (Nat.le_refl _) (by omega), Nat.sub_self, wA _ (by omega), Nat.add_zero, ← ea, hW k (by omega), eu]
      · rw [pk_us, bk_in (by omega) (by omega), wA _ (by omega), show a + (22 * (2 * d + 1) + 1 + (b - a - 1) - 22 * (2 * d + 1)) = b by omega, ← eb, hW (k + 1) (by omega), ev]
      · rw [bk_in (by omega) (by omega), bk_in (by omega) (by omega), bk_in (by omega) (by omega)]
        exact ⟨congrArg nI (by omega), P + (20 * d + i - 20 * d), by omega, rfl⟩
    · obtain ⟨s0, s1⟩ := hC d (by omega)
      have hx := hCd d (by omega)
      refine ⟨?_, ?_⟩
      · rw [pk_un (by omega), pk_un (by omega), pk_un (by omega)]
        refine rs_c s0 (fun x hx2 => ?_) (by rw [pk_un (by omega), pk_un (by omega)]) (fun i hi => bk_lo (by omega)) (by omega)
        have := hx x (by omega)
        rw [show 22 * (2 * d) + x = 44 * d + x by omega]; exact this
      · rw [pk_un (by omega), pk_un (by omega), pk_un (by omega)]
        refine rs_c s1 (fun x hx2 => ?_) (by rw [pk_un (by omega), pk_un (by omega)]) (fun i hi => bk_lo (by omega)) (by omega)
        have := hx (22 + x) (by omega)
        rw [show 22 * (2 * d + 1) + x = 44 * d + (22 + x) by omega]; exact this
  · rw [pk_un (by omega), pk_un (by omega), pk_un (by omega), pk_un (by omega)]; exact hz d (by omega) h2
  · rw [bk_lo (by omega), bk_lo (by omega)]; exact hG x hx
  · rw [pk_un (by omega), pk_un (by omega)]; exact hH q hq
  · rw [wA]
    · exact hW j hj
    · by_cases e : j ≤ k
      · have := hlo j e; omega
      · have := hhi j (by omega) hj; omega
  · by_cases e : j < a
    · rw [bk_lo e, wA _ (by omega)]
      obtain ⟨a1, l, hl, a2⟩ := hB j e hjn
      exact ⟨a1, l, by omega, a2⟩
    · rw [bk_in (by omega) (by omega), bk_in (by omega) (by omega)]
      exact ⟨congrArg nI (by omega), P + (j + 1 - (a + 1)), by omega, rfl⟩
  · by_cases e : d = c
    · subst e
      rw [pk_us]
      unfold nvd
      rw [pk_un (by omega), pk_us, nI_clamp (by omega)]
    · rw [pk_un e, hN d h1 (by omega)]
      unfold nvd
      obtain ⟨⟨t, ht, eK, eH, -⟩, -⟩ := hC d (by omega)
      rw [pk_un (by omega), pk_un (by omega), eH, nI_clamp (by omega)]
      refine nval_c _ (fun y hy => ?_)
      have := hCd d (by omega) y (by omega)
      rw [show 22 * (2 * d) + y = 44 * d + y by omega, this]
  · rw [pk_un (by omega)]; exact hN' d (by omega)
