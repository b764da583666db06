/-! PURE PART: cut, told, seed, type -/
theorem upd_self (c : Nat → Int32) {i : Nat} {x : Int32} (h : c i = x) : upd c i x = c := by
  funext j
  rw [upd_rd]
  by_cases e : j = i
  · rw [if_pos e, e, h]
  · rw [if_neg e]
theorem L4_cut {c : Nat → Int32} (h : WOK c) {a b u : Nat} (ha : a < 6) (hb : b < 6) : L4 c a b (N c (13 + a * 6 + b)) u = upd (upd c (49 + a * 6 + b) (nI u)) (49 + b * 6 + a) (nI u) := by
  have h2 := h.2.1
  have h5 := (h.2.2.2.2.1 a b ha hb).2.2.2.1
  unfold L4
  rw [upd_self c (h2 _ (by omega)), upd_self c (by rw [h2 _ (by omega), h5])]
section ACT
variable {IC : Nat → mx_G → Prop}
theorem ok_cut (hC : ICok IC) : pv_cut (Inv IC) := by
  intro k σ p1 p2 hk h
  obtain ⟨n2, n6, nx, nm⟩ := h.n
  unfold fX10_cut fX11_cut
  rcases pair_cases _ n2 n6 p1 p2 with ⟨a, b, ha, hb, hab, rfl, rfl, x1, m1⟩ | ⟨x1, m1⟩
  · obtain ⟨c1, c2, -, d1, d2, -⟩ := h.lk (show a < 6 by omega) (show b < 6 by omega)
    have hw := h.1.2.2.2.2.2.1 a b (by omega) (by omega)
    have hl4 := L4_cut h.1.2 (u := 1 - N (σ.1 2) (49 + a * 6 + b)) (show a < 6 by omega) (show b < 6 by omega)
    generalize hwe : N (σ.1 2) (13 + a * 6 + b) = w at c1 hw hl4
    generalize hce : N (σ.1 2) (49 + a * 6 + b) = cu at c2 hw hl4
    by_cases hw0 : w = 0
    · refine pv_same hC h (-4) ?_ ?_
      · rw [x1 σ nx, bd_some, if_neg one_ne, sx_sortOf (by omega) (by omega), bd_some, c1, hw0, ← li_0, if_pos rfl]
      · show mv_bind (fX11_areTwo (nI a) (nI b) σ) _ = _
        rw [m1 σ nm, bd_some, if_neg one_ne]
        simp (disch := omega) only [fX11_pair, bd_some, li_1, li_6, li_0, muI, adI, ixT, clI, if_true, mv_let, d1, c1, eqI, hw0]
    · obtain ⟨σ1, e1, e2, act⟩ := pv_lk hC h ha hb hab (t := w) (by omega) (u := 1 - cu) (by omega) (fun z => absurd z hw0)
      have hfr : ∀ p : Nat, p ∉ scX → (gi (gi σ1 2 (49 + a * 6 + b) (nI (1 - cu))) 2 (49 + b * 6 + a) (nI (1 - cu))).1 p = σ1.1 p ∧ (gi (gi σ1 2 (49 + a * 6 + b) (nI (1 - cu))) 2 (49 + b * 6 + a) (nI (1 - cu))).2 p = σ1.2 p := by
        intro p hp
        have hp2 : ¬ p = 2 := fun z => hp (by rw [z]; decide)
        refine ⟨?_, rfl⟩
        simp only [rd_gi, hp2, if_false]
      have hw2 : (gi (gi σ1 2 (49 + a * 6 + b) (nI (1 - cu))) 2 (49 + b * 6 + a) (nI (1 - cu))).1 2 = L4 (σ.1 2) a b w (1 - cu) := by
        rw [hl4]; simp only [rd_gi, if_true, e2]
      obtain ⟨q46, τ1, f1, f46, τ2, f2, f3, fin⟩ := act _ hfr hw2
      have hset : fX9_turnCut (nI a) (nI b) σ1 = some ((), gi (gi σ1 2 (49 + a * 6 + b) (nI (1 - cu))) 2 (49 + b * 6 + a) (nI (1 - cu))) := by
        unfold fX9_turnCut
        rw [sx_isCut (u := cu) (by omega) (by omega) (by rw [e2]; exact c2) (by omega), bd_some]
        by_cases hc0 : cu = 0
        · subst hc0
          rw [← li_0, if_pos rfl]
          simp (disch := omega) only [fX9_setCut, li_49, li_6, li_1, muI, adI, ixT, clI, if_true, mv_let, bd_some]
        · rw [show cu = 1 by omega, if_neg (by decide)]
          simp (disch := omega) only [fX9_setCut, li_49, li_6, li_0, muI, adI, ixT, clI, if_true, mv_let, bd_some]
      generalize hσ2 : gi (gi σ1 2 (49 + a * 6 + b) (nI (1 - cu))) 2 (49 + b * 6 + a) (nI (1 - cu)) = σ2 at q46 f1 hset hw2
      have hcell : σ2.1 2 (49 + a * 6 + b) = nI (1 - cu) := by
        rw [hw2, hl4, upd_rd, if_neg (by omega), upd_rd, if_pos rfl]
      refine ⟨nI (1 - cu), σ2, τ2, ?_, ?_, fin⟩
      · rw [x1 σ nx, bd_some, if_neg one_ne, sx_sortOf (by omega) (by omega), bd_some, c1, if_neg (by rw [li_0, eqI (by omega) (by omega)]; exact hw0), e1, bd_some, hset, bd_some, sx_isCut (u := 1 - cu) (by omega) (by omega) hcell (by omega), bd_some]
        by_cases hc0 : cu = 0
        · subst hc0; rw [if_neg (by decide)]; rfl
        · rw [show cu = 1 by omega, if_pos (by decide)]; rfl
      · show mv_bind (fX11_areTwo (nI a) (nI b) σ2) _ = _
        rw [m1 σ2 (by rw [q46]; exact nm), bd_some, if_neg one_ne]
        simp (disch := omega) only [fX11_pair, bd_some, li_1, li_6, li_37, li_0, muI, adI, ixT, clI, if_true, mv_let, q46, d1, c1, f1, eqI, hw0, if_false, f46, d2, c2, suI, f2, f3]
  · refine pv_same hC h (-1) ?_ ?_
    · rw [x1 σ nx, bd_some, if_pos rfl]
    · show mv_bind (fX11_areTwo p1 p2 σ) _ = _
      rw [m1 σ nm, bd_some, if_pos rfl]
theorem ok_told (hC : ICok IC) : pv_told (Inv IC) := by
  intro k σ p1 p2 p3 hk h
  obtain ⟨n2, n6, nx, nm⟩ := h.n
  unfold fX10_told fX11_told
  rcases pair_cases _ n2 n6 p1 p2 with ⟨a, b, ha, hb, hab, rfl, rfl, x1, m1⟩ | ⟨x1, m1⟩
  · obtain ⟨c1, c2, c3, d1, d2, d3⟩ := h.lk (show a < 6 by omega) (show b < 6 by omega)
    have hw := h.1.2.2.2.2.2.1 a b (by omega) (by omega)
    rcases rng_cases 2 (by omega) 2 (by decide) 2 rfl p3 with ⟨t, ht, rfl, g1, g2, -⟩ | ⟨g, -⟩
    · rcases (show t = 0 ∨ t = 1 ∨ t = 2 by omega) with rfl | rfl | rfl
      · refine pv_same hC h (σ.1 2 (13 + a * 6 + b)) ?_ ?_
        · rw [x1 σ nx, bd_some, if_neg one_ne, if_neg g1, if_pos g2, if_pos (show nI 0 = 0 from rfl), sx_sortOf (by omega) (by omega), bd_some]
        · show mv_bind (fX11_areTwo (nI a) (nI b) σ) _ = _
          rw [m1 σ nm, bd_some, if_neg one_ne, if_pos (show nI 0 = 0 from rfl)]
          simp (disch := omega) only [fX11_pair, bd_some, li_1, li_6, muI, adI, ixT, clI, if_true, d1]
      · refine pv_same hC h (σ.1 2 (49 + a * 6 + b)) ?_ ?_
        · rw [x1 σ nx, bd_some, if_neg one_ne, if_neg g1, if_pos g2, if_neg (by decide), if_pos (show nI 1 = 1 from rfl), sx_isCut (by omega) (by omega) c2 (by omega), bd_some, c2]
          by_cases hc0 : N (σ.1 2) (49 + a * 6 + b) = 0
          · rw [hc0, if_pos (show nI 0 = 0 from rfl)]; rfl
          · rw [show N (σ.1 2) (49 + a * 6 + b) = 1 by omega, if_neg (by decide)]; rfl
        · show mv_bind (fX11_areTwo (nI a) (nI b) σ) _ = _
          rw [m1 σ nm, bd_some, if_neg one_ne, if_neg (by decide), if_pos (show nI 1 = 1 from rfl)]
          simp (disch := omega) only [fX11_pair, bd_some, li_37, li_6, muI, adI, ixT, clI, if_true, d2]
      · refine pv_same hC h (σ.1 2 (85 + a * 6 + b)) ?_ ?_
        · rw [x1 σ nx, bd_some, if_neg one_ne, if_neg g1, if_pos g2, if_neg (by decide), if_neg (by decide)]
          simp (disch := omega) only [fX9_likingOf, li_85, li_6, muI, adI, ixT, clI, if_true, bd_some]
        · show mv_bind (fX11_areTwo (nI a) (nI b) σ) _ = _
          rw [m1 σ nm, bd_some, if_neg one_ne, if_neg (by decide), if_neg (by decide), if_pos (show nI 2 = 2 from rfl)]
          simp (disch := omega) only [fX11_pair, bd_some, li_73, li_6, muI, adI, ixT, clI, if_true, d3]
    · have hne : ¬ p3 = 0 ∧ ¬ p3 = 1 ∧ ¬ p3 = 2 := by
        refine ⟨fun z => ?_, fun z => ?_, fun z => ?_⟩ <;> subst z <;> rcases g with g | g <;> revert g <;> decide
      refine pv_same hC h (-1) ?_ ?_
      · rw [x1 σ nx, bd_some, if_neg one_ne]
        rcases g with g | g
        · rw [if_pos g]
        · by_cases g0 : p3 < 0
          · rw [if_pos g0]
          · rw [if_neg g0, if_neg g]
      · show mv_bind (fX11_areTwo (nI a) (nI b) σ) _ = _
        rw [m1 σ nm, bd_some, if_neg one_ne, if_neg hne.1, if_neg hne.2.1, if_neg hne.2.2]
  · refine pv_same hC h (-1) ?_ ?_
    · rw [x1 σ nx, bd_some, if_pos rfl]
    · show mv_bind (fX11_areTwo p1 p2 σ) _ = _
      rw [m1 σ nm, bd_some, if_pos rfl]
/-- the worlds alone become others -/
theorem Inv.world (hC : ICok IC) {k : Nat} {σ τ : mx_G} (h : Inv IC k σ) (f1 : ∀ p : Nat, p ≠ 2 → p ≠ 46 → τ.1 p = σ.1 p) (f2 : τ.2 = σ.2) (hw : RW (τ.1 46) (τ.1 2)) (ho : WOK (τ.1 2)) : Inv IC (k + 1) τ := by
  obtain ⟨-, h2, h3, h4, h5, h6⟩ := h
  refine ⟨⟨hw, ho⟩, ?_, ?_, ?_, ?_, hC k σ τ (fun p g1 g2 => ⟨f1 p (by omega) (by omega), by rw [f2]⟩) h6⟩
  · unfold IP; rw [f1 4 (by decide) (by decide), f1 3 (by decide) (by decide), f1 47 (by decide) (by decide), f1 45 (by decide) (by decide)]; exact h2
  · unfold II; rw [f1 0 (by decide) (by decide), f1 48 (by decide) (by decide), f1 6 (by decide) (by decide), f1 8 (by decide) (by decide), f1 7 (by decide) (by decide), f1 49 (by decide) (by decide), f1 45 (by decide) (by decide)]; exact h3
  · unfold IT; rw [f1 36 (by decide) (by decide), f1 37 (by decide) (by decide), f1 50 (by decide) (by decide), f1 45 (by decide) (by decide)]; exact h4
  · unfold IS; rw [f1 41 (by decide) (by decide), f1 51 (by decide) (by decide), f1 42 (by decide) (by decide), f1 52 (by decide) (by decide), f2]; exact h5
theorem WOK.draw {c : Nat → Int32} (h : WOK c) {v : Nat} (hv : v < 2147483648) : WOK (upd c 127 (nI v)) := by
  have hN : ∀ k, k < 127 → N (upd c 127 (nI v)) k = N c k := fun k hk => by rw [N_upd c 127 k hv, if_neg (by omega)]
  have hR : ∀ k, k < 127 → upd c 127 (nI v) k = c k := fun k hk => by rw [upd_rd, if_neg (by omega)]
  obtain ⟨h1, h2, h3, h4, h5, h6, h7⟩ := h
  refine ⟨by rw [hN 0 (by omega)]; exact h1, fun k hk => by rw [hR k (by omega), hN k (by omega)]; exact h2 k hk, ?_, fun d hd => by rw [hN _ (by omega), hN _ (by omega)]; exact h4 d hd, fun a b ha hb => ?_, by rw [hR 121 (by omega)]; exact h6, fun d hd hd6 => ?_⟩
  · rw [N_upd c 127 127 hv, if_pos rfl, upd_rd, if_pos rfl]
  · rw [hN _ (by omega), hN _ (by omega), hN _ (by omega), hN _ (by omega), hN _ (by omega), hN 0 (by omega)]
    exact h5 a b ha hb
  · rw [hN 0 (by omega), hR _ (by omega)]
    exact h7 d hd hd6
theorem ok_seed (hC : ICok IC) : pv_seed (Inv IC) := by
  intro k σ p1 hk h
  unfold fX10_seed fX11_seed
  by_cases h0 : 0 ≤ p1
  · rcases nI_ex p1 with z | ⟨j, hj, rfl⟩
    · exact absurd z (Int32.not_lt.mpr h0)
    refine ⟨σ.1 2 127, gi σ 2 127 (nI j), gi (gi σ 2 127 (nI j)) 46 127 (nI j), ?_, ?_, ?_⟩
    · rw [if_pos h0]
      simp (disch := omega) only [fX9_draw, fX9_setDraw, li_127, ixT, clI, if_true, mv_let, bd_some]
    · show (if _ then _ else _) = _
      rw [if_pos h0]
      simp (disch := omega) only [li_127, ixT, clI, if_true, mv_let, rd_gi, Nat.reduceEqDiff, if_false]
      rw [h.1.1.at (k := 127) (i := 127) (by omega) (by omega)]
    · refine h.world hC (fun p a b => by simp only [rd_gi, a, b, if_false]) rfl ?_ ?_
      · simp only [rd_gi, if_true, Nat.reduceEqDiff, if_false]
        exact RW_updA h.1.1 (by omega) (by omega) _
      · simp only [rd_gi, if_true, Nat.reduceEqDiff, if_false]
        exact h.1.2.draw hj
  · exact pv_same hC h (-1) (by rw [if_neg h0]) (by show (if _ then _ else _) = _; rw [if_neg h0])
end ACT
