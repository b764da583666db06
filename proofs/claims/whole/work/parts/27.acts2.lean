/-! PURE PART: bar, link, cut, told, seed, type -/
theorem bit_has : ∀ t : Nat, t < 64 → ∀ a : Nat, a < 6 → ((nI t &&& mv_shl 1 (nI a) = 0) ↔ ¬ (mv_shr (nI t) (nI a) &&& 1 = 1)) := by decide +kernel
theorem shl_n : ∀ n : Nat, n < 7 → mv_shl 1 (nI n) = nI (2 ^ n) := by decide +kernel
theorem pow_le64 : ∀ n : Nat, n < 7 → 1 ≤ 2 ^ n ∧ 2 ^ n ≤ 64 := by decide +kernel
section ACT
variable {IC : Nat → mx_G → Prop}
theorem ok_bar (hC : ICok IC) : pv_bar (Inv IC) := by
  intro k σ p1 p2 hk h
  obtain ⟨n2, n6, nx, nm⟩ := h.n
  have hp := pow_le64 _ (show N (σ.1 2) 0 < 7 by omega)
  have hs := shl_n _ (show N (σ.1 2) 0 < 7 by omega)
  unfold fX10_bar fX11_bar
  rcases dom_cases _ n2 n6 p1 with ⟨a, ha, rfl, x1, m1⟩ | ⟨x1, m1⟩
  · rcases rng_cases (2 ^ N (σ.1 2) 0 - 1) (by omega) (Int32.toInt64 (nI (2 ^ N (σ.1 2) 0) - 1)) (by rw [li_1, suI hp.1]) _ rfl p2 with ⟨t, ht, rfl, g1, g2, m2⟩ | ⟨g, m2⟩
    · by_cases hb : nI t &&& mv_shl 1 (nI a) = 0
      · have hb2 := (bit_has t (by omega) a (by omega)).mp hb
        refine pv_cell hC h (i := 7 + a) (j := 115 + a) (v := t) (by omega) (by omega) (by omega) (by omega) ?_ ?_
        · rw [x1 σ nx, bd_some, if_neg one_ne]
          have e : fX9_areOthers (nI a) (nI t) σ = some (1, σ) := by
            unfold fX9_areOthers
            rw [if_neg g1, li_0, ixT (by omega) (by omega), if_pos rfl, clI (by omega), nx, hs, if_neg (by rw [leI (by omega) (by omega)]; omega), ← li_0, if_pos hb]
          rw [e, bd_some, if_neg one_ne]
          simp (disch := omega) only [fX9_barsOf, fX9_setBars, li_7, adI, ixT, clI, if_true, bd_some, mv_let]
        · intro τ hτ
          have hm := hτ.trans nm
          rw [m1 τ hm, bd_some]
          simp only [mv_let]
          rw [if_neg one_ne, li_0, ixT (by omega) (by omega), if_pos rfl, clI (by omega), hm, hs, ← li_0, m2 τ, bd_some, if_neg one_ne]
          unfold fX11_has
          rw [if_neg hb2, bd_some, if_pos rfl, if_neg one_ne, li_115, adI]
          cases fX11_becomes (nI (115 + a)) (nI t) τ with
          | none => rfl
          | some q => rfl
      · have hb2 : mv_shr (nI t) (nI a) &&& 1 = 1 := Classical.not_not.mp fun z => hb ((bit_has t (by omega) a (by omega)).mpr z)
        refine pv_same hC h (-1) ?_ ?_
        · rw [x1 σ nx, bd_some, if_neg one_ne]
          have e : fX9_areOthers (nI a) (nI t) σ = some (0, σ) := by
            unfold fX9_areOthers
            rw [if_neg g1, li_0, ixT (by omega) (by omega), if_pos rfl, clI (by omega), nx, hs, if_neg (by rw [leI (by omega) (by omega)]; omega), ← li_0, if_neg hb]
          rw [e, bd_some, if_pos rfl]
        · show mv_bind (fX11_isDomain (nI a) σ) _ = _
          rw [m1 σ nm, bd_some]
          simp only [mv_let]
          rw [if_neg one_ne, li_0, ixT (by omega) (by omega), if_pos rfl, clI (by omega), nm, hs, ← li_0, m2 σ, bd_some, if_neg one_ne]
          unfold fX11_has
          rw [if_pos hb2, bd_some, if_neg one_ne, if_pos trivial]
    · refine pv_same hC h (-1) ?_ ?_
      · rw [x1 σ nx, bd_some, if_neg one_ne]
        have e : fX9_areOthers (nI a) p2 σ = some (0, σ) := by
          unfold fX9_areOthers
          by_cases g0 : p2 < 0
          · rw [if_pos g0]
          · rw [if_neg g0, li_0, ixT (by omega) (by omega), if_pos rfl, clI (by omega), nx, hs, if_pos ?_]
            rcases g with g | g
            · exact absurd g g0
            · rcases nI_ex p2 with z | ⟨j, hj, rfl⟩
              · exact absurd z g0
              · rw [leI hj (by omega)] at g
                rw [leI (by omega) hj]
                omega
        rw [e, bd_some, if_pos rfl]
      · show mv_bind (fX11_isDomain (nI a) σ) _ = _
        rw [m1 σ nm, bd_some]
        simp only [mv_let]
        rw [if_neg one_ne, li_0, ixT (by omega) (by omega), if_pos rfl, clI (by omega), nm, hs, ← li_0, m2 σ, bd_some, if_pos rfl, if_pos trivial]
  · refine pv_same hC h (-1) ?_ ?_
    · rw [x1 σ nx, bd_some, if_pos rfl]
    · show mv_bind (fX11_isDomain p1 σ) _ = _
      rw [m1 σ nm, bd_some]
      simp only [mv_let, if_true]
theorem sm_links {s : mx_G} {a b t : Nat} {u : Int32} (ha : a < 6) (hb : b < 6) (ht : t ≤ 3) : fX11_links (nI a) (nI b) (nI t) u s = some ((), gi (gi (gi (gi s 46 (1 + (6 * a + b)) (nI t)) 46 (1 + (6 * b + a)) (nI (if t = 0 then 0 else 4 - t))) 46 (37 + (6 * a + b)) u) 46 (37 + (6 * b + a)) u) := by
  by_cases h0 : t = 0 <;> simp (disch := omega) only [fX11_links, fX11_pair, li_1, li_6, li_0, li_4, li_37, muI, adI, ixT, clI, eqI, suI, if_true, mv_let, bd_some, h0, if_false]
theorem RW.link {f c : Nat → Int32} (h : RW f c) {a b t u : Nat} (ha : a < 6) (hb : b < 6) : RW (upd (upd (upd (upd f (1 + (6 * a + b)) (nI t)) (1 + (6 * b + a)) (nI (if t = 0 then 0 else 4 - t))) (37 + (6 * a + b)) (nI u)) (37 + (6 * b + a)) (nI u)) (L4 c a b t u) :=
  RW_updA (RW_updA (RW_updA (RW_updA h (by omega) (by omega) _) (by omega) (by omega) _) (by omega) (by omega) _) (by omega) (by omega) _
/-- an act by which a link becomes another: whatever way the class writes it, its cells are L4 then -/
theorem pv_lk (hC : ICok IC) {k : Nat} {σ : mx_G} (h : Inv IC k σ) {a b t u : Nat} (ha : a < N (σ.1 2) 0) (hb : b < N (σ.1 2) 0) (hab : a ≠ b) (ht : t ≤ 3) (hu : u ≤ 1) (htu : t = 0 → u = 0) : ∃ σ1, fX3_keep σ = some ((), σ1) ∧ σ1.1 2 = σ.1 2 ∧ ∀ σ2 : mx_G, (∀ p : Nat, p ∉ scX → σ2.1 p = σ1.1 p ∧ σ2.2 p = σ1.2 p) → σ2.1 2 = L4 (σ.1 2) a b t u → σ2.1 46 = σ.1 46 ∧ ∃ τ1, fX11_notes σ2 = some ((), τ1) ∧ τ1.1 46 = σ.1 46 ∧ ∃ τ2, fX11_links (nI a) (nI b) (nI t) (nI u) τ1 = some ((), τ2) ∧ τ2.1 46 (37 + (6 * a + b)) = nI u ∧ Inv IC (k + 1) τ2 := by
  have n6 := h.n.2.1
  obtain ⟨σ1, e1, e2, e3, nx⟩ := h.act hC
  refine ⟨σ1, e1, e2, fun σ2 f2 w2 => ⟨((f2 46 (by decide)).1).trans (e3 46 (by decide)), ?_⟩⟩
  obtain ⟨τ1, f1, f3, fin⟩ := nx σ2 f2 (by rw [w2]; exact h.1.2.link ha hb hab ht hu htu) σ2 (Sc.rf _)
  refine ⟨τ1, f1, f3, _, sm_links (by omega) (by omega) ht, ?_, ?_⟩
  · simp only [rd_gi, if_true, upd_rd]
    rw [if_neg (by omega)]
  · refine fin _ (fun p hp hp5 => ⟨?_, rfl⟩) (fun k _ _ _ => ?_) rfl ?_
    · have hp46 : ¬ p = 46 := fun z => hp (by rw [z]; decide)
      simp only [rd_gi, hp46, if_false]
    · simp only [rd_gi, Nat.reduceEqDiff, if_false]
    · rw [w2]
      simp only [rd_gi, if_true, f3]
      exact RW.link h.1.1 (by omega) (by omega)
theorem sx_isCut {s : mx_G} {a b u : Nat} (ha : a < 6) (hb : b < 6) (hu : s.1 2 (49 + a * 6 + b) = nI u) (hu1 : u ≤ 1) : fX9_isCut (nI a) (nI b) s = some (nI u, s) := by
  simp (disch := omega) only [fX9_isCut, li_49, li_6, li_0, muI, adI, ixT, clI, if_true, hu, eqI]
  by_cases h : u = 0
  · rw [if_pos h, h]
  · rw [if_neg h, show u = 1 by omega]; rfl
theorem Inv.lk {k : Nat} {σ : mx_G} (h : Inv IC k σ) {a b : Nat} (ha : a < 6) (hb : b < 6) : σ.1 2 (13 + a * 6 + b) = nI (N (σ.1 2) (13 + a * 6 + b)) ∧ σ.1 2 (49 + a * 6 + b) = nI (N (σ.1 2) (49 + a * 6 + b)) ∧ σ.1 2 (85 + a * 6 + b) = nI (N (σ.1 2) (85 + a * 6 + b)) ∧ σ.1 46 (1 + (6 * a + b)) = σ.1 2 (13 + a * 6 + b) ∧ σ.1 46 (37 + (6 * a + b)) = σ.1 2 (49 + a * 6 + b) ∧ σ.1 46 (73 + (6 * a + b)) = σ.1 2 (85 + a * 6 + b) :=
  ⟨h.1.2.2.1 _ (by omega), h.1.2.2.1 _ (by omega), h.1.2.2.1 _ (by omega), h.1.1.at (by omega) (by omega), h.1.1.at (by omega) (by omega), h.1.1.at (by omega) (by omega)⟩
theorem ok_link (hC : ICok IC) : pv_link (Inv IC) := by
  intro k σ p1 p2 p3 hk h
  obtain ⟨n2, n6, nx, nm⟩ := h.n
  unfold fX10_link fX11_link
  rcases pair_cases _ n2 n6 p1 p2 with ⟨a, b, ha, hb, hab, rfl, rfl, x1, m1⟩ | ⟨x1, m1⟩
  · rcases rng_cases 3 (by omega) 3 (by decide) 3 rfl p3 with ⟨t, ht, rfl, g1, g2, m2⟩ | ⟨g, m2⟩
    · obtain ⟨c1, c2, -, d1, d2, -⟩ := h.lk (show a < 6 by omega) (show b < 6 by omega)
      have hw := h.1.2.2.2.2.2.1 a b (by omega) (by omega)
      generalize hwe : N (σ.1 2) (13 + a * 6 + b) = w at c1 hw
      generalize hce : N (σ.1 2) (49 + a * 6 + b) = cu at c2 hw
      by_cases hno : w = t ∧ cu = 0
      · refine pv_same hC h (-2) ?_ ?_
        · rw [x1 σ nx, bd_some, if_neg one_ne, if_neg g1, if_pos g2, sx_sortOf (by omega) (by omega), bd_some]
          simp only [mv_let]
          rw [c1, hno.1, if_pos rfl, sx_isCut (u := cu) (by omega) (by omega) c2 (by omega), bd_some, hno.2, ← li_0, if_pos rfl]
        · show mv_bind (fX11_areTwo (nI a) (nI b) σ) _ = _
          rw [m1 σ nm, bd_some, if_neg one_ne, m2 σ, bd_some, if_neg one_ne]
          simp (disch := omega) only [fX11_pair, bd_some, li_1, li_6, li_37, li_0, muI, adI, ixT, clI, if_true, mv_let, d1, d2, c1, c2, eqI, hno.1, hno.2]
      · obtain ⟨σ1, e1, e2, act⟩ := pv_lk hC h ha hb hab ht (u := 0) (by omega) (fun _ => rfl)
        have hfr : ∀ p : Nat, p ∉ scX → (gi (gi (gi (gi σ1 2 (13 + a * 6 + b) (nI t)) 2 (13 + b * 6 + a) (nI (if t = 0 then 0 else 4 - t))) 2 (49 + a * 6 + b) (nI 0)) 2 (49 + b * 6 + a) (nI 0)).1 p = σ1.1 p ∧ (gi (gi (gi (gi σ1 2 (13 + a * 6 + b) (nI t)) 2 (13 + b * 6 + a) (nI (if t = 0 then 0 else 4 - t))) 2 (49 + a * 6 + b) (nI 0)) 2 (49 + b * 6 + a) (nI 0)).2 p = σ1.2 p := by
          intro p hp
          have hp2 : ¬ p = 2 := fun z => hp (by rw [z]; decide)
          refine ⟨?_, rfl⟩
          simp only [rd_gi, hp2, if_false]
        have hw2 : (gi (gi (gi (gi σ1 2 (13 + a * 6 + b) (nI t)) 2 (13 + b * 6 + a) (nI (if t = 0 then 0 else 4 - t))) 2 (49 + a * 6 + b) (nI 0)) 2 (49 + b * 6 + a) (nI 0)).1 2 = L4 (σ.1 2) a b t 0 := by
          simp only [rd_gi, if_true, e2]; rfl
        obtain ⟨q46, τ1, f1, f46, τ2, f2, -, fin⟩ := act (gi (gi (gi (gi σ1 2 (13 + a * 6 + b) (nI t)) 2 (13 + b * 6 + a) (nI (if t = 0 then 0 else 4 - t))) 2 (49 + a * 6 + b) (nI 0)) 2 (49 + b * 6 + a) (nI 0)) hfr hw2
        generalize hσ2 : gi (gi (gi (gi σ1 2 (13 + a * 6 + b) (nI t)) 2 (13 + b * 6 + a) (nI (if t = 0 then 0 else 4 - t))) 2 (49 + a * 6 + b) (nI 0)) 2 (49 + b * 6 + a) (nI 0) = σ2 at q46 f1
        refine ⟨nI w, σ2, τ2, ?_, ?_, fin⟩
        · rw [x1 σ nx, bd_some, if_neg one_ne, if_neg g1, if_pos g2, sx_sortOf (by omega) (by omega), bd_some]
          simp only [mv_let]
          have hJ : (mv_bind (fX3_keep σ) fun _ s5 => mv_bind (fX9_setLink (nI a) (nI b) (nI t) s5) fun _ s6 => some (σ.1 2 (13 + a * 6 + b), s6)) = some (nI w, σ2) := by
            rw [e1, bd_some, sx_setLink (by omega) (by omega) ht, bd_some, hσ2, c1]
          by_cases hwt : w = t
          · rw [c1, if_pos (by rw [hwt]), sx_isCut (u := cu) (by omega) (by omega) c2 (by omega), bd_some, if_neg (by rw [li_0, eqI (by omega) (by omega)]; omega), ← c1]
            rw [hJ, c1]
          · rw [if_neg (by rw [c1, eqI (by omega) (by omega)]; exact hwt)]
            exact hJ
        · show mv_bind (fX11_areTwo (nI a) (nI b) σ2) _ = _
          rw [m1 σ2 (by rw [q46]; exact nm), bd_some, if_neg one_ne, m2 σ2, bd_some, if_neg one_ne]
          simp (disch := omega) only [fX11_pair, bd_some, li_1, li_6, li_37, muI, adI, ixT, clI, if_true, mv_let, q46, d1, d2, c1, c2, f1]
          rw [li_0, f2, bd_some]
          by_cases hwt : w = t
          · rw [if_pos (by rw [hwt]), if_neg (by rw [eqI (by omega) (by omega)]; omega)]
          · rw [if_neg (by rw [eqI (by omega) (by omega)]; exact hwt)]
    · refine pv_same hC h (-1) ?_ ?_
      · rw [x1 σ nx, bd_some, if_neg one_ne]
        rcases g with g | g
        · rw [if_pos g]
        · by_cases g0 : p3 < 0
          · rw [if_pos g0]
          · rw [if_neg g0, if_neg g]
      · show mv_bind (fX11_areTwo (nI a) (nI b) σ) _ = _
        rw [m1 σ nm, bd_some, if_neg one_ne, m2 σ, bd_some, if_pos rfl]
  · refine pv_same hC h (-1) ?_ ?_
    · rw [x1 σ nx, bd_some, if_pos rfl]
    · show mv_bind (fX11_areTwo p1 p2 σ) _ = _
      rw [m1 σ nm, bd_some, if_pos rfl]
end ACT
