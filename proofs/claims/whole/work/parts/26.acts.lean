/-! PURE PART: the acts on single cells, class and reference side by side -/
section ACT
variable {IC : Nat → mx_G → Prop}
/-- both answer without a change -/
theorem pv_same {α : Type} (hC : ICok IC) {k : Nat} {σ : mx_G} (h : Inv IC k σ) {rx : Option (α × mx_G)} {rm : mx_G → Option (α × mx_G)} (r : α) (h1 : rx = some (r, σ)) (h2 : rm σ = some (r, σ)) : pv_ok (Inv IC (k + 1)) rx rm := ⟨r, σ, σ, h1, h2, h.sc hC (Sc.rf σ)⟩
theorem Inv.n {k : Nat} {σ : mx_G} (h : Inv IC k σ) : 2 ≤ N (σ.1 2) 0 ∧ N (σ.1 2) 0 ≤ 6 ∧ σ.1 2 0 = nI (N (σ.1 2) 0) ∧ σ.1 46 0 = nI (N (σ.1 2) 0) := by
  have h1 := h.1.2.1
  have h2 := h.1.2.2.1 0 (by omega)
  exact ⟨h1.1, h1.2, h2, by rw [h.1.1.at (k := 0) (i := 0) (by omega) (by omega)]; exact h2⟩
/-- the reference's cell becomes another number, the past kept -/
theorem sm_becomes {σ τ1 : mx_G} {j : Nat} {x v : Int32} (hj : j < 128) (hx : σ.1 46 j = x) (hv : ¬ x = v) (hn : fX11_notes σ = some ((), τ1)) : fX11_becomes (nI j) v σ = some (x, gi τ1 46 j v) := by
  unfold fX11_becomes
  simp (disch := omega) only [ixT, if_true, clI, mv_let, hx, hv, if_false, hn, bd_some]
theorem sm_becomesN {σ : mx_G} {j : Nat} {x : Int32} (hj : j < 128) (hx : σ.1 46 j = x) : fX11_becomes (nI j) x σ = some (-2, σ) := by
  unfold fX11_becomes
  simp (disch := omega) only [ixT, if_true, clI, mv_let, hx]
/-- an act on one cell: i the class's, j the reference's -/
theorem pv_cell (hC : ICok IC) {k : Nat} {σ : mx_G} (h : Inv IC k σ) {i j v : Nat} (hv : v < 64) (hi : (1 ≤ i ∧ i < 7 ∧ v ≤ 3) ∨ (7 ≤ i ∧ i < 13) ∨ (85 ≤ i ∧ i < 121 ∧ v ≤ 9)) (hj : j < 128) (hij : (0 < j ∧ j < 109 ∧ i = j + 12) ∨ (109 ≤ j ∧ j < 121 ∧ i = j - 108)) {rx : Option (Int32 × mx_G)} {rm : mx_G → Option (Int32 × mx_G)}
    (h1 : rx = if σ.1 2 i = nI v then some (-2, σ) else mv_bind (fX3_keep σ) fun _ s => some (σ.1 2 i, gi s 2 i (nI v))) (h2 : ∀ τ : mx_G, τ.1 46 0 = σ.1 46 0 → rm τ = fX11_becomes (nI j) (nI v) τ) : pv_ok (Inv IC (k + 1)) rx rm := by
  have hji : σ.1 46 j = σ.1 2 i := h.1.1.at hj (by omega)
  by_cases hx : σ.1 2 i = nI v
  · refine pv_same hC h (-2) (by rw [h1, if_pos hx]) ?_
    rw [h2 σ rfl]
    exact sm_becomesN hj (hji.trans hx)
  · obtain ⟨σ1, e1, e2, e3, nx⟩ := h.act hC
    have w2 : (gi σ1 2 i (nI v)).1 2 = upd (σ.1 2) i (nI v) := by rw [rd_gi, if_pos rfl, e2]
    obtain ⟨τ1, f1, f2, fin⟩ := nx (gi σ1 2 i (nI v)) (fun p hp => ⟨by rw [rd_gi, if_neg (fun z : p = 2 => hp (by rw [z]; decide))], rfl⟩) (by rw [w2]; exact h.1.2.small hv hi) _ (Sc.rf _)
    have m46 : (gi σ1 2 i (nI v)).1 46 = σ.1 46 := by rw [rd_gi, if_neg (by decide)]; exact e3 46 (by decide)
    refine ⟨σ.1 2 i, gi σ1 2 i (nI v), gi τ1 46 j (nI v), ?_, ?_, ?_⟩
    · rw [h1, if_neg hx, e1, bd_some]
    · rw [h2 _ (by rw [m46])]
      exact sm_becomes hj (by rw [m46]; exact hji) hx f1
    · refine fin _ (fun p hp hp5 => ⟨by rw [rd_gi, if_neg (fun z : p = 46 => hp (by rw [z]; decide))], rfl⟩) (fun k _ _ _ => by rw [rd_gi, if_neg (by decide)]) rfl ?_
      rw [w2, rd_gi, if_pos rfl, f2]
      exact RW_updA h.1.1 hj (by omega) _
theorem ok_like (hC : ICok IC) : pv_like (Inv IC) := by
  intro k σ p1 p2 p3 hk h
  obtain ⟨n2, n6, nx, nm⟩ := h.n
  unfold fX10_like fX11_like
  rcases pair_cases _ n2 n6 p1 p2 with ⟨a, b, ha, hb, hab, rfl, rfl, x1, m1⟩ | ⟨x1, m1⟩
  · rcases rng_cases 9 (by omega) 9 (by decide) 9 rfl p3 with ⟨t, ht, rfl, g1, g2, m2⟩ | ⟨g, m2⟩
    · refine pv_cell hC h (i := 85 + a * 6 + b) (j := 73 + 6 * a + b) (v := t) (by omega) (by omega) (by omega) (by omega) ?_ ?_
      · rw [x1 σ nx, bd_some, if_neg one_ne, if_neg g1, if_pos g2]
        simp (disch := omega) only [fX9_likingOf, fX9_setLiking, li_85, li_6, muI, adI, ixT, clI, if_true, bd_some, mv_let]
      · intro τ hτ
        rw [m1 τ (hτ.trans nm), bd_some, if_neg one_ne, m2 τ, bd_some, if_neg one_ne]
        simp only [fX11_pair, bd_some, li_6, li_73, muI, adI]
        rw [show 73 + (6 * a + b) = 73 + 6 * a + b by omega]
        cases fX11_becomes (nI (73 + 6 * a + b)) (nI t) τ with
        | none => rfl
        | some q => rfl
    · refine pv_same hC h (-1) ?_ ?_
      · rw [x1 σ nx, bd_some, if_neg one_ne]
        rcases g with g | g
        · rw [if_pos g]
        · by_cases g0 : p3 < 0
          · rw [if_pos g0]
          · rw [if_neg g0, if_neg g]
      · show mv_bind (fX11_areTwo (nI a) (nI b) σ) _ = _
        rw [m1 σ nm, bd_some, if_neg one_ne, m2 σ, bd_some, if_pos rfl]
  · refine pv_same hC h (-1) ?_ ?_
    · rw [x1 σ nx, bd_some, if_pos rfl]
    · show mv_bind (fX11_areTwo p1 p2 σ) _ = _
      rw [m1 σ nm, bd_some, if_pos rfl]
theorem ok_manner (hC : ICok IC) : pv_manner (Inv IC) := by
  intro k σ p1 p2 hk h
  obtain ⟨n2, n6, nx, nm⟩ := h.n
  unfold fX10_manner fX11_manner
  rcases dom_cases _ n2 n6 p1 with ⟨a, ha, rfl, x1, m1⟩ | ⟨x1, m1⟩
  · rcases rng_cases 3 (by omega) 3 (by decide) 3 rfl p2 with ⟨t, ht, rfl, g1, g2, m2⟩ | ⟨g, m2⟩
    · refine pv_cell hC h (i := 1 + a) (j := 109 + a) (v := t) (by omega) (by omega) (by omega) (by omega) ?_ ?_
      · rw [x1 σ nx, bd_some, if_neg one_ne, if_neg g1, if_pos g2]
        simp (disch := omega) only [fX9_mannerOf, fX9_setManner, li_1, adI, ixT, clI, if_true, bd_some, mv_let]
      · intro τ hτ
        rw [m1 τ (hτ.trans nm), bd_some, if_neg one_ne, m2 τ, bd_some, if_neg one_ne]
        simp only [li_109, adI]
        cases fX11_becomes (nI (109 + a)) (nI t) τ with
        | none => rfl
        | some q => rfl
    · refine pv_same hC h (-1) ?_ ?_
      · rw [x1 σ nx, bd_some, if_neg one_ne]
        rcases g with g | g
        · rw [if_pos g]
        · by_cases g0 : p2 < 0
          · rw [if_pos g0]
          · rw [if_neg g0, if_neg g]
      · show mv_bind (fX11_isDomain (nI a) σ) _ = _
        rw [m1 σ nm, bd_some, if_neg one_ne, m2 σ, bd_some, if_pos rfl]
  · refine pv_same hC h (-1) ?_ ?_
    · rw [x1 σ nx, bd_some, if_pos rfl]
    · show mv_bind (fX11_isDomain p1 σ) _ = _
      rw [m1 σ nm, bd_some, if_pos rfl]
end ACT
