/-! PURE PART: sheets: sheet, drop, item -/
theorem sh_cases (p : Int32) : (∃ s : Nat, s < 4 ∧ p = nI s ∧ (∀ σ : mx_G, fX6_isSheet p σ = some (1, σ)) ∧ (∀ σ : mx_G, fX11_in (Int32.toInt64 p) 0 3 σ = some (1, σ))) ∨ ((∀ σ : mx_G, fX6_isSheet p σ = some (0, σ)) ∧ (∀ σ : mx_G, fX11_in (Int32.toInt64 p) 0 3 σ = some (0, σ))) := by
  unfold fX6_isSheet
  rcases rng_cases 3 (by omega) 3 (by decide) 3 rfl p with ⟨t, ht, rfl, g1, g2, m2⟩ | ⟨g, m2⟩
  · exact Or.inl ⟨t, by omega, rfl, fun σ => by rw [if_neg g1, li_4, if_neg (by rw [leI (by omega) (by omega)]; omega)], m2⟩
  · refine Or.inr ⟨fun σ => ?_, m2⟩
    by_cases g0 : p < 0
    · rw [if_pos g0]
    · rw [if_neg g0, if_pos]
      rcases g with g | g
      · exact absurd g g0
      · rcases nI_ex p with z | ⟨j, hj, rfl⟩
        · exact absurd z g0
        · rw [li_3, leI hj (by omega)] at g
          rw [li_4, leI (by omega) hj]; omega
theorem ln_cases (p : Int32) : (∃ s : Nat, s ≤ 3 ∧ p = nI s ∧ (∀ σ : mx_G, fX6_isLane p σ = some (1, σ)) ∧ (∀ σ : mx_G, fX11_in (Int32.toInt64 p) 0 3 σ = some (1, σ))) ∨ ((∀ σ : mx_G, fX6_isLane p σ = some (0, σ)) ∧ (∀ σ : mx_G, fX11_in (Int32.toInt64 p) 0 3 σ = some (0, σ))) := by
  unfold fX6_isLane
  rcases rng_cases 3 (by omega) 3 (by decide) 3 rfl p with ⟨t, ht, rfl, g1, g2, m2⟩ | ⟨g, m2⟩
  · exact Or.inl ⟨t, by omega, rfl, fun σ => by rw [if_neg g1, if_neg (Int32.not_lt.mpr g2)], m2⟩
  · refine Or.inr ⟨fun σ => ?_, m2⟩
    by_cases g0 : p < 0
    · rw [if_pos g0]
    · rw [if_neg g0, if_pos]
      rcases g with g | g
      · exact absurd g g0
      · exact Int32.not_le.mp g
theorem n1 : ∀ n : Nat, n < 100 → ¬ nI n = -1 := by decide +kernel
theorem IS.set {σ τ : mx_G} (h : IS σ) {s : Nat} (hs : s < 4) (e : ∀ r : Nat, r < 4 → r ≠ s → τ.1 41 r = σ.1 41 r ∧ τ.1 51 r = σ.1 51 r ∧ τ.1 42 r = σ.1 42 r ∧ τ.1 52 r = σ.1 52 r ∧ ∀ j : Nat, j < 24 → τ.2 53 (24 * r + j) = σ.2 53 (24 * r + j) ∧ τ.2 43 (24 * r + j) = σ.2 43 (24 * r + j)) (hn : (τ.1 41 s = -1 ∧ τ.1 51 s = -4) ∨ ∃ l n : Nat, l ≤ 3 ∧ n ≤ 24 ∧ τ.1 41 s = nI l ∧ τ.1 51 s = nI l ∧ τ.1 42 s = nI n ∧ τ.1 52 s = nI n ∧ ∀ j : Nat, j < n → τ.2 53 (24 * s + j) = τ.2 43 (24 * s + j)) : IS τ := by
  intro r hr
  by_cases hrs : r = s
  · rw [hrs]; exact hn
  · obtain ⟨e1, e2, e3, e4, e5⟩ := e r hr hrs
    rw [e1, e2, e3, e4]
    rcases h r hr with z | ⟨l, n, a1, a2, a3, a4, a5, a6, a7⟩
    · exact Or.inl z
    · exact Or.inr ⟨l, n, a1, a2, a3, a4, a5, a6, fun j hj => by rw [(e5 j (by omega)).1, (e5 j (by omega)).2]; exact a7 j hj⟩
section ACT
variable {IC : Nat → mx_G → Prop}
/-- sheets alone change -/
theorem Inv.sheets (hC : ICok IC) {k : Nat} {σ τ : mx_G} (h : Inv IC k σ) (f1 : ∀ p : Nat, p ∉ [41, 42, 51, 52] → τ.1 p = σ.1 p) (f2 : ∀ p : Nat, p ∉ [43, 53] → τ.2 p = σ.2 p) (hs : IS τ) : Inv IC (k + 1) τ := by
  obtain ⟨h1, h2, h3, h4, h5, h6⟩ := h
  exact ⟨h1.of (f1 2 (by decide)) (f1 46 (by decide)), h2.of (f1 3 (by decide)) (f1 4 (by decide)) (f1 47 (by decide)) (by rw [f1 45 (by decide)]), h3.of (f1 0 (by decide)) (f1 6 (by decide)) (f1 7 (by decide)) (f1 8 (by decide)) (f1 48 (by decide)) (f1 49 (by decide)) (by rw [f1 45 (by decide)]), h4.of (by rw [f1 36 (by decide)]) (f1 37 (by decide)) (f1 50 (by decide)) (by rw [f1 45 (by decide)]), hs, hC k σ τ (fun p g1 g2 => ⟨f1 p (by simp; omega), f2 p (by simp; omega)⟩) h6⟩
theorem ok_drop (hC : ICok IC) : pv_drop (Inv IC) := by
  intro k σ p1 hk h
  unfold fX10_drop fX11_drop
  rcases sh_cases p1 with ⟨s, hs, rfl, x1, m1⟩ | ⟨x1, m1⟩
  · rcases h.2.2.2.2.1 s hs with ⟨a1, a2⟩ | ⟨l, n, l3, n24, a1, a2, a3, a4, a5⟩
    · refine pv_same hC h (-11) ?_ ?_
      · rw [x1 σ, bd_some, if_neg one_ne]
        unfold fX6_isMissing
        simp (disch := omega) only [ixT, if_true, clI, a1, bd_some]
        rw [if_neg one_ne]
      · show mv_bind (fX11_in _ 0 3 σ) _ = _
        rw [m1 σ, bd_some, if_neg one_ne]
        simp (disch := omega) only [ixT, if_true, clI, a2]
        rw [if_neg (by decide)]
    · refine ⟨nI n, gi (gi σ 41 s (-1)) 42 s (nI 0), gi (gi (gi σ 41 s (-1)) 42 s (nI 0)) 51 s (-4), ?_, ?_, ?_⟩
      · rw [x1 σ, bd_some, if_neg one_ne]
        have e : fX6_isMissing (nI s) σ = some (0, σ) := by
          unfold fX6_isMissing
          simp (disch := omega) only [ixT, if_true, clI, a1]
          rw [if_neg (n1 l (by omega))]
        rw [e, bd_some, if_pos rfl]
        simp (disch := omega) only [fX6_lengthOf, fX6_lose, ixT, if_true, clI, a3, bd_some, mv_let, li_0]
      · show mv_bind (fX11_in _ 0 3 _) _ = _
        rw [m1 _, bd_some, if_neg one_ne]
        simp (disch := omega) only [ixT, if_true, clI, rd_gi, Nat.reduceEqDiff, if_false, a2, mv_let, a4]
        rw [if_pos (nI_pos' (by omega))]
      · refine h.sheets hC (fun p hp => ?_) (fun p hp => rfl) (IS.set h.2.2.2.2.1 hs (fun r hr hrs => ?_) (Or.inl ?_))
        · have q : ∀ n : Nat, n ∈ [41, 42, 51, 52] → ¬ p = n := fun n hn z => hp (z ▸ hn)
          simp only [rd_gi, q 51 (by decide), q 42 (by decide), q 41 (by decide), if_false]
        · simp only [rd_gi, Nat.reduceEqDiff, if_false, if_true, upd_rd, hrs]
          exact ⟨trivial, trivial, trivial, trivial, fun _ _ => ⟨rfl, rfl⟩⟩
        · simp only [rd_gi, Nat.reduceEqDiff, if_false, if_true, upd_rd]
          exact ⟨trivial, trivial⟩
  · refine pv_same hC h (-1) ?_ ?_
    · rw [x1 σ, bd_some, if_pos rfl]
    · show mv_bind (fX11_in _ 0 3 σ) _ = _
      rw [m1 σ, bd_some, if_pos rfl]
/-- what both say of n items of a sheet from one on -/
theorem ref_found {σ τ : mx_G} (h : IS σ) {s l m : Nat} (i : Int32) (hs : s < 4) (hl : l ≤ 3) (hm : m ≤ 24) (e1 : τ.1 51 s = σ.1 51 s) (e2 : τ.1 52 s = σ.1 52 s) : ∃ r : Int32, fX6_refusal (nI s) (nI l) i (nI m) σ = some (r, σ) ∧ fX11_found (nI s) (nI l) i (nI m) τ = some (r, τ) ∧ (r = 0 → ∃ j n : Nat, i = nI j ∧ j + m ≤ n ∧ n ≤ 24 ∧ σ.1 41 s = nI l ∧ σ.1 51 s = nI l ∧ σ.1 42 s = nI n ∧ σ.1 52 s = nI n ∧ ∀ t : Nat, t < n → σ.2 53 (24 * s + t) = σ.2 43 (24 * s + t)) := by
  have x1 : fX6_isSheet (nI s) σ = some (1, σ) := by
    rcases sh_cases (nI s) with ⟨a, b, c, d, e⟩ | ⟨d, -⟩
    · exact d σ
    · exfalso
      have := d σ
      unfold fX6_isSheet at this
      rw [if_neg (by rw [li_0, ltI (by omega) (by omega)]; omega), if_neg (by rw [li_4, leI (by omega) (by omega)]; omega)] at this
      exact absurd (congrArg (fun q => q.map Prod.fst) this) (by simp)
  have x2 : fX6_isLane (nI l) σ = some (1, σ) := by
    unfold fX6_isLane
    rw [if_neg (by rw [li_0, ltI (by omega) (by omega)]; omega), if_neg (by rw [li_3, ltI (by omega) (by omega)]; omega)]
  unfold fX6_refusal fX11_found
  rw [x1, bd_some, if_neg one_ne, x2, bd_some, if_neg one_ne]
  rcases h s hs with ⟨a1, a2⟩ | ⟨l', n, l3, n24, a1, a2, a3, a4, a5⟩
  · refine ⟨-11, ?_, ?_, fun z => absurd z (by decide)⟩
    · unfold fX6_isMissing
      simp (disch := omega) only [ixT, if_true, clI, a1, bd_some]
      rw [if_neg one_ne]
    · simp (disch := omega) only [ixT, if_true, clI, e1, a2]
      rw [if_neg (by decide)]
  · have x3 : fX6_isMissing (nI s) σ = some (0, σ) := by
      unfold fX6_isMissing
      simp (disch := omega) only [ixT, if_true, clI, a1]
      rw [if_neg (n1 l' (by omega))]
    rw [x3, bd_some, if_pos rfl]
    simp (disch := omega) only [ixT, if_true, clI, a1, e1, a2, e2, a4]
    rw [if_pos (nI_pos' (by omega))]
    by_cases hll : l' = l
    · subst hll
      rw [if_pos rfl, if_pos rfl]
      unfold fX6_holds
      by_cases hi : i < 0
      · refine ⟨-13, ?_, ?_, fun z => absurd z (by decide)⟩
        · rw [if_pos hi, bd_some, if_pos rfl]
        · rw [if_pos hi]
      · rcases nI_ex i with z | ⟨j, hj, rfl⟩
        · exact absurd z hi
        rw [if_neg hi, if_neg hi, if_neg (by rw [li_0, ltI (by omega) (by omega)]; omega)]
        simp (disch := omega) only [ixT, if_true, clI, a3, ltI]
        have hle : (nI j ≤ nI n - nI m) = (j + m ≤ n) := by
          apply propext
          rw [Int32.le_iff_toInt_le, nI_toInt hj, pk_sub_toInt (by omega) (by omega)]
          omega
        simp only [hle]
        by_cases hjn : j + m ≤ n
        · refine ⟨0, ?_, ?_, fun _ => ⟨j, n, rfl, hjn, n24, trivial, trivial, rfl, rfl, a5⟩⟩
          · rw [if_neg (by omega), suI (by omega), if_neg (by rw [ltI (by omega) (by omega)]; omega), bd_some, if_neg one_ne]
          · rw [if_pos hjn]
        · refine ⟨-13, ?_, ?_, fun z => absurd z (by decide)⟩
          · by_cases hnj : n < j
            · rw [if_pos hnj, bd_some, if_pos rfl]
            · rw [if_neg hnj, suI (by omega), if_pos (by rw [ltI (by omega) (by omega)]; omega), bd_some, if_pos rfl]
          · rw [if_neg hjn]
    · have hne : ¬ nI l' = nI l := by rw [eqI (by omega) (by omega)]; exact hll
      refine ⟨-12, ?_, ?_, fun z => absurd z (by decide)⟩
      · rw [if_neg hne]
      · rw [if_neg hne]
end ACT
