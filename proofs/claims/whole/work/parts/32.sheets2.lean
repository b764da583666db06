/-! PURE PART: sheet, copy -/
theorem gt_self (s : mx_G) (p : Nat) : gt s p (s.2 p) = s := by
  unfold gt
  apply Prod.ext
  · rfl
  · funext q; show (if q = p then s.2 p else s.2 q) = s.2 q
    by_cases h : q = p
    · rw [if_pos h, h]
    · rw [if_neg h]
theorem gt_gt (s : mx_G) (p : Nat) (f g : Nat → Int64) : gt (gt s p f) p g = gt s p g := by
  unfold gt
  apply Prod.ext
  · rfl
  · funext q; show (if q = p then g else if q = p then f else s.2 q) = if q = p then g else s.2 q
    by_cases h : q = p
    · rw [if_pos h, if_pos h]
    · rw [if_neg h, if_neg h, if_neg h]
theorem gt_gl (s : mx_G) (p k : Nat) (x : Int64) (g : Nat → Int64) : gt (gl s p k x) p g = gt s p g := gt_gt s p _ g
theorem sx_fillLR_l (b : Nat) (hb : b ≤ 96) (v : Int64) : ∀ (m a f : Nat) (s : mx_G), a + m = b → lJA_fillLR_10 (nI b) v (m + 1 + f) (nI a) s = some ((), gt s 43 (fun t => if a ≤ t ∧ t < b then v else s.2 43 t)) := by
  intro m
  induction m with
  | zero =>
    intro a f s h
    rw [show 0 + 1 + f = f + 1 by omega, lJA_fillLR_10, if_pos (nI_le (by omega) (by omega))]
    rw [show (fun t => if a ≤ t ∧ t < b then v else s.2 43 t) = s.2 43 from funext fun t => if_neg (by omega), gt_self]
  | succ m ih =>
    intro a f s h
    rw [show m + 1 + 1 + f = (m + 1 + f) + 1 by omega, lJA_fillLR_10, if_neg (nI_ge (by omega) (by omega))]
    simp (disch := omega) only [adI, ixT, clI, if_true, li_1, mv_let]
    rw [ih (a + 1) f _ (by omega), gt_gl]
    congr 3
    funext t
    by_cases h1 : t = a
    · subst h1
      rw [if_neg (by omega), if_pos (by omega), rd_gl, if_pos rfl, updL_rd, if_pos rfl]
    · by_cases h2 : a ≤ t ∧ t < b
      · rw [if_pos (by omega), if_pos h2]
      · rw [if_neg (by omega), if_neg h2, rd_gl, if_pos rfl, updL_rd, if_neg h1]
theorem sx_fillLR (a b : Nat) (hab : a ≤ b) (hb : b ≤ 96) (v : Int64) (s : mx_G) : fJA_fillLR (nI a) (nI b) v s = some ((), gt s 43 (fun t => if a ≤ t ∧ t < b then v else s.2 43 t)) := by
  obtain ⟨f, hf⟩ := FU_lt (n := b - a) (by omega)
  unfold fJA_fillLR
  have e : fJA_rangeCheck 96 (nI a) (nI b) s = some ((), s) := by
    unfold fJA_rangeCheck
    simp (disch := omega) only [li_96, li_0, leI, ltI]
    rw [if_pos hab, if_pos (by omega), if_pos (by omega)]
  rw [e, bd_some, hf, sx_fillLR_l b hb v (b - a) a f s (by omega)]
theorem sm_sheet_l (q n : Nat) (hq : q < 4) (hn : n ≤ 24) : ∀ (m a f : Nat) (s : mx_G), a + m = n → lX11_sheet_40 (nI q) (nI n) (m + 1 + f) (nI a) s = some (nI n, gt s 53 (fun t => if 24 * q + a ≤ t ∧ t < 24 * q + n then 0 else s.2 53 t)) := by
  intro m
  induction m with
  | zero =>
    intro a f s h
    rw [show 0 + 1 + f = f + 1 by omega, lX11_sheet_40, if_pos (nI_le (by omega) (by omega))]
    rw [show (fun t => if 24 * q + a ≤ t ∧ t < 24 * q + n then 0 else s.2 53 t) = s.2 53 from funext fun t => if_neg (by omega), gt_self]
  | succ m ih =>
    intro a f s h
    rw [show m + 1 + 1 + f = (m + 1 + f) + 1 by omega, lX11_sheet_40, if_neg (nI_ge (by omega) (by omega))]
    simp (disch := omega) only [adI, muI, ixT, clI, if_true, li_1, li_24, mv_let]
    rw [ih (a + 1) f _ (by omega), gt_gl]
    congr 3
    funext t
    by_cases h1 : t = 24 * q + a
    · subst h1
      rw [if_neg (by omega), if_pos (by omega), rd_gl, if_pos rfl, updL_rd, if_pos rfl]
    · by_cases h2 : 24 * q + a ≤ t ∧ t < 24 * q + n
      · rw [if_pos (by omega), if_pos h2]
      · rw [if_neg (by omega), if_neg h2, rd_gl, if_pos rfl, updL_rd, if_neg h1]
section ACT
variable {IC : Nat → mx_G → Prop}
theorem ok_sheet (hC : ICok IC) : pv_sheet (Inv IC) := by
  intro k σ p1 p2 p3 hk h
  unfold fX10_sheet fX11_sheet
  rcases sh_cases p1 with ⟨s, hs, rfl, x1, m1⟩ | ⟨x1, m1⟩
  · rcases ln_cases p2 with ⟨l, hl, rfl, x2, m2⟩ | ⟨x2, m2⟩
    · have ms := fun τ => sm_isSheet (nI s) (nI l) true true m1 m2 τ
      by_cases g1 : p3 ≤ 24
      · by_cases g2 : 0 ≤ p3
        · rcases nI_ex p3 with z | ⟨n, hn, rfl⟩
          · exact absurd z (Int32.not_lt.mpr g2)
          have n24 : n ≤ 24 := by rwa [li_24, leI hn (by omega)] at g1
          obtain ⟨f, hf⟩ := FU_lt (n := n) (by omega)
          refine ⟨nI n, gt (gi (gi σ 41 s (nI l)) 42 s (nI n)) 43 (fun t => if s * 24 ≤ t ∧ t < (s + 1) * 24 then 0 else σ.2 43 t), gt (gi (gi (gt (gi (gi σ 41 s (nI l)) 42 s (nI n)) 43 (fun t => if s * 24 ≤ t ∧ t < (s + 1) * 24 then 0 else σ.2 43 t)) 51 s (nI l)) 52 s (nI n)) 53 (fun t => if 24 * s + 0 ≤ t ∧ t < 24 * s + n then 0 else σ.2 53 t), ?_, ?_, ?_⟩
          · rw [x1 σ, bd_some, if_neg one_ne, x2 σ, bd_some, if_neg one_ne, if_pos g1, if_pos g2]
            unfold fX6_renew
            simp (disch := omega) only [ixT, if_true, clI, li_24, muI, li_1, adI, mv_let, sx_fillLR, bd_some, rd_gi2]
          · show mv_bind (fX11_isSheet _ _ _) _ = _
            rw [ms, bd_some, if_neg (by decide), if_pos g1, if_pos g2]
            simp (disch := omega) only [ixT, if_true, clI, mv_let]
            rw [hf, li_0, sm_sheet_l s n hs n24 n 0 f _ (by omega)]
            simp only [rd_gi2, rd_gt, Nat.reduceEqDiff, if_false]
          · refine h.sheets hC (fun p hp => ?_) (fun p hp => ?_) (IS.set h.2.2.2.2.1 hs (fun r hr hrs => ?_) (Or.inr ⟨l, n, hl, n24, ?_, ?_, ?_, ?_, fun t ht => ?_⟩))
            · have q : ∀ n : Nat, n ∈ [41, 42, 51, 52] → ¬ p = n := fun n hn z => hp (z ▸ hn)
              simp only [rd_gt1, rd_gi, q 51 (by decide), q 52 (by decide), q 42 (by decide), q 41 (by decide), if_false]
            · have q : ∀ n : Nat, n ∈ [43, 53] → ¬ p = n := fun n hn z => hp (z ▸ hn)
              simp only [rd_gt, rd_gi2, q 43 (by decide), q 53 (by decide), if_false]
            · simp only [rd_gt1, rd_gi, Nat.reduceEqDiff, if_false, if_true, upd_rd, hrs, rd_gt, rd_gi2]
              refine ⟨trivial, trivial, trivial, trivial, fun t ht => ?_⟩
              rw [if_neg (by omega), if_neg (by omega)]
              exact ⟨rfl, rfl⟩
            · simp only [rd_gt1, rd_gi, Nat.reduceEqDiff, if_false, if_true, upd_rd]
            · simp only [rd_gt1, rd_gi, Nat.reduceEqDiff, if_false, if_true, upd_rd]
            · simp only [rd_gt1, rd_gi, Nat.reduceEqDiff, if_false, if_true, upd_rd]
            · simp only [rd_gt1, rd_gi, Nat.reduceEqDiff, if_false, if_true, upd_rd]
            · simp only [rd_gt, rd_gi2, Nat.reduceEqDiff, if_false, if_true]
              rw [if_pos (by omega), if_pos (by omega)]
        · refine pv_same hC h (-14) ?_ ?_
          · rw [x1 σ, bd_some, if_neg one_ne, x2 σ, bd_some, if_neg one_ne, if_pos g1, if_neg g2]
          · show mv_bind (fX11_isSheet _ _ _) _ = _
            rw [ms, bd_some, if_neg (by decide), if_pos g1, if_neg g2]
      · refine pv_same hC h (-1) ?_ ?_
        · rw [x1 σ, bd_some, if_neg one_ne, x2 σ, bd_some, if_neg one_ne, if_neg g1]
        · show mv_bind (fX11_isSheet _ _ _) _ = _
          rw [ms, bd_some, if_neg (by decide), if_neg g1]
    · refine pv_same hC h (-1) ?_ ?_
      · rw [x1 σ, bd_some, if_neg one_ne, x2 σ, bd_some, if_pos rfl]
      · show mv_bind (fX11_isSheet _ _ σ) _ = _
        rw [sm_isSheet (nI s) p2 true false m1 m2 σ, bd_some, if_pos (by decide)]
  · refine pv_same hC h (-1) ?_ ?_
    · rw [x1 σ, bd_some, if_pos rfl]
    · show mv_bind (fX11_isSheet _ _ σ) _ = _
      unfold fX11_isSheet
      rw [m1 σ, bd_some, if_pos rfl, bd_some, if_pos rfl]
end ACT
