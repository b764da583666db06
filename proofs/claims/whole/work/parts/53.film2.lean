/-! PURE PART: film -/
section ACT
variable {IC : Nat → mx_G → Prop}
theorem ok_film (hC : ICok IC) (hK : ICk IC) : pv_film (Inv IC) := by
  intro k σ p1 p2 p3 hk h
  obtain ⟨n2, n6, nx0, nm⟩ := h.n
  obtain ⟨w, hc, hv⟩ := chosen_ways h.1.2
  have hn : 0 < N (σ.1 2) 0 := by omega
  have hsz : fX9_size σ = some (nI (N (σ.1 2) 0), σ) := by
    unfold fX9_size
    simp (disch := omega) only [li_0, ixT, clI, if_true, nx0]
  have hx0 : ix 0 128 = true := by rw [li_0]; exact ixT (by omega) (by omega)
  have hz : Int32.toNatClampNeg 0 = 0 := by decide
  have en : nI (N (σ.1 2) 0) - 1 = nI (N (σ.1 2) 0 - 1) := by rw [li_1, suI (by omega)]
  unfold fX10_film fX11_film
  rcases sh_cases p1 with ⟨s, hs, rfl, x1, m1⟩ | ⟨x1, m1⟩
  · rcases ln_cases p2 with ⟨l, hl, rfl, x2, m2⟩ | ⟨x2, m2⟩
    · have ms := fun τ => sm_isSheet (nI s) (nI l) true true m1 m2 τ
      obtain ⟨r, g1, g2, g3⟩ := ref_found (τ := σ) h.2.2.2.2.1 (m := N (σ.1 2) 0 - 1) p3 hs hl (by omega) rfl rfl
      by_cases hr : r = 0
      · obtain ⟨j, ln, rfl, hj, hln, a1, a2, a3, a4, a5⟩ := g3 hr
        subst hr
        obtain ⟨s1, e1, hld, fr⟩ := sx_load hn n6 (s := σ) (w := w) (fun e he => ⟨hv e he, fun l hl => (hc.2 e he l hl).1⟩)
        have sc1 : Sc σ s1 := ⟨fun p hp => (fr p (fun z => hp (by revert z; simp [scr]; omega))).1, fun j _ _ _ => by rw [(fr 45 (by decide)).1], fun p hp => (fr p (fun z => hp (by revert z; simp [scr]; omega))).2⟩
        have hI1 := h.sck hK sc1
        have b41 : s1.1 41 s = nI l := by rw [(fr 41 (by decide)).1]; exact a1
        have b46 : s1.1 46 = σ.1 46 := (fr 46 (by decide)).1
        obtain ⟨f, hf⟩ := FU_lt (n := N (σ.1 2) 0 - 1) (by omega)
        have c1 := sx_film_l hld hn n6 hc hs hl (j := j) (by omega) b41 (N (σ.1 2) 0 - 1) 1 f (s1.2 43) (by omega) (by omega)
        rw [gt_self, ← hf] at c1
        have d53 : (gt s1 43 (fm w (s * 24 + j) (N (σ.1 2) 0) 1 (s1.2 43))).2 53 = s1.2 53 := by rw [rd_gt, if_neg (by decide)]
        have c2 := sm_film_l (S := gt s1 43 (fm w (s * 24 + j) (N (σ.1 2) 0) 1 (s1.2 43))) hn n6 hc (by rw [rd_gt1, b46]; exact nm) (fun e he => by rw [rd_gt1, b46, h.1.1.at (k := 121 + e) (i := 121 + e) (by omega) (by omega)]; exact hv e he) hs (j := j) (by omega) (fun s10 => if ix 0 128 = true then some ((s10.1 46 (Int32.toNatClampNeg 0)) - 1, s10) else none) (N (σ.1 2) 0 - 1) 1 f (s1.2 53) (by omega) (by omega)
        rw [← d53, gt_self, d53, ← hf] at c2
        refine ⟨nI (N (σ.1 2) 0 - 1), gt s1 43 (fm w (s * 24 + j) (N (σ.1 2) 0) 1 (s1.2 43)), gt (gt s1 43 (fm w (s * 24 + j) (N (σ.1 2) 0) 1 (s1.2 43))) 53 (fm w (24 * s + j) (N (σ.1 2) 0) 1 (s1.2 53)), ?_, ?_, ?_⟩
        · rw [hsz, bd_some, en, g1, bd_some, if_pos rfl, e1, bd_some, li_1, c1]
        · show mv_bind (fX11_isSheet (nI s) (nI l) _) _ = _
          obtain ⟨r', q1, q2, -⟩ := ref_found (τ := gt s1 43 (fm w (s * 24 + j) (N (σ.1 2) 0) 1 (s1.2 43))) h.2.2.2.2.1 (m := N (σ.1 2) 0 - 1) (nI j) hs hl (by omega) (by rw [rd_gt1, (fr 51 (by decide)).1]) (by rw [rd_gt1, (fr 52 (by decide)).1])
          rw [g1] at q1
          have hr' : (0 : Int32) = r' := congrArg Prod.fst (Option.some.inj q1)
          rw [ms, bd_some, if_neg (by decide), if_pos hx0, hz, rd_gt1, b46, nm, en, q2, bd_some, ← hr', if_pos rfl, li_1]
          rw [hz] at c2
          refine Eq.trans c2 ?_
          rw [if_pos hx0, rd_gt1, rd_gt1, b46, nm, en]
        · refine hI1.sheets hC (fun p hp => by rw [rd_gt1, rd_gt1]) (fun p hp => ?_) (IS.set hI1.2.2.2.2.1 hs (fun r hr hrs => ?_) (Or.inr ⟨l, ln, hl, hln, ?_, ?_, ?_, ?_, fun t ht => ?_⟩))
          · have q : ∀ n : Nat, n ∈ [43, 53] → ¬ p = n := fun n hn z => hp (z ▸ hn)
            rw [rd_gt, if_neg (q 53 (by decide)), rd_gt, if_neg (q 43 (by decide))]
          · refine ⟨rfl, rfl, rfl, rfl, fun t ht => ?_⟩
            simp only [rd_gt, Nat.reduceEqDiff, if_true, if_false]
            unfold fm
            rw [if_neg (by omega), if_neg (by omega)]
            exact ⟨rfl, rfl⟩
          · rw [rd_gt1, rd_gt1]; exact b41
          · rw [rd_gt1, rd_gt1, (fr 51 (by decide)).1]; exact a2
          · rw [rd_gt1, rd_gt1, (fr 42 (by decide)).1]; exact a3
          · rw [rd_gt1, rd_gt1, (fr 52 (by decide)).1]; exact a4
          · simp only [rd_gt, Nat.reduceEqDiff, if_true, if_false]
            rw [show s * 24 + j = 24 * s + j by omega, (fr 43 (by decide)).2, (fr 53 (by decide)).2]
            unfold fm
            by_cases z : 24 * s + j + 1 ≤ 24 * s + t + 1 ∧ 24 * s + t + 1 < 24 * s + j + N (σ.1 2) 0
            · rw [if_pos z, if_pos z]
            · rw [if_neg z, if_neg z]; exact a5 t ht
      · refine pv_same hC h r ?_ ?_
        · rw [hsz, bd_some, en, g1, bd_some, if_neg hr]
        · show mv_bind (fX11_isSheet (nI s) (nI l) σ) _ = _
          rw [ms, bd_some, if_neg (by decide), if_pos hx0, hz, nm, en, g2, bd_some, if_neg hr]
    · refine pv_same hC h (-1) ?_ ?_
      · unfold fX6_refusal
        rw [hsz, bd_some, x1 σ, bd_some, if_neg one_ne, x2 σ, bd_some, if_pos rfl, bd_some, if_neg (by decide)]
      · show mv_bind (fX11_isSheet _ _ σ) _ = _
        rw [sm_isSheet (nI s) p2 true false m1 m2 σ, bd_some, if_pos (by decide)]
  · refine pv_same hC h (-1) ?_ ?_
    · unfold fX6_refusal
      rw [hsz, bd_some, x1 σ, bd_some, if_pos rfl, bd_some, if_neg (by decide)]
    · show mv_bind (fX11_isSheet _ _ σ) _ = _
      unfold fX11_isSheet
      rw [m1 σ, bd_some, if_pos rfl, bd_some, if_pos rfl]
end ACT
