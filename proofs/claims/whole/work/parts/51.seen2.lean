/-! PURE PART: seen -/
section ACT
variable {IC : Nat → mx_G → Prop}
theorem ok_seen (hC : ICok IC) : pv_seen (Inv IC) := by
  intro k σ p1 hk h
  obtain ⟨n2, n6, nx0, nm⟩ := h.n
  obtain ⟨w, hc, hv⟩ := chosen_ways h.1.2
  unfold fX10_seen fX11_seen
  rcases dom_cases _ n2 n6 p1 with ⟨d, hd, rfl, x1, m1⟩ | ⟨x1, m1⟩
  · obtain ⟨f, hf⟩ := FU_lt (n := 4) (by omega)
    obtain ⟨r, hr, iX, iM⟩ := seen_l h.1.2 hc hv (show d < 6 by omega) 4 0 0 (by omega) (by decide)
    have hm : fX9_mannerOf (nI d) σ = some (σ.1 2 (1 + d), σ) := by
      unfold fX9_mannerOf
      simp (disch := omega) only [li_1, adI, ixT, clI, if_true]
    obtain ⟨s1, y, a1, a2, a3, a4⟩ := iX f (σ.1 2 (1 + d)) (fun y10 s9 => mv_bind (fX9_setManner (nI d) (σ.1 2 (1 + d)) s9) fun _ s11 => some (y10, s11)) σ (σ.1 2 (1 + d)) (upd_self _ rfl).symm
    rw [← hf] at a1
    have w2 : (gi s1 2 (1 + d) (σ.1 2 (1 + d))).1 2 = σ.1 2 := by rw [rd_gi, if_pos rfl, a2, upd_upd, upd_self _ rfl]
    have sc1 : Sc σ (gi s1 2 (1 + d) (σ.1 2 (1 + d))) := by
      refine ⟨fun p hp => ?_, fun j _ _ _ => by rw [rd_gi, if_neg (by decide), a3 45 (by decide)], fun p hp => by rw [rd_gi2]; exact a4 p (fun z => hp (by revert z; simp [scr]; omega))⟩
      by_cases hp2 : p = 2
      · rw [hp2]; exact w2
      · rw [rd_gi, if_neg hp2]; exact a3 p (fun z => hp (by revert z; simp [scr]; omega))
    generalize hσ2 : gi s1 2 (1 + d) (σ.1 2 (1 + d)) = σ2 at sc1
    have t46 : σ2.1 46 = σ.1 46 := sc1.1 46 (by decide)
    have m9 : σ.1 46 (109 + d) = σ.1 2 (1 + d) := h.1.1.at (by omega) (by omega)
    have th := sm_thinks σ2
    generalize hτ : gs σ2 56 (va_cpy (σ2.1 46) (σ2.1 56) 121 0 6) = τ at th
    have u46 : τ.1 46 = σ.1 46 := by rw [← hτ, gs_rdn _ (by decide)]; exact t46
    obtain ⟨τ1, y2, b1, b2, b3, b4⟩ := iM f (σ.1 2 (1 + d)) (fun y11 s10 => if ix (nI (109 + d)) 128 = true then mv_let (gi s10 46 (109 + d) (σ.1 2 (1 + d))) fun s12 => some (y11, s12) else none) τ τ (σ.1 2 (1 + d)) (by rw [u46]; exact h.1.1) (upd_self _ (by rw [u46]; exact m9)).symm (fun e he => by
      rw [← hτ, thinks_rd σ2 he, t46, h.1.1.at (k := 121 + e) (i := 121 + e) (by omega) (by omega)]; exact hv e he)
    rw [← hf] at b1
    have sc2 : Sc σ2 (gi τ1 46 (109 + d) (σ.1 2 (1 + d))) := by
      refine ⟨fun p hp => ?_, fun j _ _ _ => ?_, fun p hp => ?_⟩
      · by_cases hp2 : p = 46
        · rw [hp2, rd_gi, if_pos rfl, b2, upd_upd, u46, upd_self _ m9, t46]
        · rw [rd_gi, if_neg hp2, b3 p (by simpa using hp2), ← hτ, gs_rdn _ (fun z => hp (by rw [z]; decide))]
      · rw [rd_gi, if_neg (by decide), b3 45 (by decide), ← hτ, gs_rdn _ (by decide)]
      · rw [rd_gi2]
        rw [b4, ← hτ]; rfl
    refine ⟨nI r, σ2, gi τ1 46 (109 + d) (σ.1 2 (1 + d)), ?_, ?_, h.sc hC (sc1.trans sc2)⟩
    · rw [x1 σ nx0, bd_some, if_neg one_ne, hm, bd_some]
      refine Eq.trans a1 ?_
      unfold fX9_setManner
      simp (disch := omega) only [li_1, adI, ixT, clI, if_true, mv_let, bd_some, hσ2]
    · show mv_bind (fX11_isDomain (nI d) σ2) _ = _
      rw [m1 σ2 (by rw [t46]; exact nm), bd_some, if_neg one_ne]
      simp (disch := omega) only [li_109, adI, clI, mv_let]
      rw [ixT (by omega) (by omega), if_pos rfl, t46, m9, th, bd_some]
      simp (disch := omega) only [ixT, if_true] at b1 ⊢
      exact b1
  · refine pv_same hC h (-1) ?_ ?_
    · rw [x1 σ nx0, bd_some, if_pos rfl]
    · show mv_bind (fX11_isDomain p1 σ) _ = _
      rw [m1 σ nm, bd_some, if_pos rfl]
end ACT
