/-! PURE PART: rest -/
section ACT
variable {IC : Nat → mx_G → Prop}
theorem ok_rest (hC : ICok IC) (hK : ICk IC) : pv_rest (Inv IC) := by
  intro k σ hk h
  obtain ⟨n2, n6, nx0, nm⟩ := h.n
  obtain ⟨w, hc, hv⟩ := chosen_ways h.1.2
  have hn : 0 < N (σ.1 2) 0 := by omega
  have hv46 : ∀ e, e < 6 → σ.1 46 (121 + e) = val (w e) := fun e he => by
    rw [h.1.1.at (k := 121 + e) (i := 121 + e) (by omega) (by omega)]; exact hv e he
  obtain ⟨s1, e1, hl, fr⟩ := sx_discontent h.1.2 nx0 hn n6 hc hv
  have q2 : s1.1 2 = σ.1 2 := (fr 2 (by decide)).1
  have sc1 : Sc σ s1 := ⟨fun p hp => (fr p (fun z => hp (by revert z; simp [scr]; omega))).1, fun j _ _ _ => by rw [(fr 45 (by decide)).1], fun p hp => (fr p (fun z => hp (by revert z; simp [scr]; omega))).2⟩
  have hI1 := h.sck hK sc1
  have hb := dc_lt (σ.1 2) w (N (σ.1 2) 0) (N (σ.1 2) 0)
  have hp := pow_le64 (N (σ.1 2) 0) (by omega)
  have ref : ∀ τ : mx_G, τ.1 46 = σ.1 46 → ∃ τ', fX11_thinks τ = some ((), τ') ∧ τ'.1 46 = σ.1 46 ∧ (∀ p, p ≠ 56 → τ'.1 p = τ.1 p) ∧ τ'.2 = τ.2 ∧ fX11_notContent τ' = some (nI (dc (σ.1 2) w (N (σ.1 2) 0) (N (σ.1 2) 0)), τ') := by
    intro τ hτ
    have t46 : (gs τ 56 (va_cpy (τ.1 46) (τ.1 56) 121 0 6)).1 46 = σ.1 46 := by rw [gs_rdn _ (by decide)]; exact hτ
    refine ⟨_, sm_thinks τ, t46, fun p hp => gs_rdn _ hp _, rfl, ?_⟩
    refine sm_notContent (by rw [t46]; exact h.1.1) h.1.2 (by rw [t46]; exact nm) hn n6 hc (fun e he => ?_)
    rw [thinks_rd τ he, hτ]
    exact hv46 e he
  by_cases hz : dc (σ.1 2) w (N (σ.1 2) 0) (N (σ.1 2) 0) = 0
  · have s46 : s1.1 46 = σ.1 46 := (fr 46 (by decide)).1
    obtain ⟨τ', b1, b2, b3, b4, b5⟩ := ref s1 s46
    have sc3 : Sc s1 τ' := ⟨fun p hp => b3 p (fun z => hp (by rw [z]; decide)), fun j _ _ _ => by rw [b3 45 (by decide)], fun p _ => by rw [b4]⟩
    refine ⟨0, s1, τ', ?_, ?_, h.sc hC (sc1.trans sc3)⟩
    · unfold fX10_rest
      rw [e1, bd_some, hz, if_pos (show nI 0 = 0 from rfl)]
    · show fX11_rest s1 = _
      unfold fX11_rest
      rw [b1, bd_some, b5, bd_some, hz, if_pos (show nI 0 = 0 from rfl)]
  · have hz' : ¬ nI (dc (σ.1 2) w (N (σ.1 2) 0) (N (σ.1 2) 0)) = 0 := by rw [li_0, eqI (by omega) (by omega)]; exact hz
    obtain ⟨f, hf⟩ := FU_lt (n := 40) (by omega)
    obtain ⟨σ1, k1, k2, k3, act⟩ := hI1.act hC
    have k22 : σ1.1 2 = σ.1 2 := k2.trans q2
    obtain ⟨r, c', hW', iX, iM⟩ := rest_l 40 1 (σ.1 2) h.1.2 (by omega)
    obtain ⟨s2, a1, a2, a3, a4⟩ := iX f σ1 k22
    rw [← hf] at a1
    have s46 : s2.1 46 = σ.1 46 := (a3 46 (by decide)).trans ((k3 46 (by decide)).trans (fr 46 (by decide)).1)
    obtain ⟨τ', b1, b2, b3, b4, b5⟩ := ref s2 s46
    have sc3 : Sc s2 τ' := ⟨fun p hp => b3 p (fun z => hp (by rw [z]; decide)), fun j _ _ _ => by rw [b3 45 (by decide)], fun p _ => by rw [b4]⟩
    obtain ⟨τ1, f1, f46, fin⟩ := act s2 (fun p hp => ⟨a3 p (fun z => hp (by revert z; simp [scX]; omega)), a4 p (fun z => hp (by revert z; simp [scX]; omega))⟩) (by rw [a2]; exact hW') τ' sc3
    have t46 : τ1.1 46 = σ.1 46 := f46.trans (fr 46 (by decide)).1
    obtain ⟨τ2, c1, c2, c4⟩ := iM f τ1 (by rw [t46]; exact h.1.1)
    rw [← hf] at c1
    refine ⟨r, s2, τ2, ?_, ?_, ?_⟩
    · unfold fX10_rest
      rw [e1, bd_some, if_neg hz', k1, bd_some, li_1, a1]
    · show fX11_rest s2 = _
      unfold fX11_rest
      rw [b1, bd_some, b5, bd_some, if_neg hz', f1, bd_some, li_1, c1]
    · refine fin _ (fun p hp hp5 => c4 p (fun z => hp (by revert z; simp [scM]; omega))) (fun j _ _ _ => by rw [(c4 45 (by decide)).1]) (c4 45 (by decide)).2 ?_
      rw [a2]
      exact c2
end ACT
