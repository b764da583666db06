/-! PURE PART: turn -/
section ACT
variable {IC : Nat → mx_G → Prop}
theorem cw_rd (c : Nat → Int32) (w : Nat → Option (List Nat)) {e : Nat} (he : e < 6) : cw c w (121 + e) = val (w e) := by
  unfold cw; rw [if_pos (by omega), show 121 + e - 121 = e by omega]
theorem cw_self {c : Nat → Int32} {w : Nat → Option (List Nat)} (h : ∀ e, e < 6 → c (121 + e) = val (w e)) : cw c w = c := by
  funext j
  unfold cw
  by_cases z : 121 ≤ j ∧ j < 127
  · rw [if_pos z, ← h (j - 121) (by omega), show 121 + (j - 121) = j by omega]
  · rw [if_neg z]
theorem dc_zero {c : Nat → Int32} {w : Nat → Option (List Nat)} {n : Nat} : ∀ d : Nat, d ≤ 6 → dc c w n d = 0 → (∀ e, e < d → val (nx c w n e) = val (w e)) ∧ cc c w n d = 0 := by
  intro d
  induction d with
  | zero => intro _ _; exact ⟨fun e he => absurd he (by omega), rfl⟩
  | succ d ih =>
    intro hd h
    rw [dc] at h
    by_cases hx : val (nx c w n d) = val (w d)
    · rw [if_pos hx] at h
      obtain ⟨g1, g2⟩ := ih (by omega) h
      refine ⟨fun e he => ?_, by rw [cc, if_pos hx]; exact g2⟩
      by_cases z : e = d
      · rw [z]; exact hx
      · exact g1 e (by omega)
    · rw [if_neg hx] at h
      have h1 : 0 < 2 ^ d := Nat.pow_pos (by omega)
      have h2 : 2 ^ d ≤ dc c w n d ||| 2 ^ d := Nat.right_le_or
      omega
theorem ok_turn (hC : ICok IC) (hK : ICk IC) : pv_turn (Inv IC) := by
  intro k σ hk h
  obtain ⟨n2, n6, nx0, nm⟩ := h.n
  obtain ⟨w, hc, hv⟩ := chosen_ways h.1.2
  have hn : 0 < N (σ.1 2) 0 := by omega
  have hv46 : ∀ e, e < 6 → σ.1 46 (121 + e) = val (w e) := fun e he => by
    rw [h.1.1.at (k := 121 + e) (i := 121 + e) (by omega) (by omega)]; exact hv e he
  obtain ⟨s1, e1, hl, fr⟩ := sx_discontent h.1.2 nx0 hn n6 hc hv
  have q2 : s1.1 2 = σ.1 2 := (fr 2 (by decide)).1
  have sc1 : Sc σ s1 := ⟨fun p hp => (fr p (fun z => hp (by revert z; simp [scr]; omega))).1, fun j _ _ _ => by rw [(fr 45 (by decide)).1], fun p hp => (fr p (fun z => hp (by revert z; simp [scr]; omega))).2⟩
  have hI1 := h.sck hK sc1
  have hb := dc_lt (σ.1 2) w (N (σ.1 2) 0) (N (σ.1 2) 0)
  have hp := pow_le64 (N (σ.1 2) 0) (by omega)
  have ref : ∀ τ : mx_G, τ.1 46 = σ.1 46 → ∃ τ', fX11_thinks τ = some ((), τ') ∧ τ'.1 46 = σ.1 46 ∧ (∀ p, p ≠ 56 → τ'.1 p = τ.1 p) ∧ τ'.2 = τ.2 ∧ fX11_notContent τ' = some (nI (dc (σ.1 2) w (N (σ.1 2) 0) (N (σ.1 2) 0)), τ') := by
    intro τ hτ
    have t46 : (gs τ 56 (va_cpy (τ.1 46) (τ.1 56) 121 0 6)).1 46 = σ.1 46 := by rw [gs_rdn _ (by decide)]; exact hτ
    refine ⟨_, sm_thinks τ, t46, fun p hp => gs_rdn _ hp _, rfl, ?_⟩
    refine sm_notContent (by rw [t46]; exact h.1.1) h.1.2 (by rw [t46]; exact nm) hn n6 hc (fun e he => ?_)
    rw [thinks_rd τ he, hτ]
    exact hv46 e he
  by_cases hz : dc (σ.1 2) w (N (σ.1 2) 0) (N (σ.1 2) 0) = 0
  · obtain ⟨g1, g2⟩ := dc_zero _ n6 hz
    obtain ⟨s2, a1, a2, a3, a4⟩ := sx_turnAll (s := s1) (by rw [q2]; exact h.1.2) (by rw [q2]; exact nx0) hn n6 hc (fun e he => by rw [q2]; exact hv e he)
    rw [q2] at a1 a2
    have w2 : s2.1 2 = s1.1 2 := by
      rw [a2, q2]
      refine cw_self (fun e he => ?_)
      rw [hv e he]
      unfold mix
      by_cases z : e < N (σ.1 2) 0
      · rw [if_pos z]; exact (g1 e z).symm
      · rw [if_neg z]
    have sc2 : Sc s1 s2 := by
      refine ⟨fun p hp => ?_, fun j _ _ _ => by rw [a3 45 (by decide)], fun p hp => a4 p (fun z => hp (by revert z; simp [scr]; omega))⟩
      by_cases hp2 : p = 2
      · rw [hp2]; exact w2
      · exact a3 p (fun z => hp (by revert z; simp [scr]; omega))
    have s46 : s2.1 46 = σ.1 46 := (a3 46 (by decide)).trans (fr 46 (by decide)).1
    obtain ⟨τ', b1, b2, b3, b4, b5⟩ := ref s2 s46
    have sc3 : Sc s2 τ' := ⟨fun p hp => b3 p (fun z => hp (by rw [z]; decide)), fun j _ _ _ => by rw [b3 45 (by decide)], fun p _ => by rw [b4]⟩
    refine ⟨0, s2, τ', ?_, ?_, h.sc hC (sc1.trans (sc2.trans sc3))⟩
    · unfold fX10_turn
      rw [e1, bd_some, hz, if_pos (show nI 0 = 0 from rfl), a1, bd_some, g2]; rfl
    · show fX11_turn s2 = _
      unfold fX11_turn
      rw [b1, bd_some, b5, bd_some, hz, if_pos (show nI 0 = 0 from rfl)]
  · have hz' : ¬ nI (dc (σ.1 2) w (N (σ.1 2) 0) (N (σ.1 2) 0)) = 0 := by rw [li_0, eqI (by omega) (by omega)]; exact hz
    obtain ⟨σ1, k1, k2, k3, act⟩ := hI1.act hC
    have k22 : σ1.1 2 = σ.1 2 := k2.trans q2
    obtain ⟨s2, a1, a2, a3, a4⟩ := sx_turnAll (s := σ1) (by rw [k22]; exact h.1.2) (by rw [k22]; exact nx0) hn n6 hc (fun e he => by rw [k22]; exact hv e he)
    rw [k22] at a1 a2
    have s46 : s2.1 46 = σ.1 46 := (a3 46 (by decide)).trans ((k3 46 (by decide)).trans (fr 46 (by decide)).1)
    obtain ⟨τ', b1, b2, b3, b4, b5⟩ := ref s2 s46
    have sc3 : Sc s2 τ' := ⟨fun p hp => b3 p (fun z => hp (by rw [z]; decide)), fun j _ _ _ => by rw [b3 45 (by decide)], fun p _ => by rw [b4]⟩
    have hok := mix_ok h.1.2 hn n6 hc
    obtain ⟨τ1, f1, f46, fin⟩ := act s2 (fun p hp => ⟨a3 p (fun z => hp (by revert z; simp [scX]; omega)), a4 p (fun z => hp (by revert z; simp [scX]; omega))⟩) (by rw [a2]; exact h.1.2.turned hok) τ' sc3
    have t46 : τ1.1 46 = σ.1 46 := f46.trans (fr 46 (by decide)).1
    obtain ⟨τ2, c1, c2, c3, c4⟩ := sm_turnsOnce (s := τ1) (c := σ.1 2) (by rw [t46]; exact h.1.1) h.1.2 (by rw [t46]; exact nm) hn n6 hc (fun e he => by rw [t46]; exact hv46 e he)
    rw [t46] at c2
    refine ⟨nI (cc (σ.1 2) w (N (σ.1 2) 0) (N (σ.1 2) 0)), s2, τ2, ?_, ?_, ?_⟩
    · unfold fX10_turn
      rw [e1, bd_some, if_neg hz', k1, bd_some, a1, bd_some]
    · show fX11_turn s2 = _
      unfold fX11_turn
      rw [b1, bd_some, b5, bd_some, if_neg hz', f1, bd_some, c1, bd_some]
    · refine fin _ (fun p hp hp5 => c4 p (fun z => hp (by revert z; simp [scM]; omega))) (fun j _ _ _ => by rw [(c4 45 (by decide)).1]) (c4 45 (by decide)).2 ?_
      rw [a2, c2]
      exact h.1.1.turned _
end ACT
