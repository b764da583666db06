/-! what is kept of the caches -/
def IC (k : Nat) (σ : mx_G) : Prop := ∃ v vr vs : Nat, v ≤ k ∧ vr ≤ v ∧ vs ≤ v ∧ σ.1 15 1 = nI v ∧ σ.1 25 3 = nI vr ∧ σ.1 31 0 = nI vs ∧ (0 < v → ∃ c, WOK c ∧ Ag (σ.1 16) c ∧ WC c (N c 0) σ ∧ (vr = v → RG c (N c 0) σ) ∧ (vs = v → RS c (N c 0) σ))
theorem WC.of {c : Nat → Int32} {n : Nat} {σ τ : mx_G} (hf : ∀ p : Nat, 15 ≤ p → p ≤ 33 → τ.1 p = σ.1 p ∧ τ.2 p = σ.2 p) (h : WC c n σ) : WC c n τ := by
  unfold WC WR PL RD at h ⊢
  rw [(hf 15 (by omega) (by omega)).1, (hf 17 (by omega) (by omega)).1, (hf 18 (by omega) (by omega)).1, (hf 19 (by omega) (by omega)).1, (hf 20 (by omega) (by omega)).1, (hf 21 (by omega) (by omega)).1, (hf 22 (by omega) (by omega)).1, (hf 23 (by omega) (by omega)).1, (hf 24 (by omega) (by omega)).1]
  exact h
theorem IC_of {k k' : Nat} (hk : k ≤ k') {σ τ : mx_G} (hf : ∀ p : Nat, 15 ≤ p → p ≤ 33 → τ.1 p = σ.1 p ∧ τ.2 p = σ.2 p) (h : IC k σ) : IC k' τ := by
  obtain ⟨v, vr, vs, h1, h2, h3, h4, h5, h6, h7⟩ := h
  refine ⟨v, vr, vs, by omega, h2, h3, by rw [(hf 15 (by omega) (by omega)).1]; exact h4, by rw [(hf 25 (by omega) (by omega)).1]; exact h5, by rw [(hf 31 (by omega) (by omega)).1]; exact h6, fun hv => ?_⟩
  obtain ⟨c, a1, a2, a3, a4, a5⟩ := h7 hv
  refine ⟨c, a1, by rw [(hf 16 (by omega) (by omega)).1]; exact a2, a3.of hf, fun z => ?_, fun z => ?_⟩
  · have := a4 z
    unfold RG at this ⊢
    rw [(hf 25 (by omega) (by omega)).1]
    exact this
  · have := a5 z
    unfold RS at this ⊢
    rw [(hf 31 (by omega) (by omega)).1, (hf 32 (by omega) (by omega)).1]
    exact this
theorem IC_ok : ICok IC := fun k σ τ hf h => IC_of (by omega) hf h
theorem IC_k : ICk IC := fun k σ τ hf h => IC_of (Nat.le_refl _) hf h
