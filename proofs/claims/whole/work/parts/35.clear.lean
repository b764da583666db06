/-! PURE PART: the set of those that have chosen; forgetting; clear -/
theorem gi_gs (s : mx_G) (p k : Nat) (x : Int32) : gi s p k x = gs s p (upd (s.1 p) k x) := nrfl rfl
theorem gs_rd (s : mx_G) (p : Nat) (f : Nat → Int32) : (gs s p f).1 p = f := by rw [rd_gs, if_pos rfl]
theorem gi_of (s : mx_G) (p k : Nat) (f : Nat → Int32) (x : Int32) : gi (gs s p f) p k x = gs s p (upd f k x) := by rw [gi_gs, gs_rd, gs_gs]
/-- nothing chosen but by 0 -/
def fg (c : Nat → Int32) (j : Nat) : Int32 := if 122 ≤ j ∧ j < 127 then -4 else c j
theorem fg_l : ∀ (m a : Nat) (c g : Nat → Int32), a + m = 6 → 1 ≤ a → (∀ j, g j = if 122 ≤ j ∧ j < 121 + a then -4 else c j) → ∀ (f : Nat) (s : mx_G), lX9_forgetChosen_2 (m + 1 + f) (nI a) (gs s 2 g) = some ((), gs s 2 (fg c)) := by
  intro m
  induction m with
  | zero =>
    intro a c g h h1 hg f s
    rw [show 0 + 1 + f = f + 1 by omega, lX9_forgetChosen_2, if_pos (by rw [li_6, leI (by omega) (by omega)]; omega)]
    have : g = fg c := by
      funext j; rw [hg, fg, show 121 + a = 127 by omega]
    rw [this]
  | succ m ih =>
    intro a c g h h1 hg f s
    rw [show m + 1 + 1 + f = (m + 1 + f) + 1 by omega, lX9_forgetChosen_2, if_neg (by rw [li_6, leI (by omega) (by omega)]; omega)]
    simp (disch := omega) only [fX9_setChosen, li_121, adI, ixT, clI, if_true, mv_let, bd_some, gi_of, li_1]
    refine ih (a + 1) c _ (by omega) (by omega) (fun j => ?_) f s
    rw [upd_rd, hg]
    by_cases e : j = 121 + a
    · rw [if_pos e, if_pos (by omega)]
    · rw [if_neg e]
      by_cases e2 : 122 ≤ j ∧ j < 121 + a
      · rw [if_pos e2, if_pos (by omega)]
      · rw [if_neg e2, if_neg (by omega)]
theorem sx_forgetChosen (s : mx_G) : fX9_forgetChosen s = some ((), gs s 2 (fg (s.1 2))) := by
  obtain ⟨f, hf⟩ := FU_lt (n := 5) (by omega)
  unfold fX9_forgetChosen
  have e := fg_l 5 1 (s.1 2) (s.1 2) (by omega) (by omega) (fun j => by rw [if_neg (by omega)]) f s
  rw [gs_self] at e
  rw [hf, li_1, e]
theorem fg_m (r : Int32) : ∀ (m a : Nat) (c g : Nat → Int32), a + m = 6 → 1 ≤ a → (∀ j, g j = if 122 ≤ j ∧ j < 121 + a then -4 else c j) → ∀ (f : Nat) (s : mx_G), lX11_clear_55 r (m + 1 + f) (nI a) (gs s 46 g) = some (r, gs s 46 (fg c)) := by
  intro m
  induction m with
  | zero =>
    intro a c g h h1 hg f s
    rw [show 0 + 1 + f = f + 1 by omega, lX11_clear_55, if_pos (by rw [li_6, leI (by omega) (by omega)]; omega)]
    have : g = fg c := by
      funext j; rw [hg, fg, show 121 + a = 127 by omega]
    rw [this]
  | succ m ih =>
    intro a c g h h1 hg f s
    rw [show m + 1 + 1 + f = (m + 1 + f) + 1 by omega, lX11_clear_55, if_neg (by rw [li_6, leI (by omega) (by omega)]; omega)]
    simp (disch := omega) only [li_121, adI, ixT, clI, if_true, mv_let, bd_some, gi_of, li_1]
    refine ih (a + 1) c _ (by omega) (by omega) (fun j => ?_) f s
    rw [upd_rd, hg]
    by_cases e : j = 121 + a
    · rw [if_pos e, if_pos (by omega)]
    · rw [if_neg e]
      by_cases e2 : 122 ≤ j ∧ j < 121 + a
      · rw [if_pos e2, if_pos (by omega)]
      · rw [if_neg e2, if_neg (by omega)]
theorem WOK.forget {c : Nat → Int32} (h : WOK c) : WOK (fg c) := by
  have hR : ∀ k, (k < 122 ∨ k = 127) → fg c k = c k := fun k hk => by unfold fg; rw [if_neg (by omega)]
  have hN : ∀ k, (k < 122 ∨ k = 127) → N (fg c) k = N c k := fun k hk => by unfold N; rw [hR k hk]
  obtain ⟨h1, h2, h3, h4, h5, h6, h7⟩ := h
  refine ⟨by rw [hN 0 (by omega)]; exact h1, fun k hk => by rw [hR k (by omega), hN k (by omega)]; exact h2 k hk, by rw [hR 127 (by omega), hN 127 (by omega)]; exact h3, fun d hd => by rw [hN _ (by omega), hN _ (by omega)]; exact h4 d hd, fun a b ha hb => ?_, by rw [hR 121 (by omega)]; exact h6, fun d hd hd6 => ?_⟩
  · rw [hN _ (by omega), hN _ (by omega), hN _ (by omega), hN _ (by omega), hN _ (by omega), hN 0 (by omega)]
    exact h5 a b ha hb
  · have e : fg c (121 + d) = -4 := by unfold fg; rw [if_pos (by omega)]
    rw [e]
    exact ⟨fun _ => rfl, fun _ => Or.inl rfl⟩
theorem RW.forget {f c : Nat → Int32} (h : RW f c) : RW (fg f) (fg c) := by
  intro j hj
  unfold fg
  have e : (122 ≤ pi j ∧ pi j < 127) ↔ (122 ≤ j ∧ j < 127) := by
    unfold pi
    split <;> (try split) <;> (try split) <;> omega
  by_cases z : 122 ≤ j ∧ j < 127
  · rw [if_pos z, if_pos (e.mpr z)]
  · rw [if_neg z, if_neg (fun q => z (e.mp q))]; exact h j hj
/-- the set of the choosers below m, and how many -/
def chN (c : Nat → Int32) : Nat → Nat
  | 0 => 0
  | d + 1 => if c (121 + d) = -4 then chN c d else chN c d ||| 2 ^ d
def chC (c : Nat → Int32) : Nat → Nat
  | 0 => 0
  | d + 1 => if c (121 + d) = -4 then chC c d else chC c d + 1
theorem or_n : ∀ a : Nat, a < 64 → ∀ b : Nat, b < 64 → nI a ||| nI b = nI (a ||| b) := by decide +kernel
theorem chN_lt (c : Nat → Int32) : ∀ d : Nat, chN c d < 2 ^ d := by
  intro d
  induction d with
  | zero => exact Nat.one_pos
  | succ d ih =>
    have h2 : 2 ^ d < 2 ^ (d + 1) := Nat.pow_lt_pow_right (by omega) (by omega)
    rw [chN]
    split
    · omega
    · exact Nat.or_lt_two_pow (by omega) h2
def bC (p0 : Int32) : Int32 :=
  mv_let (p0 - ((mv_ushr p0 1) &&& 1431655765)) fun x1 =>
  mv_let ((x1 &&& 858993459) + ((mv_ushr x1 2) &&& 858993459)) fun x2 =>
  mv_let ((x2 + (mv_ushr x2 4)) &&& 252645135) fun x3 =>
  mv_let (x3 + (mv_ushr x3 8)) fun x4 =>
  mv_let (x4 + (mv_ushr x4 16)) fun x5 =>
  x5 &&& 63
theorem sx_bitCount (x : Int32) (s : mx_G) : fJI_bitCount x s = some (bC x, s) := nrfl rfl
theorem bC_or : ∀ d : Nat, d < 6 → ∀ x : Nat, x < 2 ^ d → bC (nI (x ||| 2 ^ d)) = bC (nI x) + nI 1 := by decide +kernel
theorem bC_ch (c : Nat → Int32) : ∀ d : Nat, d ≤ 6 → bC (nI (chN c d)) = nI (chC c d) := by
  intro d
  induction d with
  | zero => intro _; exact (by decide +kernel : bC (nI 0) = nI 0)
  | succ d ih =>
    intro hd
    rw [chN, chC]
    by_cases h : c (121 + d) = -4
    · rw [if_pos h, if_pos h]; exact ih (by omega)
    · rw [if_neg h, if_neg h, bC_or d (by omega) _ (chN_lt c d), ih (by omega), adI]
theorem sx_choosers_l (c : Nat → Int32) (n : Nat) (h6 : n ≤ 6) (h0 : c 0 = nI n) : ∀ (m d f : Nat) (s : mx_G), s.1 2 = c → d + m = n → lX9_choosers_4 (m + 1 + f) (nI (chN c d)) (nI d) s = some (nI (chN c n), s) := by
  intro m
  induction m with
  | zero =>
    intro d f s hs h
    rw [show 0 + 1 + f = f + 1 by omega, lX9_choosers_4]
    simp (disch := omega) only [li_0, ixT, clI, if_true, hs, h0]
    rw [if_pos (nI_le (by omega) (by omega)), show d = n by omega]
  | succ m ih =>
    intro d f s hs h
    have hp := pow_le64 d (by omega)
    have hp2 : 2 ^ d < 64 := by have : 2 ^ d ≤ 2 ^ 5 := Nat.pow_le_pow_right (by omega) (by omega); omega
    have hc := chN_lt c d
    rw [show m + 1 + 1 + f = (m + 1 + f) + 1 by omega, lX9_choosers_4]
    simp (disch := omega) only [li_0, ixT, clI, if_true, hs, h0]
    rw [if_neg (nI_ge (by omega) (by omega))]
    simp (disch := omega) only [fX9_chosenBy, li_121, adI, ixT, clI, if_true, bd_some, hs, mv_let, shl_n, li_1]
    by_cases hx : c (121 + d) = -4
    · rw [if_pos hx]
      have := ih (d + 1) f s hs (by omega)
      rw [chN, if_pos hx] at this
      exact this
    · rw [if_neg hx, ← li_1, shl_n d (by omega), or_n _ (by omega) _ hp2]
      have := ih (d + 1) f s hs (by omega)
      rw [chN, if_neg hx] at this
      exact this
theorem sx_choosers {s : mx_G} {n : Nat} (h6 : n ≤ 6) (h0 : s.1 2 0 = nI n) : fX9_choosers s = some (nI (chN (s.1 2) n), s) := by
  obtain ⟨f, hf⟩ := FU_lt (n := n) (by omega)
  unfold fX9_choosers
  rw [hf]
  exact sx_choosers_l (s.1 2) n h6 h0 n 0 f s rfl (by omega)
theorem chC_pos {c : Nat → Int32} (h : c 121 = nI 0) : ∀ d : Nat, 1 ≤ d → 1 ≤ chC c d ∧ chC c d ≤ d := by
  intro d
  induction d with
  | zero => intro z; omega
  | succ d ih =>
    intro _
    rw [chC]
    by_cases hd : d = 0
    · subst hd
      rw [if_neg (by rw [h]; decide)]
      exact ⟨by omega, by show 0 + 1 ≤ 1; omega⟩
    · have := ih (by omega)
      split <;> omega
theorem sm_clear_l (c g : Nat → Int32) (n : Nat) (h6 : n ≤ 6) (h0 : g 0 = nI n) (hg : ∀ d, d < 6 → g (121 + d) = c (121 + d)) (hz : c 121 = nI 0) (k42 : Int32 → mx_G → Option (Int32 × mx_G)) : ∀ (m d f : Nat) (s : mx_G), s.1 46 = g → d + m = n → 1 ≤ d → lX11_clear_4 k42 (m + 1 + f) (nI (chC c d - 1)) (nI d) s = k42 (nI (chC c n - 1)) s := by
  intro m
  induction m with
  | zero =>
    intro d f s hs h h1
    rw [show 0 + 1 + f = f + 1 by omega, lX11_clear_4]
    simp (disch := omega) only [li_0, ixT, clI, if_true, hs, h0]
    rw [if_pos (nI_le (by omega) (by omega)), show d = n by omega]
  | succ m ih =>
    intro d f s hs h h1
    have hp := chC_pos hz d h1
    rw [show m + 1 + 1 + f = (m + 1 + f) + 1 by omega, lX11_clear_4]
    simp (disch := omega) only [li_0, ixT, clI, if_true, hs, h0]
    rw [if_neg (nI_ge (by omega) (by omega))]
    simp (disch := omega) only [li_121, adI, ixT, clI, if_true, bd_some, hs, mv_let, li_1, hg]
    have := ih (d + 1) f s hs (by omega) (by omega)
    rw [chC] at this
    by_cases hx : c (121 + d) = -4
    · rw [if_pos hx] at this ⊢
      rw [Nat.add_zero]; exact this
    · rw [if_neg hx] at this ⊢
      rw [show chC c d - 1 + 1 = chC c d + 1 - 1 by omega]; exact this
section ACT
variable {IC : Nat → mx_G → Prop}
theorem ok_clear (hC : ICok IC) : pv_clear (Inv IC) := by
  intro k σ hk h
  obtain ⟨n2, n6, nx, nm⟩ := h.n
  have hz := h.1.2.2.2.2.2.2.1
  have hch : ∀ d, d < 6 → σ.1 46 (121 + d) = σ.1 2 (121 + d) := fun d hd => h.1.1.at (by omega) (by omega)
  have hp := chC_pos hz (N (σ.1 2) 0) (by omega)
  have hcl : ∀ τ : mx_G, τ.1 46 = σ.1 46 → fX11_clear τ = (if nI (chC (σ.1 2) (N (σ.1 2) 0) - 1) = 0 then some (-2, τ) else mv_bind (fX11_notes τ) fun _ s5 => lX11_clear_55 (nI (chC (σ.1 2) (N (σ.1 2) 0) - 1)) FU 1 s5) := by
    intro τ hτ
    obtain ⟨f, hf⟩ := FU_lt (n := N (σ.1 2) 0 - 1) (by omega)
    have e1 : chC (σ.1 2) 1 = 1 := by rw [chC, if_neg (by rw [show 121 + 0 = 121 from rfl, hz]; decide), chC]
    have e := sm_clear_l (σ.1 2) (σ.1 46) _ n6 nm hch hz (fun y4 s3 => if y4 = 0 then some ((-2), s3) else mv_bind (fX11_notes s3) fun _ s5 => lX11_clear_55 y4 FU 1 s5) (N (σ.1 2) 0 - 1) 1 f τ hτ (by omega) (by omega)
    rw [e1, ← hf] at e
    exact e
  have hx : fX10_clear σ = (if nI (chC (σ.1 2) (N (σ.1 2) 0) - 1) = 0 then some (-2, σ) else mv_bind (fX3_keep σ) fun _ s6 => mv_bind (fX9_forgetChosen s6) fun _ s7 => some (nI (chC (σ.1 2) (N (σ.1 2) 0) - 1), s7)) := by
    unfold fX10_clear
    rw [sx_choosers n6 nx, bd_some, sx_bitCount, bd_some, bC_ch _ _ n6, li_1, suI hp.1]
    rfl
  by_cases h0 : nI (chC (σ.1 2) (N (σ.1 2) 0) - 1) = 0
  · refine pv_same hC h (-2) ?_ ?_
    · rw [hx, if_pos h0]
    · show fX11_clear σ = _
      rw [hcl σ rfl, if_pos h0]
  · obtain ⟨σ1, e1, e2, e3, act⟩ := h.act hC
    have hw2 : (gs σ1 2 (fg (σ.1 2))).1 2 = fg (σ.1 2) := gs_rd _ _ _
    obtain ⟨τ1, f1, f46, fin⟩ := act (gs σ1 2 (fg (σ.1 2))) (fun p hp => ⟨by rw [rd_gs, if_neg (fun z : p = 2 => hp (by rw [z]; decide))], rfl⟩) (by rw [hw2]; exact h.1.2.forget) _ (Sc.rf _)
    have m46 : (gs σ1 2 (fg (σ.1 2))).1 46 = σ.1 46 := by rw [rd_gs, if_neg (by decide)]; exact e3 46 (by decide)
    refine ⟨nI (chC (σ.1 2) (N (σ.1 2) 0) - 1), gs σ1 2 (fg (σ.1 2)), gs τ1 46 (fg (σ.1 46)), ?_, ?_, ?_⟩
    · rw [hx, if_neg h0, e1, bd_some, sx_forgetChosen, bd_some, e2]
    · show fX11_clear _ = _
      rw [hcl _ m46, if_neg h0, f1, bd_some]
      obtain ⟨f, hf⟩ := FU_lt (n := 5) (by omega)
      have e := fg_m (nI (chC (σ.1 2) (N (σ.1 2) 0) - 1)) 5 1 (σ.1 46) (σ.1 46) (by omega) (by omega) (fun j => by rw [if_neg (by omega)]) f τ1
      rw [← f46, gs_self, f46] at e
      rw [hf, li_1, e]
    · refine fin _ (fun p hp hp5 => ⟨by rw [rd_gs, if_neg (fun z : p = 46 => hp (by rw [z]; decide))], rfl⟩) (fun k _ _ _ => by rw [rd_gs, if_neg (by decide)]) rfl ?_
      rw [hw2, gs_rd]
      exact h.1.1.forget
end ACT
