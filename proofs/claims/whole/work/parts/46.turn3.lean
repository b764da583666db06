/-! PURE PART: all turn at once, the reference; turn -/
theorem sm_turns4 {s : mx_G} {c : Nat → Int32} (hw : RW (s.1 46) c) (ho : WOK c) {n : Nat} (h0 : s.1 46 0 = nI n) (hn : 0 < n) (h6 : n ≤ 6) {w : Nat → Option (List Nat)} (hc : okC n w) (hm : ∀ e, e < 6 → s.1 56 e = val (w e)) (q : Int32) (K : mx_G → Option (Int32 × mx_G)) : ∀ (m d f : Nat) (g : Nat → Int32), d + m = n → (∀ j, j < d → g j = val (nx c w n j)) → ∃ g', lX11_turnsInMind_4 q K (m + 1 + f) (nI d) (gs s 57 g) = K (gs s 57 g') ∧ ∀ j, j < n → g' j = val (nx c w n j) := by
  have hx0 : ix 0 128 = true := by rw [li_0]; exact ixT (by omega) (by omega)
  have hz : Int32.toNatClampNeg 0 = 0 := by decide
  intro m
  induction m with
  | zero =>
    intro d f g h hg
    refine ⟨g, ?_, fun j hj => hg j (by omega)⟩
    rw [show 0 + 1 + f = f + 1 by omega, lX11_turnsInMind_4, if_pos hx0, hz, gs_rdn _ (by decide), h0, if_pos (nI_le (by omega) (by omega))]
  | succ m ih =>
    intro d f g h hg
    obtain ⟨g', e, hg'⟩ := ih (d + 1) f (upd g d (val (nx c w n d))) (by omega) (fun j hj => by
      rw [upd_rd]
      by_cases z : j = d
      · rw [if_pos z, z]
      · rw [if_neg z]; exact hg j (by omega))
    refine ⟨g', ?_, hg'⟩
    have q46 : (gs s 57 g).1 46 = s.1 46 := gs_rdn _ (by decide) _
    have q56 : (gs s 57 g).1 56 = s.1 56 := gs_rdn _ (by decide) _
    have eb := sm_would (s := gs s 57 g) (d := d) (by rw [q46]; exact hw) ho (by rw [q46]; exact h0) hn h6 (by omega) hc (fun e he => by rw [q56]; exact hm e he)
    have e1 : nI d + 1 = nI (d + 1) := by rw [li_1, adI]
    rw [show m + 1 + 1 + f = (m + 1 + f) + 1 by omega, lX11_turnsInMind_4, if_pos hx0, hz, q46, h0, if_neg (nI_ge (by omega) (by omega)), eb, bd_some, ixT (by omega) (by omega), if_pos rfl, clI (by omega)]
    simp only [mv_let]
    rw [gi_of, e1]
    exact e
theorem sm_turns33 {s : mx_G} {c : Nat → Int32} {n : Nat} (h0 : s.1 46 0 = nI n) (hn : 0 < n) (h6 : n ≤ 6) {w : Nat → Option (List Nat)} (h57 : ∀ j, j < n → s.1 57 j = val (nx c w n j)) : ∀ (m d f : Nat) (g : Nat → Int32), d + m = n → (∀ j, j < 6 → g j = val (mix c w n d j)) → ∃ g', lX11_turnsInMind_33 (m + 1 + f) (nI (cc c w n d)) (nI d) (gs s 56 g) = some (nI (cc c w n n), gs s 56 g') ∧ ∀ j, j < 6 → g' j = val (mix c w n n j) := by
  have hx0 : ix 0 128 = true := by rw [li_0]; exact ixT (by omega) (by omega)
  have hz : Int32.toNatClampNeg 0 = 0 := by decide
  intro m
  induction m with
  | zero =>
    intro d f g h hg
    have : d = n := by omega
    subst this
    refine ⟨g, ?_, hg⟩
    rw [show 0 + 1 + f = f + 1 by omega, lX11_turnsInMind_33, if_pos hx0, hz, gs_rdn _ (by decide), h0, if_pos (nI_le (by omega) (by omega))]
  | succ m ih =>
    intro d f g h hg
    obtain ⟨g', e, hg'⟩ := ih (d + 1) f (upd g d (val (nx c w n d))) (by omega) (fun j hj => by
      rw [upd_rd]
      by_cases z : j = d
      · rw [if_pos z, z, mix, if_pos (by omega)]
      · rw [if_neg z, hg j hj]
        unfold mix
        by_cases z2 : j < d
        · rw [if_pos z2, if_pos (by omega)]
        · rw [if_neg z2, if_neg (by omega)])
    refine ⟨g', ?_, hg'⟩
    have q46 : (gs s 56 g).1 46 = s.1 46 := gs_rdn _ (by decide) _
    have q57 : (gs s 56 g).1 57 = s.1 57 := gs_rdn _ (by decide) _
    have q56 : (gs s 56 g).1 56 = g := gs_rd _ _ _
    have gd : g d = val (w d) := by rw [hg d (by omega), mix, if_neg (by omega)]
    have e1 : nI d + 1 = nI (d + 1) := by rw [li_1, adI]
    have e2 : nI (cc c w n d) + 1 = nI (cc c w n d + 1) := by rw [li_1, adI]
    have e3 : nI (cc c w n d) + 0 = nI (cc c w n d) := by rw [li_0, adI, Nat.add_zero]
    rw [show m + 1 + 1 + f = (m + 1 + f) + 1 by omega, lX11_turnsInMind_33, if_pos hx0, hz, q46, h0, if_neg (nI_ge (by omega) (by omega)), ixT (by omega) (by omega), if_pos rfl, if_pos rfl, clI (by omega)]
    simp only [mv_let]
    rw [q57, q56, h57 d (by omega), gd, if_pos trivial, if_pos trivial, gi_of, e1, e2, e3]
    rw [cc] at e
    by_cases hx : val (nx c w n d) = val (w d)
    · rw [if_pos hx] at e ⊢
      exact e
    · rw [if_neg hx] at e ⊢
      exact e
theorem sm_turnsOnce {s : mx_G} {c : Nat → Int32} (hw : RW (s.1 46) c) (ho : WOK c) {n : Nat} (h0 : s.1 46 0 = nI n) (hn : 0 < n) (h6 : n ≤ 6) {w : Nat → Option (List Nat)} (hc : okC n w) (hv : ∀ e, e < 6 → s.1 46 (121 + e) = val (w e)) : ∃ s', fX11_turnsOnce s = some (nI (cc c w n n), s') ∧ s'.1 46 = cw (s.1 46) (mix c w n n) ∧ (∀ e, e < 6 → s'.1 56 e = val (mix c w n n e)) ∧ ∀ p : Nat, p ∉ [46, 56, 57] → s'.1 p = s.1 p ∧ s'.2 p = s.2 p := by
  obtain ⟨f, hf⟩ := FU_lt (n := n) (by omega)
  have t46 : (gs s 56 (va_cpy (s.1 46) (s.1 56) 121 0 6)).1 46 = s.1 46 := gs_rdn _ (by decide) _
  obtain ⟨g1, e1, hg1⟩ := sm_turns4 (s := gs s 56 (va_cpy (s.1 46) (s.1 56) 121 0 6)) (by rw [t46]; exact hw) ho (by rw [t46]; exact h0) hn h6 hc (fun e he => by rw [thinks_rd s he]; exact hv e he) 0 (fun s4 => lX11_turnsInMind_33 FU 0 0 s4) n 0 f ((gs s 56 (va_cpy (s.1 46) (s.1 56) 121 0 6)).1 57) (by omega) (fun j hj => absurd hj (by omega))
  rw [gs_self, ← hf] at e1
  have hcom : gs (gs s 56 (va_cpy (s.1 46) (s.1 56) 121 0 6)) 57 g1 = gs (gs s 57 g1) 56 (va_cpy (s.1 46) (s.1 56) 121 0 6) := gs_com _ (by decide) _ _
  obtain ⟨g2, e2, hg2⟩ := sm_turns33 (s := gs s 57 g1) (c := c) (by rw [gs_rdn _ (by decide)]; exact h0) hn h6 (w := w) (fun j hj => by rw [gs_rd]; exact hg1 j hj) n 0 f (va_cpy (s.1 46) (s.1 56) 121 0 6) (by omega) (fun j hj => by
    have := thinks_rd s hj
    rw [gs_rd] at this
    rw [this, mix_0]; exact hv j hj)
  rw [← hf] at e2
  have e3 : fX11_turnsInMind (gs s 56 (va_cpy (s.1 46) (s.1 56) 121 0 6)) = some (nI (cc c w n n), gs (gs s 57 g1) 56 g2) := by
    unfold fX11_turnsInMind
    refine Eq.trans e1 ?_
    rw [hcom]
    exact e2
  have hcw : va_cpy g2 (s.1 46) 0 121 6 = cw (s.1 46) (mix c w n n) := by
    funext j
    rw [cpy_rd, cw]
    by_cases z : 121 ≤ j ∧ j < 121 + 6
    · rw [if_pos z, if_pos (by omega), Nat.zero_add, hg2 _ (by omega)]
    · rw [if_neg z, if_neg (by omega)]
  have b56 : (gs (gs s 57 g1) 56 g2).1 56 = g2 := gs_rd _ _ _
  have b46 : (gs (gs s 57 g1) 56 g2).1 46 = s.1 46 := by rw [gs_rdn _ (by decide), gs_rdn _ (by decide)]
  have e4 := sm_bring_3 0 121 6 (by omega) (by omega) (gs (gs s 57 g1) 56 g2)
  rw [b56, b46, hcw] at e4
  refine ⟨gs (gs (gs s 57 g1) 56 g2) 46 (cw (s.1 46) (mix c w n n)), ?_, gs_rd _ _ _, fun e he => ?_, fun p hp => ⟨?_, rfl⟩⟩
  · unfold fX11_turnsOnce
    rw [sm_thinks, bd_some, e3, bd_some, li_121, li_0, li_6, e4, bd_some]
  · rw [gs_rdn _ (by decide), gs_rd]; exact hg2 e he
  · rw [gs_rdn _ (fun z => hp (by rw [z]; decide)), gs_rdn _ (fun z => hp (by rw [z]; decide)), gs_rdn _ (fun z => hp (by rw [z]; decide))]
