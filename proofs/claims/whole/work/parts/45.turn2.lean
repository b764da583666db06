/-! PURE PART: all turn at once, the class's world -/
theorem mix_0 (c : Nat → Int32) (w : Nat → Option (List Nat)) (n : Nat) : mix c w n 0 = w := by
  funext e
  unfold mix
  rw [if_neg (by omega)]
theorem sx_advance {s : mx_G} (ho : WOK (s.1 2)) {n : Nat} (h0 : s.1 2 0 = nI n) (hn : 0 < n) (h6 : n ≤ 6) {w : Nat → Option (List Nat)} (hc : okC n w) (hl : LD s w) : ∃ s', fX0_advance s = some (nI (cc (s.1 2) w n n), s') ∧ LD s' (mix (s.1 2) w n n) ∧ ∀ p : Nat, p ∉ [10, 11, 12, 13, 14] → s'.1 p = s.1 p ∧ s'.2 p = s.2 p := by
  obtain ⟨f, hf⟩ := FU_lt (n := n) (by omega)
  have hsz : fX9_size s = some (nI n, s) := by
    unfold fX9_size
    simp (disch := omega) only [li_0, ixT, clI, if_true, h0]
  obtain ⟨g', e1, hg⟩ := sx_advance10 ho h0 hn h6 hc hl 0 (fun s6 => lX0_advance_39 (nI n) FU 0 0 s6) n 0 f (s.1 14) (by omega) (fun j hj => absurd hj (by omega))
  rw [gs_self, ← hf] at e1
  obtain ⟨s', e2, hl'⟩ := sx_advance39 ho hn h6 hc n 0 f (gs s 14 g') (by omega) (fun j hj => by rw [gs_rd]; exact hg j hj) (by rw [mix_0]; exact hl.of14 g')
  rw [← hf] at e2
  have e : fX0_advance s = some (nI (cc (s.1 2) w n n), s') := by
    unfold fX0_advance
    rw [hsz, bd_some]
    exact e1.trans e2
  exact ⟨s', e, hl', fun p hp => fr_X0_advance s _ _ e p hp⟩
/-- the world with other choices -/
def cw (c : Nat → Int32) (w : Nat → Option (List Nat)) (j : Nat) : Int32 := if 121 ≤ j ∧ j < 127 then val (w (j - 121)) else c j
theorem sx_store_l (w : Nat → Option (List Nat)) (c : Nat → Int32) (s : mx_G) (hl : LD s w) : ∀ (m d f : Nat) (g : Nat → Int32), d + m = 6 → (∀ j, g j = if 121 ≤ j ∧ j < 121 + d then val (w (j - 121)) else c j) → lX0_store_2 (m + 1 + f) (nI d) (gs s 2 g) = some ((), gs s 2 (cw c w)) := by
  intro m
  induction m with
  | zero =>
    intro d f g h hg
    have : g = cw c w := by
      funext j; rw [hg, cw, show 121 + d = 127 by omega]
    rw [show 0 + 1 + f = f + 1 by omega, lX0_store_2, if_pos (by rw [li_6, leI (by omega) (by omega)]; omega), this]
  | succ m ih =>
    intro d f g h hg
    have e1 : nI d + 1 = nI (d + 1) := by rw [li_1, adI]
    have e2 : (gs s 2 g).1 10 d = val (w d) := by rw [gs_rdn _ (by decide)]; exact (hl d (by omega)).1
    have e3 : fX9_setChosen (nI d) (val (w d)) (gs s 2 g) = some ((), gs s 2 (upd g (121 + d) (val (w d)))) := by
      unfold fX9_setChosen
      simp (disch := omega) only [li_121, adI, ixT, clI, if_true, mv_let, gi_of]
    rw [show m + 1 + 1 + f = (m + 1 + f) + 1 by omega, lX0_store_2, if_neg (by rw [li_6, leI (by omega) (by omega)]; omega), ixT (by omega) (by omega), if_pos rfl, clI (by omega), e2, e3, bd_some, e1]
    refine ih (d + 1) f _ (by omega) (fun j => ?_)
    rw [upd_rd, hg]
    by_cases z : j = 121 + d
    · rw [if_pos z, if_pos (by omega), show j - 121 = d by omega]
    · rw [if_neg z]
      by_cases z2 : 121 ≤ j ∧ j < 121 + d
      · rw [if_pos z2, if_pos (by omega)]
      · rw [if_neg z2, if_neg (by omega)]
theorem sx_store {s : mx_G} {w : Nat → Option (List Nat)} (hl : LD s w) : fX0_store s = some ((), gs s 2 (cw (s.1 2) w)) := by
  obtain ⟨f, hf⟩ := FU_lt (n := 6) (by omega)
  unfold fX0_store
  have e := sx_store_l w (s.1 2) s hl 6 0 f (s.1 2) (by omega) (fun j => by rw [if_neg (by omega)])
  rw [gs_self, ← hf] at e
  exact e
theorem sx_turnAll {s : mx_G} (ho : WOK (s.1 2)) {n : Nat} (h0 : s.1 2 0 = nI n) (hn : 0 < n) (h6 : n ≤ 6) {w : Nat → Option (List Nat)} (hc : okC n w) (hv : ∀ e, e < 6 → s.1 2 (121 + e) = val (w e)) : ∃ s', fX10_turnAll s = some (nI (cc (s.1 2) w n n), s') ∧ s'.1 2 = cw (s.1 2) (mix (s.1 2) w n n) ∧ (∀ p : Nat, p ∉ [2, 10, 11, 12, 13, 14] → s'.1 p = s.1 p) ∧ ∀ p : Nat, p ∉ [10, 11, 12, 13, 14] → s'.2 p = s.2 p := by
  obtain ⟨s1, e1, hl, fr⟩ := sx_load hn h6 (s := s) (w := w) (fun e he => ⟨hv e he, fun l hl => (hc.2 e he l hl).1⟩)
  have q2 : s1.1 2 = s.1 2 := (fr 2 (by decide)).1
  obtain ⟨s2, e2, hl2, fr2⟩ := sx_advance (s := s1) (by rw [q2]; exact ho) (by rw [q2]; exact h0) hn h6 hc hl
  have q3 : s2.1 2 = s.1 2 := (fr2 2 (by decide)).1.trans q2
  rw [q2] at e2 hl2
  have e3 := sx_store hl2
  rw [q3] at e3
  refine ⟨gs s2 2 (cw (s.1 2) (mix (s.1 2) w n n)), ?_, gs_rd _ _ _, fun p hp => ?_, fun p hp => ?_⟩
  · unfold fX10_turnAll
    rw [e1, bd_some, e2, bd_some, e3, bd_some]
  · rw [gs_rdn _ (fun z => hp (by rw [z]; decide))]
    exact (fr2 p (fun z => hp (List.mem_cons_of_mem _ z))).1.trans (fr p (fun z => hp (by revert z; simp; omega))).1
  · exact (fr2 p hp).2.trans (fr p (fun z => hp (by revert z; simp; omega))).2
theorem mix_ok {c : Nat → Int32} (ho : WOK c) {n : Nat} (hn : 0 < n) (h6 : n ≤ 6) {w : Nat → Option (List Nat)} (hc : okC n w) : okC n (mix c w n n) := by
  have hok := nx_ok ho hn h6 hc
  refine ⟨?_, fun d hd l hl => ?_⟩
  · unfold mix; rw [if_pos hn]; rfl
  · unfold mix at hl
    by_cases h : d < n
    · rw [if_pos h] at hl
      exact hok.2 d hd l (by show (if d < n then nx c w n d else none) = _; rw [if_pos h]; exact hl)
    · rw [if_neg h] at hl
      exact hc.2 d hd l hl
theorem WOK.turned {c : Nat → Int32} (h : WOK c) {w : Nat → Option (List Nat)} (hc : okC (N c 0) w) : WOK (cw c w) := by
  have hR : ∀ k, ¬ (121 ≤ k ∧ k < 127) → cw c w k = c k := fun k hk => by unfold cw; rw [if_neg hk]
  have hN : ∀ k, ¬ (121 ≤ k ∧ k < 127) → N (cw c w) k = N c k := fun k hk => by unfold N; rw [hR k hk]
  have hV : ∀ d, d < 6 → cw c w (121 + d) = val (w d) := fun d hd => by unfold cw; rw [if_pos (by omega), show 121 + d - 121 = d by omega]
  obtain ⟨h1, h2, h3, h4, h5, h6, h7⟩ := h
  refine ⟨by rw [hN 0 (by omega)]; exact h1, fun k hk => by rw [hR k (by omega), hN k (by omega)]; exact h2 k hk, by rw [hR 127 (by omega), hN 127 (by omega)]; exact h3, fun d hd => by rw [hN _ (by omega), hN _ (by omega)]; exact h4 d hd, fun a b ha hb => ?_, ?_, fun d hd hd6 => ?_⟩
  · rw [hN _ (by omega), hN _ (by omega), hN _ (by omega), hN _ (by omega), hN _ (by omega), hN 0 (by omega)]
    exact h5 a b ha hb
  · have := hV 0 (by omega)
    rw [hc.1] at this
    exact this
  · rw [hN 0 (by omega), hV d hd6]
    cases hwd : w d with
    | none => exact ⟨fun _ => rfl, fun _ => Or.inl rfl⟩
    | some l =>
      obtain ⟨g1, g2⟩ := hc.2 d hd6 l hwd
      have hlt := hd0_lt (by omega) g1
      refine ⟨fun z => absurd z (by omega), fun _ => ?_⟩
      cases l with
      | nil => exact g1.elim
      | cons x r =>
        have g2 : x = d := g2
        subst g2
        exact Or.inr ⟨r, g1, rfl⟩
theorem RW.turned {f c : Nat → Int32} (h : RW f c) (w : Nat → Option (List Nat)) : RW (cw f w) (cw c w) := by
  intro j hj
  unfold cw
  have e : (121 ≤ pi j ∧ pi j < 127) ↔ (121 ≤ j ∧ j < 127) := by
    unfold pi
    split <;> (try split) <;> (try split) <;> omega
  by_cases z : 121 ≤ j ∧ j < 127
  · have e2 : pi j = j := by unfold pi; rw [if_neg (by omega), if_neg (by omega), if_neg (by omega)]
    rw [if_pos z, e2, if_pos z]
  · rw [if_neg z, if_neg (fun q => z (e.mp q))]; exact h j hj
