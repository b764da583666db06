/-! PURE PART: all turn at once -/
theorem wnum_inj_l : ∀ (n : Nat) (l l' : List Nat), l.length = n → l'.length = n → Dg l → Dg l' → wnum l = wnum l' → l = l' := by
  intro n
  induction n with
  | zero =>
    intro l l' h h' _ _ _
    rw [List.eq_nil_of_length_eq_zero h, List.eq_nil_of_length_eq_zero h']
  | succ n ih =>
    intro l l' h h' hd hd' e
    obtain ⟨q, x, rfl, hq⟩ := snoc_of l n h
    obtain ⟨q', x', rfl, hq'⟩ := snoc_of l' n h'
    have h1 := hd.snoc
    have h2 := hd'.snoc
    rw [wnum_snoc, wnum_snoc] at e
    have hx : x = x' := by have := h1.2; have := h2.2; omega
    rw [ih q q' hq hq' h1.1 h2.1 (by omega), hx]
theorem wnum_inj {n : Nat} (hn : 0 < n) (h6 : n ≤ 6) {l l' : List Nat} (h : Way n l) (h' : Way n l') (e : wnum l = wnum l') : l = l' := by
  have a := h.len hn
  have a' := h'.len hn
  have e1 := sm_figures (h.dg hn h6) h.ld (by omega) sg_0
  have e2 := sm_figures (h'.dg hn h6) h'.ld (by omega) sg_0
  rw [e, e2] at e1
  injection e1 with e1
  have e3 := congrArg Prod.fst e1
  have e3 : nI l'.length = nI l.length := e3
  rw [eqI (by omega) (by omega)] at e3
  exact wnum_inj_l l.length l l' rfl e3 (h.dg hn h6) (h'.dg hn h6) e
theorem val_eq {n : Nat} (hn : 0 < n) (h6 : n ≤ 6) {o o' : Option (List Nat)} (h : ∀ l, o = some l → Way n l) (h' : ∀ l, o' = some l → Way n l) (e : val o = val o') : o = o' := by
  cases o with
  | none =>
    cases o' with
    | none => rfl
    | some l => exact absurd e.symm (val_inj hn h6 (h' l rfl))
  | some l =>
    cases o' with
    | none => exact absurd e (val_inj hn h6 (h l rfl))
    | some l' =>
      have a := (h l rfl).len hn
      have a' := (h' l' rfl).len hn
      have b := wnum_lt ((h l rfl).dg hn h6)
      have b' := wnum_lt ((h' l' rfl).dg hn h6)
      have p := pow8 (n := l.length) (by omega)
      have p' := pow8 (n := l'.length) (by omega)
      have e : nI (wnum l) = nI (wnum l') := e
      rw [eqI (by omega) (by omega)] at e
      rw [wnum_inj hn h6 (h l rfl) (h' l' rfl) e]
/-- those below d have turned -/
def mix (c : Nat → Int32) (w : Nat → Option (List Nat)) (n d e : Nat) : Option (List Nat) := if e < d then nx c w n e else w e
def cc (c : Nat → Int32) (w : Nat → Option (List Nat)) (n : Nat) : Nat → Nat
  | 0 => 0
  | d + 1 => if val (nx c w n d) = val (w d) then cc c w n d else cc c w n d + 1
theorem cc_le (c : Nat → Int32) (w : Nat → Option (List Nat)) (n : Nat) : ∀ d : Nat, cc c w n d ≤ d := by
  intro d
  induction d with
  | zero => exact Nat.le_refl _
  | succ d ih => rw [cc]; split <;> omega
theorem LD.of14 {s : mx_G} {w : Nat → Option (List Nat)} (h : LD s w) (g : Nat → Int32) : LD (gs s 14 g) w := by
  intro d hd
  rw [gs_rdn _ (by decide), gs_rdn _ (by decide), gs_rdn _ (by decide), gs_rdn _ (by decide)]
  exact h d hd
theorem sx_advance10 {s : mx_G} (ho : WOK (s.1 2)) {n : Nat} (h0 : s.1 2 0 = nI n) (hn : 0 < n) (h6 : n ≤ 6) {w : Nat → Option (List Nat)} (hc : okC n w) (hl : LD s w) (q : Int32) (K : mx_G → Option (Int32 × mx_G)) : ∀ (m d f : Nat) (g : Nat → Int32), d + m = n → (∀ j, j < d → g j = val (nx (s.1 2) w n j)) → ∃ g', lX0_advance_10 q (nI n) K (m + 1 + f) (nI d) (gs s 14 g) = K (gs s 14 g') ∧ ∀ j, j < n → g' j = val (nx (s.1 2) w n j) := by
  intro m
  induction m with
  | zero =>
    intro d f g h hg
    refine ⟨g, ?_, fun j hj => hg j (by omega)⟩
    rw [show 0 + 1 + f = f + 1 by omega, lX0_advance_10, if_pos (nI_le (by omega) (by omega))]
  | succ m ih =>
    intro d f g h hg
    obtain ⟨g', e, hg'⟩ := ih (d + 1) f (upd g d (val (nx (s.1 2) w n d))) (by omega) (fun j hj => by
      rw [upd_rd]
      by_cases z : j = d
      · rw [if_pos z, z]
      · rw [if_neg z]; exact hg j (by omega))
    refine ⟨g', ?_, hg'⟩
    have q2 : (gs s 14 g).1 2 = s.1 2 := gs_rdn _ (by decide) _
    have eb := sx_bestN (s := gs s 14 g) (d := d) (by rw [q2]; exact ho) (by rw [q2]; exact h0) hn h6 (by omega) hc (hl.of14 g)
    rw [q2] at eb
    have e1 : nI d + 1 = nI (d + 1) := by rw [li_1, adI]
    rw [show m + 1 + 1 + f = (m + 1 + f) + 1 by omega, lX0_advance_10, if_neg (nI_ge (by omega) (by omega)), eb, bd_some, ixT (by omega) (by omega), if_pos rfl, clI (by omega)]
    simp only [mv_let]
    rw [gi_of, e1]
    exact e
theorem sx_advance39 {c : Nat → Int32} (ho : WOK c) {n : Nat} (hn : 0 < n) (h6 : n ≤ 6) {w : Nat → Option (List Nat)} (hc : okC n w) : ∀ (m d f : Nat) (s : mx_G), d + m = n → (∀ j, j < n → s.1 14 j = val (nx c w n j)) → LD s (mix c w n d) → ∃ s', lX0_advance_39 (nI n) (m + 1 + f) (nI (cc c w n d)) (nI d) s = some (nI (cc c w n n), s') ∧ LD s' (mix c w n n) := by
  have hok := nx_ok ho hn h6 hc
  have hwy : ∀ d, d < n → ∀ l, nx c w n d = some l → Way n l := fun d hd l hl => (hok.2 d (by omega) l (by show (if d < n then nx c w n d else none) = _; rw [if_pos hd]; exact hl)).1
  intro m
  induction m with
  | zero =>
    intro d f s h h14 hl
    have : d = n := by omega
    subst this
    refine ⟨s, ?_, hl⟩
    rw [show 0 + 1 + f = f + 1 by omega, lX0_advance_39, if_pos (nI_le (by omega) (by omega))]
  | succ m ih =>
    intro d f s h h14 hl
    have e1 : nI d + 1 = nI (d + 1) := by rw [li_1, adI]
    have e2 : nI (cc c w n d) + 1 = nI (cc c w n d + 1) := by rw [li_1, adI]
    have h10 : s.1 10 d = val (w d) := by rw [(hl d (by omega)).1, mix, if_neg (by omega)]
    by_cases hx : val (nx c w n d) = val (w d)
    · have hne := val_eq hn h6 (hwy d (by omega)) (fun l hl => (hc.2 d (by omega) l hl).1) hx
      obtain ⟨s', e, hl'⟩ := ih (d + 1) f s (by omega) h14 (fun e he => by
        have := hl e he
        unfold mix at this ⊢
        by_cases z : e = d
        · subst z
          rw [if_neg (by omega)] at this
          rw [if_pos (by omega), hne]; exact this
        · by_cases z2 : e < d
          · rw [if_pos z2] at this; rw [if_pos (by omega)]; exact this
          · rw [if_neg z2] at this; rw [if_neg (by omega)]; exact this)
      refine ⟨s', ?_, hl'⟩
      rw [cc, if_pos hx] at e
      rw [show m + 1 + 1 + f = (m + 1 + f) + 1 by omega, lX0_advance_39, if_neg (nI_ge (by omega) (by omega)), ixT (by omega) (by omega), if_pos rfl, if_pos rfl, clI (by omega), h14 d (by omega), h10, if_pos hx, e1]
      exact e
    · obtain ⟨s1, p1, r1, r2, r3, r4⟩ := sx_put hn h6 (show d < 6 by omega) (nx c w n d) (hwy d (by omega)) s
      have fr := fr_X0_put _ _ s _ _ p1 14 (by decide)
      obtain ⟨s', e, hl'⟩ := ih (d + 1) f s1 (by omega) (fun j hj => by rw [fr.1]; exact h14 j hj) (fun e he => by
        have := hl e he
        rw [r1, r2, r3, r4, upd_rd, upd_rd, upd_rd, upd_rd]
        unfold mix at this ⊢
        by_cases z : e = d
        · subst z
          simp only [if_true, Nat.lt_succ_self]
          exact ⟨trivial, trivial, trivial, trivial⟩
        · simp only [z, if_false]
          by_cases z2 : e < d
          · rw [if_pos z2] at this; rw [if_pos (by omega)]; exact this
          · rw [if_neg z2] at this; rw [if_neg (by omega)]; exact this)
      refine ⟨s', ?_, hl'⟩
      rw [cc, if_neg hx] at e
      rw [show m + 1 + 1 + f = (m + 1 + f) + 1 by omega, lX0_advance_39, if_neg (nI_ge (by omega) (by omega)), ixT (by omega) (by omega), if_pos rfl, if_pos rfl, clI (by omega), h14 d (by omega), h10, if_neg hx, if_pos rfl, p1, bd_some, e1, e2]
      exact e
