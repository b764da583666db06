/-! PURE PART: what is chosen, as the class holds it to choose by -/
theorem gs_com (s : mx_G) {p q : Nat} (h : p ≠ q) (f g : Nat → Int32) : gs (gs s p f) q g = gs (gs s q g) p f := by
  unfold gs
  refine Prod.ext ?_ rfl
  funext x
  show (if x = q then g else (if x = p then f else s.1 x)) = (if x = p then f else (if x = q then g else s.1 x))
  by_cases h1 : x = q
  · rw [if_pos h1, if_neg (fun z => h (z.symm.trans h1)), if_pos h1]
  · rw [if_neg h1, if_neg h1]
theorem gs_rdn (s : mx_G) {p q : Nat} (h : q ≠ p) (f : Nat → Int32) : (gs s p f).1 q = s.1 q := by rw [rd_gs, if_neg h]
theorem upd_upd (f : Nat → Int32) (k : Nat) (x y : Int32) : upd (upd f k x) k y = upd f k y := by
  funext j
  rw [upd_rd, upd_rd, upd_rd]
  by_cases h : j = k
  · rw [if_pos h, if_pos h]
  · rw [if_neg h, if_neg h, if_neg h]
def val : Option (List Nat) → Int32
  | none => -4
  | some l => nI (wnum l)
def mem : Option (List Nat) → Nat
  | none => 0
  | some l => ms l
def scd : Option (List Nat) → Nat
  | none => 9
  | some l => sec l
def len : Option (List Nat) → Nat
  | none => 0
  | some l => l.length
/-- the choice's four rows -/
def LD (s : mx_G) (w : Nat → Option (List Nat)) : Prop := ∀ d : Nat, d < 6 → s.1 10 d = val (w d) ∧ s.1 11 d = nI (mem (w d)) ∧ s.1 12 d = nI (scd (w d)) ∧ s.1 13 d = nI (len (w d))
theorem sx_put_l (d L : Nat) (hd : d < 6) (hL : L ≤ 6) (q : Int32) (K : mx_G → Option (Unit × mx_G)) (s : mx_G) (F : Nat → Int32) : ∀ (m k f : Nat) (p : List Nat) (acc : Int32) (g : Nat → Int32), p.length = m → m + k = L → Dg p → lX0_put_21 (nI d) q (nI L) K (m + 1 + f) (nI (wnum p)) (nI k) (gs (gs s 11 (upd F d acc)) 12 g) = K (gs (gs s 11 (upd F d (bI p acc))) 12 (if 2 ≤ m then upd g d (nI (p.getD 1 0)) else g)) := by
  intro m
  induction m with
  | zero =>
    intro k f p acc g hp hk h
    have : p = [] := List.eq_nil_of_length_eq_zero hp
    subst this
    rw [show 0 + 1 + f = f + 1 by omega, lX0_put_21, if_pos (nI_le (by omega) (by omega)), if_neg (by omega)]
    rfl
  | succ m ih =>
    intro k f p acc g hp hk h
    obtain ⟨r, x, rfl, hr⟩ := snoc_of p m hp
    have hb := wnum_lt h
    have hp8 := pow8 (n := m + 1) (by omega)
    have hx := h.snoc.2
    rw [hp] at hb
    rw [show m + 1 + 1 + f = (m + 1 + f) + 1 by omega, lX0_put_21, if_neg (nI_ge (by omega) (by omega))]
    have e1 : mv_rem (nI (wnum (r ++ [x]))) 10 = nI x := by rw [li_10, rmI (by omega) (by omega) (by omega), wnum_snoc, show (wnum r * 10 + x) % 10 = x by omega]
    have e2 : nI (wnum (r ++ [x])) / 10 = nI (wnum r) := by rw [li_10, dvI (by omega) (by omega) (by omega), wnum_snoc, show (wnum r * 10 + x) / 10 = wnum r by omega]
    have e3 : (gs (gs s 11 (upd F d acc)) 12 g).1 11 d = acc := by rw [gs_rdn _ (by decide), gs_rd, upd_rd, if_pos rfl]
    have e4 : ∀ v, gi (gs (gs s 11 (upd F d acc)) 12 g) 11 d v = gs (gs s 11 (upd F d v)) 12 g := by
      intro v
      rw [gi_gs, gs_rdn _ (by decide), gs_rd, upd_upd, gs_com (gs s 11 (upd F d acc)) (by decide), gs_gs]
    simp (disch := omega) only [ixT, clI, if_true, mv_let, e1, e2, e3, e4]
    by_cases h2 : nI k = nI L - 2
    · have hm : m = 1 := by
        by_cases hL2 : 2 ≤ L
        · rw [li_2, suI hL2, eqI (by omega) (by omega)] at h2; omega
        · have : L = 1 := by omega
          subst this
          have : k = 0 := by omega
          subst this
          exact absurd h2 (by decide)
      subst hm
      rw [if_pos h2, gi_of, show nI k + 1 = nI (k + 1) by rw [li_1, adI], ih (k + 1) f r _ _ hr (by omega) h.snoc.1, bI_snoc, if_neg (by omega), if_pos (by omega)]
      have : (r ++ [x]).getD 1 0 = x := by
        match r, hr with
        | [y], _ => rfl
      rw [this]
    · have hm : m ≠ 1 := by
        intro z
        apply h2
        rw [li_2, suI (by omega), show L - 2 = k by omega]
      rw [if_neg h2, show nI k + 1 = nI (k + 1) by rw [li_1, adI], ih (k + 1) f r _ _ hr (by omega) h.snoc.1, bI_snoc]
      by_cases h3 : 2 ≤ m
      · rw [if_pos h3, if_pos (by omega)]
        have : (r ++ [x]).getD 1 0 = r.getD 1 0 := by rw [List.getD_eq_getElem?_getD, List.getD_eq_getElem?_getD, List.getElem?_append_left (by omega)]
        rw [this]
      · rw [if_neg h3, if_neg (by omega)]
theorem sx_putNone (d : Nat) (hd : d < 6) (s : mx_G) : fX0_putNone (nI d) s = some ((), gs (gs (gs (gs s 10 (upd (s.1 10) d (-4))) 13 (upd (s.1 13) d 0)) 11 (upd (s.1 11) d 0)) 12 (upd (s.1 12) d 9)) := by
  unfold fX0_putNone
  simp (disch := omega) only [ixT, clI, if_true, mv_let, gi_gs, rd_gs, Nat.reduceEqDiff, if_false]
  rw [gs_com _ (show 12 ≠ 13 by decide), gs_com _ (show 11 ≠ 13 by decide)]
def okW (n d : Nat) (o : Option (List Nat)) : Prop := o = none ∨ ∃ l, o = some l ∧ Way n l ∧ hd0 l = d
theorem sx_put {n d : Nat} (hn : 0 < n) (h6 : n ≤ 6) (hd : d < 6) (o : Option (List Nat)) (ho : ∀ l, o = some l → Way n l) (s : mx_G) : ∃ s', fX0_put (nI d) (val o) s = some ((), s') ∧ s'.1 10 = upd (s.1 10) d (val o) ∧ s'.1 11 = upd (s.1 11) d (nI (mem o)) ∧ s'.1 12 = upd (s.1 12) d (nI (scd o)) ∧ s'.1 13 = upd (s.1 13) d (nI (len o)) := by
  unfold fX0_put
  rw [sx_putNone d hd, bd_some]
  cases o with
  | none =>
    refine ⟨gs (gs (gs (gs s 10 (upd (s.1 10) d (-4))) 13 (upd (s.1 13) d 0)) 11 (upd (s.1 11) d 0)) 12 (upd (s.1 12) d 9), ?_, ?_, ?_, ?_, ?_⟩
    · rw [if_neg (show ¬ (0 : Int32) ≤ val none by decide)]
    · simp only [rd_gs, Nat.reduceEqDiff, if_false, if_true]; rfl
    · simp only [rd_gs, Nat.reduceEqDiff, if_false, if_true]; rfl
    · simp only [rd_gs, if_true]; rfl
    · simp only [rd_gs, Nat.reduceEqDiff, if_false, if_true]; rfl
  | some l =>
    have h := ho l rfl
    have hlen := h.len hn
    have hb := wnum_lt (h.dg hn h6)
    have hp8 := pow8 (n := l.length) (by omega)
    have hlt : ∀ x ∈ l, x < 6 := fun x hx => by have := h.lt hn x hx; omega
    obtain ⟨f, hf⟩ := FU_lt (n := l.length) (by omega)
    show ∃ s', (if 0 ≤ nI (wnum l) then _ else _) = _ ∧ _
    rw [if_pos (nI_pos' (by omega))]
    show ∃ s', mv_bind (fX10_figuresOf (nI (wnum l)) _) _ = _ ∧ _
    rw [sx_figuresOf (h.dg hn h6) h.ld (by omega), bd_some, hf, show (0 : Int32) = nI 0 from rfl, show val (some l) = nI (wnum l) from rfl, sx_put_l d l.length hd (by omega) _ _ _ (s.1 11) l.length 0 f l _ _ rfl (by omega) (h.dg hn h6)]
    simp (disch := omega) only [ixT, clI, if_true, mv_let]
    refine ⟨_, rfl, ?_, ?_, ?_, ?_⟩
    · simp only [rd_gi, rd_gs, Nat.reduceEqDiff, if_false, if_true, upd_upd]
    · simp only [rd_gi, rd_gs, Nat.reduceEqDiff, if_false, if_true]
      rw [← li_0, bI_ms hlt]; rfl
    · simp only [rd_gi, rd_gs, Nat.reduceEqDiff, if_false, if_true]
      match l, h with
      | [x], _ => rfl
      | x :: y :: r, _ =>
        rw [if_pos (by simp), upd_upd]; rfl
    · simp only [rd_gi, rd_gs, Nat.reduceEqDiff, if_false, if_true, upd_upd]; rfl
theorem sx_load_l {n : Nat} (hn : 0 < n) (h6 : n ≤ 6) (c : Nat → Int32) (w : Nat → Option (List Nat)) (hw : ∀ d, d < 6 → c (121 + d) = val (w d) ∧ ∀ l, w d = some l → Way n l) : ∀ (m d f : Nat) (s : mx_G), d + m = 6 → s.1 2 = c → (∀ e, e < d → s.1 10 e = val (w e) ∧ s.1 11 e = nI (mem (w e)) ∧ s.1 12 e = nI (scd (w e)) ∧ s.1 13 e = nI (len (w e))) → ∃ s', lX0_load_2 (m + 1 + f) (nI d) s = some ((), s') ∧ LD s' w := by
  intro m
  induction m with
  | zero =>
    intro d f s h hs hd
    refine ⟨s, ?_, fun e he => hd e (by omega)⟩
    rw [show 0 + 1 + f = f + 1 by omega, lX0_load_2, if_pos (by rw [li_6, leI (by omega) (by omega)]; omega)]
  | succ m ih =>
    intro d f s h hs hd
    obtain ⟨s1, e1, r1, r2, r3, r4⟩ := sx_put hn h6 (show d < 6 by omega) (w d) (hw d (by omega)).2 s
    have fr := fr_X0_put _ _ s _ _ e1 2 (by decide)
    obtain ⟨s', e', hl⟩ := ih (d + 1) f s1 (by omega) (fr.1.trans hs) (fun e he => by
      rw [r1, r2, r3, r4, upd_rd, upd_rd, upd_rd, upd_rd]
      by_cases z : e = d
      · subst z; simp only [if_true]; exact ⟨trivial, trivial, trivial, trivial⟩
      · simp only [z, if_false]; exact hd e (by omega))
    refine ⟨s', ?_, hl⟩
    rw [show m + 1 + 1 + f = (m + 1 + f) + 1 by omega, lX0_load_2, if_neg (by rw [li_6, leI (by omega) (by omega)]; omega)]
    have e0 : fX9_chosenBy (nI d) s = some (val (w d), s) := by
      unfold fX9_chosenBy
      simp (disch := omega) only [li_121, adI, ixT, clI, if_true, hs, (hw d (by omega)).1]
    rw [e0, bd_some, e1, bd_some, li_1, adI]
    exact e'
theorem sx_load {n : Nat} (hn : 0 < n) (h6 : n ≤ 6) {s : mx_G} {w : Nat → Option (List Nat)} (hw : ∀ d, d < 6 → s.1 2 (121 + d) = val (w d) ∧ ∀ l, w d = some l → Way n l) : ∃ s', fX0_load s = some ((), s') ∧ LD s' w ∧ ∀ p : Nat, p ∉ [10, 11, 12, 13] → s'.1 p = s.1 p ∧ s'.2 p = s.2 p := by
  obtain ⟨f, hf⟩ := FU_lt (n := 6) (by omega)
  obtain ⟨s', e, h⟩ := sx_load_l hn h6 (s.1 2) w hw 6 0 f s (by omega) rfl (fun e he => absurd he (by omega))
  have e2 : fX0_load s = some ((), s') := by
    unfold fX0_load
    rw [hf]
    exact e
  exact ⟨s', e2, h, fun p hp => fr_X0_load s _ _ e2 p hp⟩
