/-! PURE PART: domains -/
def zr (a b : Nat) (g : Nat → Int32) (j : Nat) : Int32 := if (13 ≤ j ∧ j < 121) ∧ (((j - 13) % 36 / 6 = a ∧ b ≤ (j - 13) % 36 % 6) ∨ ((j - 13) % 36 % 6 = a ∧ b ≤ (j - 13) % 36 / 6)) then nI 0 else g j
theorem zr_st (a b : Nat) (ha : a < 6) (hb : b < 6) (g : Nat → Int32) : zr a (b + 1) (upd (upd (upd (upd (upd (upd g (13 + a * 6 + b) (nI 0)) (13 + b * 6 + a) (nI 0)) (49 + a * 6 + b) (nI 0)) (49 + b * 6 + a) (nI 0)) (85 + a * 6 + b) (nI 0)) (85 + b * 6 + a) (nI 0)) = zr a b g := by
  funext j
  unfold zr
  rw [upd_rd, upd_rd, upd_rd, upd_rd, upd_rd, upd_rd]
  by_cases e : (j = 85 + b * 6 + a ∨ j = 85 + a * 6 + b ∨ j = 49 + b * 6 + a) ∨ (j = 49 + a * 6 + b ∨ j = 13 + b * 6 + a ∨ j = 13 + a * 6 + b)
  · rw [if_pos (c := (13 ≤ j ∧ j < 121) ∧ (((j - 13) % 36 / 6 = a ∧ b ≤ (j - 13) % 36 % 6) ∨ ((j - 13) % 36 % 6 = a ∧ b ≤ (j - 13) % 36 / 6))) (by omega)]
    split
    · rfl
    · split
      · rfl
      · split
        · rfl
        · split
          · rfl
          · split
            · rfl
            · split
              · rfl
              · split
                · rfl
                · omega
  · rw [if_neg (show ¬ j = 85 + b * 6 + a by omega), if_neg (show ¬ j = 85 + a * 6 + b by omega), if_neg (show ¬ j = 49 + b * 6 + a by omega), if_neg (show ¬ j = 49 + a * 6 + b by omega), if_neg (show ¬ j = 13 + b * 6 + a by omega), if_neg (show ¬ j = 13 + a * 6 + b by omega)]
    by_cases q : (13 ≤ j ∧ j < 121) ∧ (((j - 13) % 36 / 6 = a ∧ b + 1 ≤ (j - 13) % 36 % 6) ∨ ((j - 13) % 36 % 6 = a ∧ b + 1 ≤ (j - 13) % 36 / 6))
    · rw [if_pos q, if_pos (by omega)]
    · rw [if_neg q, if_neg (by omega)]
theorem zr_6 (a : Nat) (ha : a < 6) (g : Nat → Int32) : zr a 6 g = g := by
  funext j
  unfold zr
  rw [if_neg (by omega)]
theorem sx_resize29 (p : Int32) (a : Nat) (ha : a < 6) (k : mx_G → Option (Unit × mx_G)) (s : mx_G) : ∀ (m b f : Nat) (g : Nat → Int32), b + m = 6 → lX9_resize_29 p (nI a) k (m + 1 + f) (nI b) (gs s 2 g) = k (gs s 2 (zr a b g)) := by
  intro m
  induction m with
  | zero =>
    intro b f g h
    rw [show 0 + 1 + f = f + 1 by omega, lX9_resize_29, if_pos (by rw [li_6, leI (by omega) (by omega)]; omega), show b = 6 by omega, zr_6 a ha]
  | succ m ih =>
    intro b f g h
    rw [show m + 1 + 1 + f = (m + 1 + f) + 1 by omega, lX9_resize_29, if_neg (by rw [li_6, leI (by omega) (by omega)]; omega), show (0 : Int32) = nI 0 from rfl, sx_setLink ha (by omega) (by omega), bd_some]
    simp (disch := omega) only [fX9_setLiking, li_85, li_6, li_1, muI, adI, ixT, clI, if_true, mv_let, bd_some, gi_of]
    rw [ih (b + 1) f _ (by omega), zr_st a b ha (by omega)]
def rz (a : Nat) (g : Nat → Int32) (j : Nat) : Int32 := if 1 + a ≤ j ∧ j < 7 then nI 3 else if 7 + a ≤ j ∧ j < 13 then nI 0 else if (13 ≤ j ∧ j < 121) ∧ (a ≤ (j - 13) % 36 / 6 ∨ a ≤ (j - 13) % 36 % 6) then nI 0 else g j
theorem rz_6 (g : Nat → Int32) : rz 6 g = g := by
  funext j
  unfold rz
  rw [if_neg (by omega), if_neg (by omega), if_neg (by omega)]
theorem rz_st (a : Nat) (ha : a < 6) (g : Nat → Int32) : rz (a + 1) (zr a 0 (upd (upd g (1 + a) (nI 3)) (7 + a) (nI 0))) = rz a g := by
  funext j
  unfold rz zr
  by_cases h1 : 1 + a ≤ j ∧ j < 7
  · rw [if_pos h1]
    by_cases h2 : j = 1 + a
    · rw [if_neg (by omega), if_neg (by omega), if_neg (by omega), if_neg (by omega), upd_rd, if_neg (by omega), upd_rd, if_pos h2]
    · rw [if_pos (by omega)]
  · rw [if_neg h1, if_neg (by omega)]
    by_cases h2 : 7 + a ≤ j ∧ j < 13
    · rw [if_pos h2]
      by_cases h3 : j = 7 + a
      · rw [if_neg (by omega), if_neg (by omega), if_neg (by omega), upd_rd, if_pos h3]
      · rw [if_pos (by omega)]
    · rw [if_neg h2, if_neg (by omega)]
      by_cases h3 : (13 ≤ j ∧ j < 121) ∧ (a ≤ (j - 13) % 36 / 6 ∨ a ≤ (j - 13) % 36 % 6)
      · rw [if_pos h3]
        by_cases h4 : (13 ≤ j ∧ j < 121) ∧ (a + 1 ≤ (j - 13) % 36 / 6 ∨ a + 1 ≤ (j - 13) % 36 % 6)
        · rw [if_pos h4]
        · rw [if_neg h4, if_pos (by omega)]
      · rw [if_neg h3, if_neg (by omega), if_neg (by omega), upd_rd, if_neg (by omega), upd_rd, if_neg (by omega)]
theorem sx_resize9 (p : Int32) (k : mx_G → Option (Unit × mx_G)) (s : mx_G) : ∀ (m a f : Nat) (g : Nat → Int32), a + m = 6 → lX9_resize_9 p k (m + 1 + f) (nI a) (gs s 2 g) = k (gs s 2 (rz a g)) := by
  intro m
  induction m with
  | zero =>
    intro a f g h
    rw [show 0 + 1 + f = f + 1 by omega, lX9_resize_9, if_pos (by rw [li_6, leI (by omega) (by omega)]; omega), show a = 6 by omega, rz_6]
  | succ m ih =>
    intro a f g h
    obtain ⟨f', hf⟩ := FU_lt (n := 6) (by omega)
    rw [show m + 1 + 1 + f = (m + 1 + f) + 1 by omega, lX9_resize_9, if_neg (by rw [li_6, leI (by omega) (by omega)]; omega)]
    simp (disch := omega) only [fX9_setManner, fX9_setBars, li_7, li_1, li_3, li_0, adI, ixT, clI, if_true, mv_let, bd_some, gi_of]
    rw [hf, sx_resize29 p a (by omega) _ s 6 0 f' _ (by omega), ih (a + 1) f _ (by omega), rz_st a (by omega)]
theorem and_n : ∀ a : Nat, a < 64 → ∀ b : Nat, b < 64 → nI a &&& nI b = nI (a &&& b) := by decide +kernel
def mk7 (d v : Nat) (g : Nat → Int32) (j : Nat) : Int32 := if 7 + d ≤ j ∧ j < 7 + v then g j &&& nI (2 ^ v - 1) else g j
theorem mk7_st (d v : Nat) (hd : d < v) (g : Nat → Int32) : mk7 (d + 1) v (upd g (7 + d) (g (7 + d) &&& nI (2 ^ v - 1))) = mk7 d v g := by
  funext j
  unfold mk7
  rw [upd_rd]
  by_cases h : j = 7 + d
  · subst h
    rw [if_neg (by omega), if_pos rfl, if_pos (by omega)]
  · rw [if_neg h]
    by_cases h2 : 7 + d ≤ j ∧ j < 7 + v
    · rw [if_pos h2, if_pos (by omega)]
    · rw [if_neg h2, if_neg (by omega)]
theorem sx_resize70 (v : Nat) (hv : v ≤ 6) (s : mx_G) : ∀ (m d f : Nat) (g : Nat → Int32), d + m = v → lX9_resize_70 (nI v) (m + 1 + f) (nI d) (gs s 2 g) = some ((), gs s 2 (fg (mk7 d v g))) := by
  have hp := pow_le64 v (by omega)
  intro m
  induction m with
  | zero =>
    intro d f g h
    have e : mk7 d v g = g := by funext j; unfold mk7; rw [if_neg (by omega)]
    rw [show 0 + 1 + f = f + 1 by omega, lX9_resize_70, if_pos (nI_le (by omega) (by omega)), sx_forgetChosen, bd_some, gs_rd, gs_gs, e]
  | succ m ih =>
    intro d f g h
    rw [show m + 1 + 1 + f = (m + 1 + f) + 1 by omega, lX9_resize_70, if_neg (nI_ge (by omega) (by omega)), shl_n v (by omega)]
    simp (disch := omega) only [fX9_barsOf, fX9_setBars, li_7, li_1, adI, suI, ixT, clI, if_true, mv_let, bd_some, gi_of, gs_rd]
    rw [ih (d + 1) f _ (by omega), mk7_st d v (by omega)]
/-- the world of v domains -/
def dw (v : Nat) (c : Nat → Int32) : Nat → Int32 := fg (mk7 0 v (rz v (upd c 0 (nI v))))
theorem sx_resize (v : Nat) (hv : v ≤ 6) (s : mx_G) : fX9_resize (nI v) s = some ((), gs s 2 (dw v (s.1 2))) := by
  obtain ⟨f, hf⟩ := FU_lt (n := 6 - v) (by omega)
  obtain ⟨f', hf'⟩ := FU_lt (n := v) (by omega)
  unfold fX9_resize
  simp (disch := omega) only [li_0, ixT, clI, if_true, mv_let, gi_gs]
  have e1 := sx_resize9 (nI v) (fun s8 => lX9_resize_70 (nI v) FU (nI 0) s8) s (6 - v) v f (upd (s.1 2) 0 (nI v)) (by omega)
  have e2 := sx_resize70 v hv s v 0 f' (rz v (upd (s.1 2) 0 (nI v))) (by omega)
  rw [← hf] at e1
  rw [← hf'] at e2
  exact e1.trans e2
def zm (v a b : Nat) (g : Nat → Int32) (j : Nat) : Int32 := if (1 ≤ j ∧ j < 109) ∧ ((j - 1) % 36 / 6 = a ∧ b ≤ (j - 1) % 36 % 6) ∧ (v ≤ a ∨ v ≤ (j - 1) % 36 % 6) then nI 0 else g j
theorem zm_6 (v a : Nat) (g : Nat → Int32) : zm v a 6 g = g := by
  funext j
  unfold zm
  rw [if_neg (by omega)]
theorem zm_no (v a b : Nat) (h : a < v ∧ b < v) (g : Nat → Int32) : zm v a (b + 1) g = zm v a b g := by
  funext j
  unfold zm
  by_cases e : (1 ≤ j ∧ j < 109) ∧ ((j - 1) % 36 / 6 = a ∧ b ≤ (j - 1) % 36 % 6) ∧ (v ≤ a ∨ v ≤ (j - 1) % 36 % 6)
  · rw [if_pos e, if_pos (by omega)]
  · rw [if_neg e, if_neg (by omega)]
theorem zm_st (v a b : Nat) (ha : a < 6) (hb : b < 6) (h : v ≤ a ∨ v ≤ b) (g : Nat → Int32) : zm v a (b + 1) (upd (upd (upd g (1 + (6 * a + b)) (nI 0)) (37 + (6 * a + b)) (nI 0)) (73 + (6 * a + b)) (nI 0)) = zm v a b g := by
  funext j
  unfold zm
  rw [upd_rd, upd_rd, upd_rd]
  by_cases e : j = 1 + (6 * a + b) ∨ j = 37 + (6 * a + b) ∨ j = 73 + (6 * a + b)
  · rw [if_pos (c := (1 ≤ j ∧ j < 109) ∧ ((j - 1) % 36 / 6 = a ∧ b ≤ (j - 1) % 36 % 6) ∧ (v ≤ a ∨ v ≤ (j - 1) % 36 % 6)) (by omega)]
    split
    · rfl
    · split
      · rfl
      · split
        · rfl
        · split
          · rfl
          · omega
  · rw [if_neg (show ¬ j = 73 + (6 * a + b) by omega), if_neg (show ¬ j = 37 + (6 * a + b) by omega), if_neg (show ¬ j = 1 + (6 * a + b) by omega)]
    by_cases q : (1 ≤ j ∧ j < 109) ∧ ((j - 1) % 36 / 6 = a ∧ b + 1 ≤ (j - 1) % 36 % 6) ∧ (v ≤ a ∨ v ≤ (j - 1) % 36 % 6)
    · rw [if_pos q, if_pos (by omega)]
    · rw [if_neg q, if_neg (by omega)]
theorem sm_domains53 (v a : Nat) (hv : v ≤ 6) (ha : a < 6) (r : Int32) (k : mx_G → Option (Int32 × mx_G)) (s : mx_G) : ∀ (m b f : Nat) (g : Nat → Int32), b + m = 6 → lX11_domains_53 (nI v) r (nI a) k (m + 1 + f) (nI b) (gs s 46 g) = k (gs s 46 (zm v a b g)) := by
  intro m
  induction m with
  | zero =>
    intro b f g h
    rw [show 0 + 1 + f = f + 1 by omega, lX11_domains_53, if_pos (by rw [li_6, leI (by omega) (by omega)]; omega), show b = 6 by omega, zm_6]
  | succ m ih =>
    intro b f g h
    have hz : ∀ g', lX11_domains_53 (nI v) r (nI a) k (m + 1 + f) (nI (b + 1)) (gs s 46 g') = k (gs s 46 (zm v a (b + 1) g')) := fun g' => ih (b + 1) f g' (by omega)
    rw [show m + 1 + 1 + f = (m + 1 + f) + 1 by omega, lX11_domains_53, if_neg (by rw [li_6, leI (by omega) (by omega)]; omega)]
    simp (disch := omega) only [fX11_pair, li_6, li_1, li_0, li_37, li_73, muI, adI, ixT, clI, if_true, mv_let, bd_some, gi_of, leI, ltI, hz]
    by_cases h1 : v ≤ a
    · rw [if_pos h1, zm_st v a b ha (by omega) (Or.inl h1)]
    · rw [if_neg h1]
      by_cases h2 : b < v
      · rw [if_pos h2, zm_no v a b (by omega)]
      · rw [if_neg h2, zm_st v a b ha (by omega) (by omega)]
def rm (v a : Nat) (g : Nat → Int32) (j : Nat) : Int32 :=
  if (1 ≤ j ∧ j < 109) ∧ a ≤ (j - 1) % 36 / 6 ∧ (v ≤ (j - 1) % 36 / 6 ∨ v ≤ (j - 1) % 36 % 6) then nI 0
  else if 109 + a ≤ j ∧ j < 115 then (if j < 109 + v then g j else nI 3)
  else if 115 + a ≤ j ∧ j < 121 then (if j < 115 + v then g j &&& nI (2 ^ v - 1) else nI 0)
  else if 121 + a ≤ j ∧ j < 127 then (if j = 121 then nI 0 else -4) else g j
theorem rm_6 (v : Nat) (g : Nat → Int32) : rm v 6 g = g := by
  funext j
  unfold rm
  rw [if_neg (by omega), if_neg (by omega), if_neg (by omega), if_neg (by omega)]
theorem rm_st (v a : Nat) (ha : a < 6) (g : Nat → Int32) : rm v (a + 1) (upd (upd (upd (zm v a 0 g) (109 + a) (if a < v then g (109 + a) else nI 3)) (115 + a) (if a < v then g (115 + a) &&& nI (2 ^ v - 1) else nI 0)) (121 + a) (if a = 0 then nI 0 else -4)) = rm v a g := by
  funext j
  have hz : ∀ j, 109 ≤ j → zm v a 0 g j = g j := fun j hj => by unfold zm; rw [if_neg (by omega)]
  unfold rm
  rw [upd_rd, upd_rd, upd_rd]
  by_cases h1 : (1 ≤ j ∧ j < 109) ∧ a ≤ (j - 1) % 36 / 6 ∧ (v ≤ (j - 1) % 36 / 6 ∨ v ≤ (j - 1) % 36 % 6)
  · rw [if_pos h1]
    by_cases h2 : a + 1 ≤ (j - 1) % 36 / 6
    · rw [if_pos (by omega)]
    · rw [if_neg (by omega), if_neg (by omega), if_neg (by omega), if_neg (by omega), if_neg (by omega), if_neg (by omega), if_neg (by omega)]
      unfold zm
      rw [if_pos (by omega)]
  · rw [if_neg h1, if_neg (by omega)]
    by_cases h2 : 109 + a ≤ j ∧ j < 115
    · rw [if_pos h2]
      by_cases h3 : j = 109 + a
      · subst h3
        rw [if_neg (by omega), if_neg (by omega), if_neg (by omega), if_neg (by omega), if_neg (by omega), if_pos rfl]
        by_cases h4 : a < v
        · rw [if_pos h4, if_pos (by omega)]
        · rw [if_neg h4, if_neg (by omega)]
      · rw [if_pos (by omega), if_neg (show ¬ j = 121 + a by omega), if_neg (show ¬ j = 115 + a by omega), if_neg h3, hz j (by omega)]
    · rw [if_neg h2, if_neg (by omega)]
      by_cases h3 : 115 + a ≤ j ∧ j < 121
      · rw [if_pos h3]
        by_cases h4 : j = 115 + a
        · subst h4
          rw [if_neg (by omega), if_neg (by omega), if_neg (by omega), if_pos rfl]
          by_cases h5 : a < v
          · rw [if_pos h5, if_pos (by omega)]
          · rw [if_neg h5, if_neg (by omega)]
        · rw [if_pos (by omega), if_neg (show ¬ j = 121 + a by omega), if_neg h4, if_neg (show ¬ j = 109 + a by omega), hz j (by omega)]
      · rw [if_neg h3, if_neg (by omega)]
        by_cases h4 : 121 + a ≤ j ∧ j < 127
        · rw [if_pos h4]
          by_cases h5 : j = 121 + a
          · subst h5
            rw [if_neg (by omega), if_pos rfl]
            by_cases h6 : a = 0
            · rw [if_pos h6, if_pos (by omega)]
            · rw [if_neg h6, if_neg (by omega)]
          · rw [if_pos (by omega)]
        · rw [if_neg h4, if_neg (by omega), if_neg (by omega), if_neg (by omega), if_neg (by omega)]
          unfold zm
          rw [if_neg (by omega)]
theorem sm_domains44 (v : Nat) (hv : v ≤ 6) (r : Int32) (s : mx_G) : ∀ (m a f : Nat) (g : Nat → Int32), a + m = 6 → lX11_domains_44 (nI v) r (m + 1 + f) (nI a) (gs s 46 g) = some (r, gs s 46 (rm v a g)) := by
  have hp := pow_le64 v (by omega)
  intro m
  induction m with
  | zero =>
    intro a f g h
    rw [show 0 + 1 + f = f + 1 by omega, lX11_domains_44, if_pos (by rw [li_6, leI (by omega) (by omega)]; omega), show a = 6 by omega, rm_6]
  | succ m ih =>
    intro a f g h
    obtain ⟨f', hf⟩ := FU_lt (n := 6) (by omega)
    have hz : ∀ g', lX11_domains_44 (nI v) r (m + 1 + f) (nI (a + 1)) (gs s 46 g') = some (r, gs s 46 (rm v (a + 1) g')) := fun g' => ih (a + 1) f g' (by omega)
    have hk : ∀ j, 109 ≤ j → zm v a 0 g j = g j := fun j hj => by unfold zm; rw [if_neg (by omega)]
    have hst := rm_st v a (by omega) g
    rw [show m + 1 + 1 + f = (m + 1 + f) + 1 by omega, lX11_domains_44, if_neg (by rw [li_6, leI (by omega) (by omega)]; omega), hf, show (0 : Int32) = nI 0 from rfl, sm_domains53 v a hv (by omega) r _ s 6 0 f' g (by omega)]
    have hs1 : mv_shl 1 (nI v) - 1 = nI (2 ^ v - 1) := by rw [shl_n v (by omega), li_1, suI hp.1]
    rw [hs1]
    simp (disch := omega) only [li_1, li_3, li_109, li_115, li_121, muI, adI, ixT, clI, if_true, mv_let, bd_some, gi_of, ltI, eqI, gs_rd, hz, upd_rd, hk]
    by_cases h1 : a < v
    · simp only [if_pos h1] at hst ⊢
      rw [if_neg (show ¬ 115 + a = 109 + a by omega)]
      by_cases h2 : a = 0
      · simp only [if_pos h2] at hst ⊢
        rw [hst]
      · simp only [if_neg h2] at hst ⊢
        rw [hst]
    · simp only [if_neg h1] at hst ⊢
      by_cases h2 : a = 0
      · simp only [if_pos h2] at hst ⊢
        rw [hst]
      · simp only [if_neg h2] at hst ⊢
        rw [hst]
theorem dw_rd (v : Nat) (h2 : 2 ≤ v) (h6 : v ≤ 6) (c : Nat → Int32) (j : Nat) : dw v c j = if j = 0 then nI v else if j < 7 then (if j < 1 + v then c j else nI 3) else if j < 13 then (if j < 7 + v then c j &&& nI (2 ^ v - 1) else nI 0) else if j < 121 then (if (j - 13) % 36 / 6 < v ∧ (j - 13) % 36 % 6 < v then c j else nI 0) else if 122 ≤ j ∧ j < 127 then -4 else c j := by
  unfold dw fg
  by_cases e0 : j = 0
  · subst e0
    rw [if_pos rfl, if_neg (by omega)]
    unfold mk7 rz
    rw [if_neg (by omega), if_neg (by omega), if_neg (by omega), if_neg (by omega), upd_rd, if_pos rfl]
  · rw [if_neg e0]
    by_cases e1 : 122 ≤ j ∧ j < 127
    · rw [if_pos e1, if_neg (by omega), if_neg (by omega), if_neg (by omega), if_pos e1]
    · rw [if_neg e1, if_neg e1]
      unfold mk7 rz
      rw [upd_rd, if_neg e0]
      by_cases e2 : j < 7
      · rw [if_pos e2, if_neg (by omega)]
        by_cases e3 : j < 1 + v
        · rw [if_pos e3, if_neg (by omega), if_neg (by omega), if_neg (by omega)]
        · rw [if_neg e3, if_pos (by omega)]
      · rw [if_neg e2, if_neg (show ¬ (1 + v ≤ j ∧ j < 7) by omega)]
        by_cases e3 : j < 13
        · rw [if_pos e3]
          by_cases e4 : j < 7 + v
          · rw [if_pos e4, if_pos (by omega), if_neg (by omega), if_neg (by omega)]
          · rw [if_neg e4, if_neg (by omega), if_pos (by omega)]
        · rw [if_neg e3, if_neg (by omega), if_neg (by omega)]
          by_cases e4 : j < 121
          · rw [if_pos e4]
            by_cases e5 : (j - 13) % 36 / 6 < v ∧ (j - 13) % 36 % 6 < v
            · rw [if_pos e5, if_neg (by omega)]
            · rw [if_neg e5, if_pos (by omega)]
          · rw [if_neg e4, if_neg (by omega)]
theorem dw_RW {f c : Nat → Int32} (h : RW f c) (hz : c 121 = nI 0) (v : Nat) (h2 : 2 ≤ v) (h6 : v ≤ 6) : RW (rm v 0 (upd f 0 (nI v))) (dw v c) := by
  intro j hj
  rw [dw_rd v h2 h6]
  have hp := h j hj
  unfold rm
  rw [upd_rd]
  by_cases e0 : j = 0
  · have e : pi j = 0 := by unfold pi; rw [if_pos e0]
    rw [e, if_pos rfl, if_neg (by omega), if_neg (by omega), if_neg (by omega), if_neg (by omega), if_pos e0]
  by_cases e1 : j < 109
  · have e : pi j = j + 12 := by unfold pi; rw [if_neg e0, if_pos e1]
    rw [e] at hp ⊢
    rw [if_neg (show ¬ j + 12 = 0 by omega), if_neg (show ¬ j + 12 < 7 by omega), if_neg (show ¬ j + 12 < 13 by omega), if_pos (show j + 12 < 121 by omega), if_neg e0, show j + 12 - 13 = j - 1 by omega]
    by_cases e2 : (j - 1) % 36 / 6 < v ∧ (j - 1) % 36 % 6 < v
    · rw [if_pos e2, if_neg (by omega), if_neg (by omega), if_neg (by omega), if_neg (by omega), hp]
    · rw [if_neg e2, if_pos (by omega)]
  by_cases e2 : j < 121
  · have e : pi j = j - 108 := by unfold pi; rw [if_neg e0, if_neg e1, if_pos e2]
    rw [e] at hp ⊢
    rw [if_neg (by omega), if_neg (show ¬ j - 108 = 0 by omega), if_neg e0]
    by_cases e3 : j < 115
    · rw [if_pos (show j - 108 < 7 by omega), if_pos (show 109 + 0 ≤ j ∧ j < 115 by omega)]
      by_cases e4 : j < 109 + v
      · rw [if_pos e4, if_pos (by omega), hp]
      · rw [if_neg e4, if_neg (by omega)]
    · rw [if_neg (show ¬ j - 108 < 7 by omega), if_neg (show ¬ (109 + 0 ≤ j ∧ j < 115) by omega), if_pos (show j - 108 < 13 by omega), if_pos (show 115 + 0 ≤ j ∧ j < 121 by omega)]
      by_cases e4 : j < 115 + v
      · rw [if_pos e4, if_pos (by omega), hp]
      · rw [if_neg e4, if_neg (by omega)]
  · have e : pi j = j := by unfold pi; rw [if_neg e0, if_neg e1, if_neg e2]
    rw [e] at hp ⊢
    rw [if_neg (by omega), if_neg (show ¬ (109 + 0 ≤ j ∧ j < 115) by omega), if_neg (show ¬ (115 + 0 ≤ j ∧ j < 121) by omega), if_neg e0, if_neg e0, if_neg (show ¬ j < 7 by omega), if_neg (show ¬ j < 13 by omega), if_neg e2]
    by_cases e3 : j = 121
    · subst e3
      rw [if_pos (show 121 + 0 ≤ 121 ∧ 121 < 127 by omega), if_pos rfl, if_neg (by omega), hz]
    · by_cases e4 : j < 127
      · rw [if_pos (show 121 + 0 ≤ j ∧ j < 127 by omega), if_neg e3, if_pos (by omega)]
      · rw [if_neg (show ¬ (121 + 0 ≤ j ∧ j < 127) by omega), if_neg (by omega), hp]
def dN (v : Nat) (c : Nat → Int32) (j : Nat) : Nat := if j = 0 then v else if j < 7 then (if j < 1 + v then N c j else 3) else if j < 13 then (if j < 7 + v then N c j &&& (2 ^ v - 1) else 0) else (if (j - 13) % 36 / 6 < v ∧ (j - 13) % 36 % 6 < v then N c j else 0)
theorem WOK.resized {c : Nat → Int32} (h : WOK c) (v : Nat) (h2 : 2 ≤ v) (h6 : v ≤ 6) : WOK (dw v c) := by
  obtain ⟨g1, g2, g3, g4, g5, g6, g7⟩ := h
  have hp := pow_le64 v (by omega)
  have hR := dw_rd v h2 h6 c
  have hD : ∀ j, j < 121 → dw v c j = nI (dN v c j) := by
    intro j hj
    rw [hR]
    unfold dN
    rw [if_pos hj]
    split
    · rfl
    · split
      · split
        · exact g2 j hj
        · rfl
      · split
        · split
          · rename_i q1 q2 q3 q4
            have := (g4 (j - 7) (by omega)).2
            rw [show 7 + (j - 7) = j by omega] at this
            rw [g2 j hj, and_n _ this _ (by omega)]
          · rfl
        · split
          · exact g2 j hj
          · rfl
  have hL : ∀ j, dN v c j < 2147483648 := by
    intro j
    unfold dN
    have := N_lt c j
    have : N c j &&& (2 ^ v - 1) ≤ N c j := Nat.and_le_left
    split
    · omega
    · split
      · split <;> omega
      · split
        · split <;> omega
        · split <;> omega
  have hN : ∀ j, j < 121 → N (dw v c) j = dN v c j := fun j hj => N_nI (hD j hj) (hL j)
  have hP : ∀ o a b : Nat, (o = 13 ∨ o = 49 ∨ o = 85) → a < 6 → b < 6 → N (dw v c) (o + a * 6 + b) = if a < v ∧ b < v then N c (o + a * 6 + b) else 0 := by
    intro o a b ho ha hb
    rw [hN _ (by omega)]
    unfold dN
    rw [if_neg (by omega), if_neg (by omega), if_neg (by omega)]
    by_cases e : a < v ∧ b < v
    · rw [if_pos e, if_pos (by omega)]
    · rw [if_neg e, if_neg (by omega)]
  have h0 : N (dw v c) 0 = v := by rw [hN 0 (by omega)]; unfold dN; rw [if_pos rfl]
  refine ⟨by rw [h0]; exact ⟨h2, h6⟩, fun k hk => by rw [hN k hk]; exact hD k hk, ?_, fun d hd => ?_, fun a b ha hb => ?_, ?_, fun d hd hd6 => ?_⟩
  · have e : dw v c 127 = c 127 := by rw [hR]; rfl
    unfold N
    rw [e]
    exact g3
  · have := g4 d hd
    rw [hN _ (by omega), hN _ (by omega)]
    have a1 : dN v c (1 + d) = if 1 + d < 1 + v then N c (1 + d) else 3 := by
      unfold dN; rw [if_neg (by omega), if_pos (by omega)]
    have a2 : dN v c (7 + d) = if 7 + d < 7 + v then N c (7 + d) &&& (2 ^ v - 1) else 0 := by
      unfold dN; rw [if_neg (by omega), if_neg (by omega), if_pos (by omega)]
    rw [a1, a2]
    have : N c (7 + d) &&& (2 ^ v - 1) ≤ N c (7 + d) := Nat.and_le_left
    constructor
    · split <;> omega
    · split <;> omega
  · have q := g5 a b ha hb
    rw [h0, hP 13 a b (by omega) ha hb, hP 49 a b (by omega) ha hb, hP 85 a b (by omega) ha hb, hP 13 b a (by omega) hb ha, hP 49 b a (by omega) hb ha]
    by_cases e : a < v ∧ b < v
    · have e' : b < v ∧ a < v := ⟨e.2, e.1⟩
      simp only [if_pos e, if_pos e']
      refine ⟨q.1, q.2.1, q.2.2.1, q.2.2.2.1, q.2.2.2.2.1, q.2.2.2.2.2.1, fun z => ?_⟩
      rcases z with z | z
      · exact q.2.2.2.2.2.2 (Or.inl z)
      · omega
    · have e' : ¬ (b < v ∧ a < v) := fun z => e ⟨z.2, z.1⟩
      simp only [if_neg e, if_neg e']
      exact ⟨by omega, by omega, by omega, rfl, trivial, fun _ => trivial, fun _ => trivial⟩
  · have e : dw v c 121 = c 121 := by rw [hR]; rfl
    rw [e]; exact g6
  · have e : dw v c (121 + d) = -4 := by rw [hR, if_neg (by omega), if_neg (by omega), if_neg (by omega), if_neg (by omega), if_pos (by omega)]
    rw [e]
    exact ⟨fun _ => rfl, fun _ => Or.inl rfl⟩
theorem sm_domainsY {v n : Nat} (hv2 : 2 ≤ v) (hv6 : v ≤ 6) (hn : n ≤ 6) (hv : ¬ n = v) {τ τ1 : mx_G} (nm : τ.1 46 0 = nI n) (f1 : fX11_notes τ = some ((), τ1)) : fX11_domains (nI v) τ = some (nI n, gs τ1 46 (rm v 0 (upd (τ1.1 46) 0 (nI v)))) := by
  obtain ⟨f, hf⟩ := FU_lt (n := 6) (by omega)
  have hv' : ¬ nI n = nI v := by rw [eqI (by omega) (by omega)]; exact hv
  have h1 : nI 2 ≤ nI v ∧ nI v ≤ nI 6 := ⟨by rw [leI (by omega) (by omega)]; exact hv2, by rw [leI (by omega) (by omega)]; exact hv6⟩
  unfold fX11_domains
  rw [sm_inI (nI v) (a := 2) (b := 6) (by omega) (by omega) 2 6 (by decide) (by decide) τ, if_pos h1, bd_some, if_neg one_ne, li_0, ixT (by omega) (by omega), if_pos rfl, clI (by omega), nm, mv_let, if_neg hv', f1, bd_some, if_pos rfl, mv_let, gi_gs, hf]
  exact sm_domains44 v hv6 _ τ1 6 0 f _ (by omega)
theorem sm_domainsE {v : Nat} (hv2 : 2 ≤ v) (hv6 : v ≤ 6) {τ : mx_G} (nm : τ.1 46 0 = nI v) : fX11_domains (nI v) τ = some (-2, τ) := by
  have h1 : nI 2 ≤ nI v ∧ nI v ≤ nI 6 := ⟨by rw [leI (by omega) (by omega)]; exact hv2, by rw [leI (by omega) (by omega)]; exact hv6⟩
  unfold fX11_domains
  rw [sm_inI (nI v) (a := 2) (b := 6) (by omega) (by omega) 2 6 (by decide) (by decide) τ, if_pos h1, bd_some, if_neg one_ne, li_0, ixT (by omega) (by omega), if_pos rfl, clI (by omega), nm, mv_let, if_pos rfl]
theorem sm_domainsN {p : Int32} (h1 : ¬ (nI 2 ≤ p ∧ p ≤ nI 6)) (τ : mx_G) : fX11_domains p τ = some (-1, τ) := by
  unfold fX11_domains
  rw [sm_inI p (a := 2) (b := 6) (by omega) (by omega) 2 6 (by decide) (by decide) τ, if_neg h1, bd_some, if_pos rfl]
theorem v_of {p1 : Int32} (h1 : nI 2 ≤ p1 ∧ p1 ≤ nI 6) : ∃ v : Nat, 2 ≤ v ∧ v ≤ 6 ∧ p1 = nI v := by
  rcases nI_ex p1 with z | ⟨j, hj, rfl⟩
  · exact absurd z (Int32.not_lt.mpr (Int32.le_trans (by decide) h1.1))
  · refine ⟨j, ?_, ?_, rfl⟩
    · have := h1.1; rwa [leI (by omega) (by omega)] at this
    · have := h1.2; rwa [leI (by omega) (by omega)] at this
section ACT
variable {IC : Nat → mx_G → Prop}
theorem ok_domains (hC : ICok IC) : pv_domains (Inv IC) := by
  intro k σ p1 hk h
  obtain ⟨n2, n6, nx, nm⟩ := h.n
  have hz := h.1.2.2.2.2.2.2.1
  unfold fX10_domains
  by_cases h1 : nI 2 ≤ p1 ∧ p1 ≤ nI 6
  · obtain ⟨v, hv2, hv6, rfl⟩ := v_of h1
    have c1 : ¬ nI v < 2 := by rw [li_2, ltI (by omega) (by omega)]; omega
    have c2 : nI v ≤ 6 := by rw [li_6, leI (by omega) (by omega)]; omega
    have hsz : fX9_size σ = some (nI (N (σ.1 2) 0), σ) := by
      unfold fX9_size
      simp (disch := omega) only [li_0, ixT, clI, if_true, nx]
    by_cases hv : N (σ.1 2) 0 = v
    · refine pv_same hC h (-2) ?_ ?_
      · rw [if_neg c1, if_pos c2, hsz, bd_some, if_pos (by rw [hv])]
      · exact sm_domainsE hv2 hv6 (by rw [nm, hv])
    · have hv' : ¬ nI (N (σ.1 2) 0) = nI v := by rw [eqI (by omega) (by omega)]; exact hv
      obtain ⟨σ1, e1, e2, e3, act⟩ := h.act hC
      have hw2 : (gs σ1 2 (dw v (σ.1 2))).1 2 = dw v (σ.1 2) := gs_rd _ _ _
      obtain ⟨τ1, f1, f46, fin⟩ := act (gs σ1 2 (dw v (σ.1 2))) (fun p hp => ⟨by rw [rd_gs, if_neg (fun z : p = 2 => hp (by rw [z]; decide))], rfl⟩) (by rw [hw2]; exact h.1.2.resized v hv2 hv6) _ (Sc.rf _)
      have m46 : (gs σ1 2 (dw v (σ.1 2))).1 46 = σ.1 46 := by rw [rd_gs, if_neg (by decide)]; exact e3 46 (by decide)
      refine ⟨nI (N (σ.1 2) 0), gs σ1 2 (dw v (σ.1 2)), gs τ1 46 (rm v 0 (upd (σ.1 46) 0 (nI v))), ?_, ?_, ?_⟩
      · rw [if_neg c1, if_pos c2, hsz, bd_some, if_neg hv', e1, bd_some, sx_resize v hv6, bd_some, e2]
      · exact (sm_domainsY hv2 hv6 n6 hv (by rw [m46]; exact nm) f1).trans (by rw [f46])
      · refine fin _ (fun p hp hp5 => ⟨by rw [rd_gs, if_neg (fun z : p = 46 => hp (by rw [z]; decide))], rfl⟩) (fun k _ _ _ => by rw [rd_gs, if_neg (by decide)]) rfl ?_
        rw [hw2, gs_rd]
        exact dw_RW h.1.1 hz v hv2 hv6
  · refine pv_same hC h (-1) ?_ ?_
    · by_cases c1 : p1 < 2
      · rw [if_pos c1]
      · rw [if_neg c1, if_neg (show ¬ p1 ≤ 6 from fun c2 => h1 ⟨Int32.not_lt.mp c1, c2⟩)]
    · exact sm_domainsN h1 σ
end ACT
