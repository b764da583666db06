/-! PURE PART: film -/
theorem nar9 : ∀ l : Nat, l ≤ 3 → ∀ x : Nat, x < 10 → ∀ s : mx_G, fX6_narrowed (nI l) (Int32.toInt64 (nI x)) s = some (Int32.toInt64 (nI x), s) := by
  intro l hl x hx s
  have h0 : ∀ x : Nat, x < 10 → Int32.toInt64 (Int8.toInt32 (Int32.toInt8 (Int64.toInt32 (Int32.toInt64 (nI x))))) = Int32.toInt64 (nI x) := by decide +kernel
  have h1 : ∀ x : Nat, x < 10 → Int32.toInt64 (Int16.toInt32 (Int32.toInt16 (Int64.toInt32 (Int32.toInt64 (nI x))))) = Int32.toInt64 (nI x) := by decide +kernel
  have h2 : ∀ x : Nat, x < 10 → Int32.toInt64 (Int64.toInt32 (Int32.toInt64 (nI x))) = Int32.toInt64 (nI x) := by decide +kernel
  unfold fX6_narrowed
  rcases (show l = 0 ∨ l = 1 ∨ l = 2 ∨ l = 3 by omega) with rfl | rfl | rfl | rfl
  · rw [if_pos (show nI 0 = 0 from rfl), h0 x hx]
  · rw [if_neg (by decide), if_pos (show nI 1 = 1 from rfl), h1 x hx]
  · rw [if_neg (by decide), if_neg (by decide), if_pos (show nI 2 = 2 from rfl), h2 x hx]
  · rw [if_neg (by decide), if_neg (by decide), if_neg (by decide)]
/-- the seconds laid from place b on -/
def fm (w : Nat → Option (List Nat)) (b n d : Nat) (h : Nat → Int64) (t : Nat) : Int64 := if b + d ≤ t + 1 ∧ t + 1 < b + n then Int32.toInt64 (nI (scd (w (t + 1 - b)))) else h t
theorem fm_st (w : Nat → Option (List Nat)) (b n d : Nat) (hd : d < n) (h1 : 1 ≤ d) (h : Nat → Int64) : fm w b n (d + 1) (vp_updL h (b + d - 1) (Int32.toInt64 (nI (scd (w d))))) = fm w b n d h := by
  funext t
  unfold fm
  rw [updL_rd]
  by_cases e : t = b + d - 1
  · rw [if_neg (by omega), if_pos e, if_pos (by omega), show t + 1 - b = d by omega]
  · rw [if_neg e]
    by_cases e2 : b + d ≤ t + 1 ∧ t + 1 < b + n
    · rw [if_pos e2, if_pos (by omega)]
    · rw [if_neg e2, if_neg (by omega)]
theorem fm_n (w : Nat → Option (List Nat)) (b n : Nat) (h : Nat → Int64) : fm w b n n h = h := by
  funext t
  unfold fm
  rw [if_neg (by omega)]
theorem gl_of (s : mx_G) (p k : Nat) (f : Nat → Int64) (x : Int64) : gl (gt s p f) p k x = gt s p (vp_updL f k x) := by
  show gt (gt s p f) p (vp_updL ((gt s p f).2 p) k x) = _
  rw [gt_gt, rd_gt, if_pos rfl]
theorem scd_lt {n d : Nat} (hn : 0 < n) (h6 : n ≤ 6) {w : Nat → Option (List Nat)} (hc : okC n w) (hd : d < 6) : scd (w d) < 10 := by
  cases hw : w d with
  | none => show 9 < 10; omega
  | some l =>
    have := sec_lt hn h6 (hc.2 d hd l hw).1
    show sec l < 10
    omega
theorem sx_film_l {S : mx_G} {w : Nat → Option (List Nat)} (hl : LD S w) {n s j l : Nat} (hn : 0 < n) (h6 : n ≤ 6) (hc : okC n w) (hs : s < 4) (hl3 : l ≤ 3) (hj : j + n ≤ 25) (h41 : S.1 41 s = nI l) : ∀ (m d f : Nat) (h : Nat → Int64), d + m = n → 1 ≤ d → lX10_film_47 (nI s) (nI j) (nI n) (m + 1 + f) (nI d) (gt S 43 h) = some (nI (n - 1), gt S 43 (fm w (s * 24 + j) n d h)) := by
  intro m
  induction m with
  | zero =>
    intro d f h hm h1
    rw [show 0 + 1 + f = f + 1 by omega, lX10_film_47, if_pos (nI_le (by omega) (by omega)), li_1, suI (by omega), show d = n by omega, fm_n]
  | succ m ih =>
    intro d f h hm h1
    have hi := ih (d + 1) f (vp_updL h (s * 24 + j + d - 1) (Int32.toInt64 (nI (scd (w d))))) (by omega) (by omega)
    rw [fm_st w (s * 24 + j) n d (by omega) h1] at hi
    have e1 : nI d + 1 = nI (d + 1) := by rw [li_1, adI]
    have e2 : fX0_secondOf (nI d) (gt S 43 h) = some (nI (scd (w d)), gt S 43 h) := by
      unfold fX0_secondOf
      rw [ixT (by omega) (by omega), if_pos rfl, clI (by omega), rd_gt1, (hl d (by omega)).2.2.1]
    have e3 : nI j + nI d - 1 = nI (j + d - 1) := by rw [li_1, adI, suI (by omega)]
    have e4 : fX6_setItem (nI s) (nI (j + d - 1)) (Int32.toInt64 (nI (scd (w d)))) (gt S 43 h) = some ((), gt S 43 (vp_updL h (s * 24 + j + d - 1) (Int32.toInt64 (nI (scd (w d)))))) := by
      unfold fX6_setItem
      rw [ixT (by omega) (by omega), if_pos rfl, clI (by omega), rd_gt1, h41, nar9 l hl3 _ (scd_lt hn h6 hc (by omega)), bd_some, li_24, muI, adI, ixT (by omega) (by omega), if_pos rfl, clI (by omega), mv_let, gl_of, show s * 24 + (j + d - 1) = s * 24 + j + d - 1 by omega]
    rw [show m + 1 + 1 + f = (m + 1 + f) + 1 by omega, lX10_film_47, if_neg (nI_ge (by omega) (by omega)), e2, bd_some, e3, e4, bd_some, e1]
    exact hi
theorem sm_film_l {S : mx_G} {w : Nat → Option (List Nat)} {n s j : Nat} (hn : 0 < n) (h6 : n ≤ 6) (hc : okC n w) (h0 : S.1 46 0 = nI n) (hv : ∀ e, e < 6 → S.1 46 (121 + e) = val (w e)) (hs : s < 4) (hj : j + n ≤ 25) (K : mx_G → Option (Int32 × mx_G)) : ∀ (m d f : Nat) (h : Nat → Int64), d + m = n → 1 ≤ d → lX11_film_38 (nI s) (nI j) K (m + 1 + f) (nI d) (gt S 53 h) = K (gt S 53 (fm w (24 * s + j) n d h)) := by
  have hx0 : ix 0 128 = true := by rw [li_0]; exact ixT (by omega) (by omega)
  have hz : Int32.toNatClampNeg 0 = 0 := by decide
  intro m
  induction m with
  | zero =>
    intro d f h hm h1
    rw [show 0 + 1 + f = f + 1 by omega, lX11_film_38, if_pos hx0, hz, rd_gt1, h0, if_pos (nI_le (by omega) (by omega)), show d = n by omega, fm_n]
  | succ m ih =>
    intro d f h hm h1
    have hi := ih (d + 1) f (vp_updL h (24 * s + j + d - 1) (Int32.toInt64 (nI (scd (w d))))) (by omega) (by omega)
    rw [fm_st w (24 * s + j) n d (by omega) h1] at hi
    have e1 : nI d + 1 = nI (d + 1) := by rw [li_1, adI]
    have e3 : nI 24 * nI s + nI j + nI d - 1 = nI (24 * s + j + d - 1) := by rw [li_1, muI, adI, adI, suI (by omega)]
    rw [show m + 1 + 1 + f = (m + 1 + f) + 1 by omega, lX11_film_38, if_pos hx0, hz, rd_gt1, h0, if_neg (nI_ge (by omega) (by omega)), li_121, adI, ixT (by omega) (by omega), if_pos rfl, clI (by omega), li_24, e3, ixT (by omega) (by omega), hv d (by omega), e1]
    simp only [mv_let]
    rw [clI (by omega)]
    cases hwd : w d with
    | none =>
      rw [hwd] at hi
      rw [if_pos (show val none = -4 from rfl), if_pos trivial, show (9 : Int64) = Int32.toInt64 (nI 9) by decide, gl_of]
      exact hi
    | some l =>
      obtain ⟨g1, g2⟩ := hc.2 d (by omega) l hwd
      rw [hwd] at hi
      have hsec : ¬ sec l = 9 := by
        cases l with
        | nil => exact g1.elim
        | cons x r =>
          cases r with
          | nil =>
            have g1 : x = 0 := g1
            have g2 : x = d := g2
            omega
          | cons y r =>
            have := g1.lt hn y (by simp)
            show ¬ y = 9
            omega
      rw [if_neg (val_inj hn h6 g1), show val (some l) = nI (wnum l) from rfl, sm_second hn h6 g1, bd_some, if_neg hsec, if_pos trivial, gl_of]
      exact hi
