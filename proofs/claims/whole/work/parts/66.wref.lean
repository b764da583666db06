/-! PURE PART: the reference lays all permitted ways -/
def MR (L : List (List Nat)) (t : mx_G) : Prop := t.1 45 13 = nI L.length ∧ ∀ i l, L[i]? = some l → t.1 54 i = nI (wnum l) ∧ t.1 55 i = nI (hd0 l)
theorem get_snoc {L : List (List Nat)} {y x : List Nat} {i : Nat} (h : (L ++ [y])[i]? = some x) : L[i]? = some x ∨ (i = L.length ∧ x = y) := by
  by_cases z : i < L.length
  · rw [List.getElem?_append_left z] at h; exact Or.inl h
  · rw [List.getElem?_append_right (by omega)] at h
    by_cases z2 : i = L.length
    · subst z2
      rw [Nat.sub_self] at h
      have h : some y = some x := h
      injection h with h
      exact Or.inr ⟨rfl, h.symm⟩
    · rw [List.getElem?_eq_none (by simp; omega)] at h; cases h
theorem get_lt {L : List (List Nat)} {x : List Nat} {i : Nat} (h : L[i]? = some x) : i < L.length := (List.getElem?_eq_some_iff.mp h).1
theorem sm_lw31 {c : Nat → Int32} (ho : WOK c) {n k : Nat} (hn : 0 < n) (h6 : n ≤ 6) {L : List (List Nat)} (hg : Gd c n k L) {l : List Nat} (hl : L[k]? = some l) (K : mx_G → Option (Unit × mx_G)) : ∀ (m d f : Nat) (t : mx_G), d + m = n → 1 ≤ d → RW (t.1 46) c → t.1 46 0 = nI n → MR (L ++ ex c l d) t → ∃ t', lX11_laysWays_31 (nI k) K (m + 1 + f) (nI d) t = K t' ∧ MR (L ++ ex c l n) t' ∧ t'.1 46 = t.1 46 ∧ t'.2 = t.2 ∧ ∀ j, j ≠ 13 → t'.1 45 j = t.1 45 j := by
  have hx0 : ix 0 128 = true := by rw [li_0]; exact ixT (by omega) (by omega)
  have hz : Int32.toNatClampNeg 0 = 0 := by decide
  have hL := L_len hn h6 hg.1 hg.2.2.1
  have hkL := get_lt hl
  have hway : Way n l := hg.2.2.1 l (List.mem_of_getElem? hl)
  have hlen := hway.len hn
  intro m
  induction m with
  | zero =>
    intro d f t h h1 hw h0 hm
    have : d = n := by omega
    subst this
    refine ⟨t, ?_, hm, rfl, rfl, fun _ _ => rfl⟩
    rw [show 0 + 1 + f = f + 1 by omega, lX11_laysWays_31, if_pos hx0, hz, h0, if_pos (nI_le (by omega) (by omega))]
  | succ m ih =>
    intro d f t h h1 hw h0 hm
    have e1 : nI d + 1 = nI (d + 1) := by rw [li_1, adI]
    have hk54 : t.1 54 k = nI (wnum l) := (hm.2 k l (by rw [List.getElem?_append_left hkL]; exact hl)).1
    have et := sm_takes (s := t) hw ho hn h6 (show d < 6 by omega) hway
    rw [show m + 1 + 1 + f = (m + 1 + f) + 1 by omega, lX11_laysWays_31, if_pos hx0, hz, h0, if_neg (nI_ge (by omega) (by omega)), ixT (by omega) (by omega), if_pos rfl, clI (by omega), hk54, et, bd_some, e1]
    by_cases z : tk c d l
    · have hexd : ex c l (d + 1) = ex c l d ++ [d :: l] := by rw [ex, if_pos ⟨by omega, z⟩]
      have hg2 := hg.add ho hn h6 hl (d + 1) (by omega)
      have hb := (L_len hn h6 hg2.1 hg2.2.2.1).1
      rw [hexd, ← List.append_assoc, List.length_append, List.length_singleton] at hb
      have q13 := hm.1
      rw [if_pos z, if_neg one_ne, if_pos rfl, hk54, sm_together (hway.dg hn h6) hway.ld (by omega), bd_some, q13, ixT (by omega) (by omega), if_pos rfl, clI (by omega)]
      simp only [mv_let]
      have q13a : (gi t 54 (L ++ ex c l d).length (nI (wnum (d :: l)))).1 45 13 = nI (L ++ ex c l d).length := by
        rw [rd_gi, if_neg (by decide)]; exact q13
      rw [q13a, ixT (by omega) (by omega), if_pos rfl, clI (by omega)]
      have q13b : (gi (gi t 54 (L ++ ex c l d).length (nI (wnum (d :: l)))) 55 (L ++ ex c l d).length (nI d)).1 45 13 = nI (L ++ ex c l d).length := by
        rw [rd_gi, if_neg (by decide), rd_gi, if_neg (by decide)]; exact q13
      rw [q13b, li_1, adI]
      obtain ⟨t', a1, a2, a3, a5, a4⟩ := ih (d + 1) f (gi (gi (gi t 54 (L ++ ex c l d).length (nI (wnum (d :: l)))) 55 (L ++ ex c l d).length (nI d)) 45 13 (nI ((L ++ ex c l d).length + 1))) (by omega) (by omega) (by simp only [rd_gi, Nat.reduceEqDiff, if_false]; exact hw) (by simp only [rd_gi, Nat.reduceEqDiff, if_false]; exact h0) (by
        rw [hexd, ← List.append_assoc]
        refine ⟨?_, fun i x hx => ?_⟩
        · rw [rd_gi, if_pos rfl, upd_rd, if_pos rfl, List.length_append (bs := [d :: l]), List.length_singleton]
        · simp only [rd_gi, Nat.reduceEqDiff, if_false, if_true, upd_rd]
          rcases get_snoc hx with hx | ⟨rfl, rfl⟩
          · have := get_lt hx
            rw [if_neg (by omega), if_neg (by omega)]
            exact hm.2 i x hx
          · rw [if_pos rfl, if_pos rfl]
            exact ⟨rfl, rfl⟩)
      refine ⟨t', a1, a2, ?_, a5, fun j hj => ?_⟩
      · rw [a3]; simp only [rd_gi, Nat.reduceEqDiff, if_false]
      · rw [a4 j hj]; simp only [rd_gi, Nat.reduceEqDiff, if_false, if_true, upd_rd, hj]
    · have hexd : ex c l (d + 1) = ex c l d := by rw [ex, if_neg (fun q => z q.2)]
      rw [if_neg z, if_pos rfl]
      exact ih (d + 1) f t (by omega) (by omega) hw h0 (by rw [hexd]; exact hm)
theorem sm_lw21 {c : Nat → Int32} (ho : WOK c) {n : Nat} (hn : 0 < n) (h6 : n ≤ 6) : ∀ (m k f : Nat) (t : mx_G), k + m = 326 → RW (t.1 46) c → t.1 46 0 = nI n → MR (qs c n k) t → ∃ t', lX11_laysWays_21 (m + 1 + f) (nI k) t = some ((), t') ∧ MR (WL c n) t' ∧ t'.2 = t.2 ∧ ∀ j, j ≠ 13 → t'.1 45 j = t.1 45 j := by
  intro m
  induction m with
  | zero =>
    intro k f t h hw h0 hm
    have hb := (qs_len ho hn h6 k).1
    rw [show 0 + 1 + f = f + 1 by omega, lX11_laysWays_21, hm.1, if_pos (nI_le (by omega) (by omega))]
    exact ⟨t, rfl, by rw [← WL_end ho hn h6 (k := k) (by omega)]; exact hm, rfl, fun _ _ => rfl⟩
  | succ m ih =>
    intro k f t h hw h0 hm
    have hb := (qs_len ho hn h6 k).1
    rw [show m + 1 + 1 + f = (m + 1 + f) + 1 by omega, lX11_laysWays_21, hm.1]
    by_cases z : (qs c n k).length ≤ k
    · rw [if_pos (nI_le z (by omega))]
      exact ⟨t, rfl, by rw [← WL_end ho hn h6 (k := k) z]; exact hm, rfl, fun _ _ => rfl⟩
    · rw [if_neg (nI_ge (by omega) (by omega))]
      have hl : (qs c n k)[k]? = some ((qs c n k)[k]'(by omega)) := List.getElem?_eq_getElem (by omega)
      generalize (qs c n k)[k]'(by omega) = l at hl
      obtain ⟨g, hg⟩ := FU_lt (n := n - 1) (by omega)
      have e1 : nI k + 1 = nI (k + 1) := by rw [li_1, adI]
      have ex1 : ex c l 1 = [] := by rw [ex, if_neg (by omega), ex]
      obtain ⟨t1, a1, a2, a3, a5, a4⟩ := sm_lw31 ho hn h6 (qs_gd ho hn h6 k) hl (fun s11 => lX11_laysWays_21 (m + 1 + f) (nI k + 1) s11) (n - 1) 1 g t (by omega) (by omega) hw h0 (by rw [ex1, List.append_nil]; exact hm)
      rw [← hg] at a1
      have hq : qs c n (k + 1) = qs c n k ++ ex c l n := by rw [qs, hl]
      obtain ⟨t2, b1, b2, b4, b3⟩ := ih (k + 1) f t1 (by omega) (by rw [a3]; exact hw) (by rw [a3]; exact h0) (by rw [hq]; exact a2)
      refine ⟨t2, ?_, b2, b4.trans a5, fun j hj => (b3 j hj).trans (a4 j hj)⟩
      refine Eq.trans a1 ?_
      show lX11_laysWays_21 (m + 1 + f) (nI k + 1) t1 = _
      rw [e1]
      exact b1
theorem sm_laysWays {c : Nat → Int32} (ho : WOK c) {n : Nat} (hn : 0 < n) (h6 : n ≤ 6) {t : mx_G} (hw : RW (t.1 46) c) (h0 : t.1 46 0 = nI n) : ∃ t', fX11_laysWays t = some ((), t') ∧ MR (WL c n) t' ∧ t'.2 = t.2 ∧ (∀ j, j ≠ 13 → t'.1 45 j = t.1 45 j) ∧ ∀ p : Nat, p ∉ [45, 54, 55] → t'.1 p = t.1 p ∧ t'.2 p = t.2 p := by
  obtain ⟨f, hf⟩ := FU_lt (n := 326) (by omega)
  have hx0 : ix 0 326 = true := by rw [li_0]; exact ixT (by omega) (by omega)
  have hz : Int32.toNatClampNeg 0 = 0 := by decide
  obtain ⟨t', a1, a2, a4, a3⟩ := sm_lw21 ho hn h6 326 0 f (gi (gi (gi t 45 13 1) 54 0 0) 55 0 0) (by omega) (by simp only [rd_gi, Nat.reduceEqDiff, if_false]; exact hw) (by simp only [rd_gi, Nat.reduceEqDiff, if_false]; exact h0) (by
    refine ⟨?_, fun i l hl => ?_⟩
    · simp only [rd_gi, Nat.reduceEqDiff, if_false, if_true, upd_rd]; rfl
    · rw [qs] at hl
      have := get_lt hl
      have : i = 0 := by simpa using this
      subst this
      have hl : some [0] = some l := hl
      injection hl with hl
      subst hl
      simp only [rd_gi, Nat.reduceEqDiff, if_false, if_true, upd_rd]
      exact ⟨rfl, rfl⟩)
  rw [← hf] at a1
  have e : fX11_laysWays t = some ((), t') := by
    unfold fX11_laysWays
    rw [mv_let, if_pos hx0, hz, mv_let, if_pos hx0, mv_let]
    exact a1
  refine ⟨t', e, a2, a4, fun j hj => ?_, fun p hp => fr_X11_laysWays t _ _ e p hp⟩
  rw [a3 j hj]
  simp only [rd_gi, Nat.reduceEqDiff, if_false, if_true, upd_rd, hj]
