/-! PURE PART: what the reference would choose -/
theorem dif : ∀ a : Nat, a < 10 → ∀ b : Nat, b < 10 → ((nI a - nI b = 0 ↔ a = b) ∧ (0 ≤ nI a - nI b ↔ b ≤ a) ∧ (nI a - nI b ≤ 0 ↔ a ≤ b)) := by decide +kernel
theorem odd1 : ∀ t : Nat, t < 4 → ((nI t &&& 1 = 1) ↔ ¬ (nI t &&& 1 = 0)) := by decide +kernel
theorem rk_lex {X1 X2 Y1 Y2 L1 L2 v1 v2 : Nat} (a1 : X1 ≤ 3) (a2 : X2 ≤ 3) (b1 : Y1 ≤ 9) (b2 : Y2 ≤ 9) (c1 : L1 < 8) (c2 : L2 < 8) (d1 : v1 < 1000000) (d2 : v2 < 1000000) : (((X1 * 10 + 9 - Y1) * 8) + L1) * 1000000 + v1 < (((X2 * 10 + 9 - Y2) * 8) + L2) * 1000000 + v2 ↔ X1 < X2 ∨ (X1 = X2 ∧ (Y2 < Y1 ∨ (Y1 = Y2 ∧ (L1 < L2 ∨ (L1 = L2 ∧ v1 < v2))))) := by
  constructor <;> intro h <;> omega
theorem sm_isBetter {s : mx_G} {c : Nat → Int32} (hw : RW (s.1 46) c) (ho : WOK c) {n d : Nat} (hn : 0 < n) (h6 : n ≤ 6) (hd : d < 6) {l1 l2 : List Nat} (h1 : Way n (d :: l1)) (k1 : Way n l1) (h2 : Way n (d :: l2)) (k2 : Way n l2) : fX11_isBetter (nI d) (nI (wnum (d :: l1))) (nI (wnum (d :: l2))) s = some (if rkL c (d :: l1) < rkL c (d :: l2) then 1 else 0, s) := by
  have e1 := hd0_lt hn k1
  have e2 := hd0_lt hn k2
  have n1 : l1.length + 1 ≤ n := h1.len hn
  have n2 : l2.length + 1 ≤ n := h2.len hn
  have p1 : 0 < l1.length := by cases l1 with
    | nil => exact k1.elim
    | cons => simp
  have p2 : 0 < l2.length := by cases l2 with
    | nil => exact k2.elim
    | cons => simp
  have w1 := wnum_lt (h1.dg hn h6)
  have w2 := wnum_lt (h2.dg hn h6)
  have q1 : 10 ^ (d :: l1).length ≤ 10 ^ 6 := Nat.pow_le_pow_right (by omega) (by show l1.length + 1 ≤ 6; omega)
  have q2 : 10 ^ (d :: l2).length ≤ 10 ^ 6 := Nat.pow_le_pow_right (by omega) (by show l2.length + 1 ≤ 6; omega)
  have g1 : ∀ τ, fX11_figure (nI (wnum (d :: l1))) 1 τ = some (nI (hd0 l1), τ) := fun τ => by
    rw [li_1, sm_figure (h1.dg hn h6) h1.ld (by show l1.length + 1 ≤ 8; omega) (k := 1) (by show 1 < l1.length + 1; omega)]
    cases l1 <;> rfl
  have g2 : ∀ τ, fX11_figure (nI (wnum (d :: l2))) 1 τ = some (nI (hd0 l2), τ) := fun τ => by
    rw [li_1, sm_figure (h2.dg hn h6) h2.ld (by show l2.length + 1 ≤ 8; omega) (k := 1) (by show 1 < l2.length + 1; omega)]
    cases l2 <;> rfl
  have f1 : ∀ τ, fX11_figures (nI (wnum (d :: l1))) τ = some (nI (l1.length + 1), τ) := fun τ => sm_figures (h1.dg hn h6) h1.ld (by show l1.length + 1 ≤ 8; omega) τ
  have f2 : ∀ τ, fX11_figures (nI (wnum (d :: l2))) τ = some (nI (l2.length + 1), τ) := fun τ => sm_figures (h2.dg hn h6) h2.ld (by show l2.length + 1 ≤ 8; omega) τ
  have a1 := hw.at (k := 1 + (6 * d + hd0 l1)) (i := 13 + d * 6 + hd0 l1) (by omega) (by omega)
  have a2 := hw.at (k := 1 + (6 * d + hd0 l2)) (i := 13 + d * 6 + hd0 l2) (by omega) (by omega)
  have a3 := hw.at (k := 73 + (6 * d + hd0 l1)) (i := 85 + d * 6 + hd0 l1) (by omega) (by omega)
  have a4 := hw.at (k := 73 + (6 * d + hd0 l2)) (i := 85 + d * 6 + hd0 l2) (by omega) (by omega)
  have a5 := hw.at (k := 109 + d) (i := 1 + d) (by omega) (by omega)
  rw [ho.2.1 _ (by omega)] at a1 a2 a3 a4 a5
  have b1 := ho.2.2.2.2.1 d (hd0 l1) hd (by omega)
  have b2 := ho.2.2.2.2.1 d (hd0 l2) hd (by omega)
  have b5 := (ho.2.2.2.1 d hd).1
  have c1 := b1.1
  have c2 := b2.1
  have c3 := b1.2.2.1
  have c4 := b2.2.2.1
  have hodd := odd1 (N c (1 + d)) (by omega)
  have hc5 := ho.2.1 (1 + d) (by omega)
  have d1 := dif _ (show N c (13 + d * 6 + hd0 l1) < 10 by omega) _ (show N c (13 + d * 6 + hd0 l2) < 10 by omega)
  have d2 := dif _ (show N c (85 + d * 6 + hd0 l1) < 10 by omega) _ (show N c (85 + d * 6 + hd0 l2) < 10 by omega)
  unfold fX11_isBetter
  rw [g1, bd_some, g2, bd_some]
  simp (maxSteps := 2000000) (disch := omega) only [fX11_pair, bd_some, li_6, li_73, li_109, muI, adI, f1, f2]
  have i1 : ∀ x : Nat, (1 : Int32) + nI x = nI (1 + x) := fun x => by rw [li_1, adI]
  simp (maxSteps := 2000000) (disch := omega) only [i1, ixT, clI, if_true, mv_let, a1, a2, a3, a4, a5, d1.1, d1.2.1, d2.1, d2.2.2, eqI, leI, hodd]
  rw [rkL, rkL]
  generalize N c (13 + d * 6 + hd0 l1) = X1 at c1 ⊢
  generalize N c (13 + d * 6 + hd0 l2) = X2 at c2 ⊢
  generalize N c (85 + d * 6 + hd0 l1) = Y1 at c3 ⊢
  generalize N c (85 + d * 6 + hd0 l2) = Y2 at c4 ⊢
  generalize wnum (d :: l1) = v1 at w1 ⊢
  generalize wnum (d :: l2) = v2 at w2 ⊢
  rw [hc5]
  by_cases z : nI (N c (1 + d)) &&& 1 = 0
  · simp only [z, if_true, not_true, if_false]
    have hlex := rk_lex (X1 := 0) (X2 := 0) (Y1 := Y1) (Y2 := Y2) (L1 := l1.length + 1) (L2 := l2.length + 1) (v1 := v1) (v2 := v2) (by omega) (by omega) c3 c4 (by omega) (by omega) (by omega) (by omega)
    simp only [hlex, Nat.lt_irrefl, false_or, true_and]
    by_cases y1 : Y1 = Y2
    · rw [if_pos y1]
      by_cases y2 : l1.length + 1 = l2.length + 1
      · rw [if_pos y2]
        by_cases y3 : v2 ≤ v1
        · rw [if_pos y3, if_neg (by omega)]
        · rw [if_neg y3, if_pos (by omega)]
      · rw [if_neg y2]
        by_cases y3 : l2.length + 1 ≤ l1.length + 1
        · rw [if_pos y3, if_neg (by omega)]
        · rw [if_neg y3, if_pos (by omega)]
    · rw [if_neg y1]
      by_cases y2 : Y1 ≤ Y2
      · rw [if_pos y2, if_neg (by omega)]
      · rw [if_neg y2, if_pos (by omega)]
  · simp only [z, if_true, not_false_eq_true, if_false]
    have hlex := rk_lex (X1 := X1) (X2 := X2) (Y1 := Y1) (Y2 := Y2) (L1 := l1.length + 1) (L2 := l2.length + 1) (v1 := v1) (v2 := v2) c1 c2 c3 c4 (by omega) (by omega) (by omega) (by omega)
    simp only [hlex]
    by_cases x1 : X1 = X2
    · rw [if_pos x1]
      by_cases y1 : Y1 = Y2
      · rw [if_pos y1]
        by_cases y2 : l1.length + 1 = l2.length + 1
        · rw [if_pos y2]
          by_cases y3 : v2 ≤ v1
          · rw [if_pos y3, if_neg (by omega)]
          · rw [if_neg y3, if_pos (by omega)]
        · rw [if_neg y2]
          by_cases y3 : l2.length + 1 ≤ l1.length + 1
          · rw [if_pos y3, if_neg (by omega)]
          · rw [if_neg y3, if_pos (by omega)]
      · rw [if_neg y1]
        by_cases y2 : Y1 ≤ Y2
        · rw [if_pos y2, if_neg (by omega)]
        · rw [if_neg y2, if_pos (by omega)]
    · rw [if_neg x1]
      by_cases x2 : X2 ≤ X1
      · rw [if_pos x2, if_neg (by omega)]
      · rw [if_neg x2, if_pos (by omega)]
