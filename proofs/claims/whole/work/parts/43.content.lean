/-! PURE PART: who is not content -/
def dc (c : Nat → Int32) (w : Nat → Option (List Nat)) (n : Nat) : Nat → Nat
  | 0 => 0
  | d + 1 => if val (nx c w n d) = val (w d) then dc c w n d else dc c w n d ||| 2 ^ d
theorem dc_lt (c : Nat → Int32) (w : Nat → Option (List Nat)) (n : Nat) : ∀ d : Nat, dc c w n d < 2 ^ d := by
  intro d
  induction d with
  | zero => exact Nat.one_pos
  | succ d ih =>
    have h2 : 2 ^ d < 2 ^ (d + 1) := Nat.pow_lt_pow_right (by omega) (by omega)
    rw [dc]
    split
    · omega
    · exact Nat.or_lt_two_pow (by omega) h2
theorem dc_one {c : Nat → Int32} {w : Nat → Option (List Nat)} {n : Nat} (hc : okC n w) : dc c w n 1 = 0 := by
  rw [dc, if_pos (by rw [hc.1]; rfl), dc]
theorem bit_bd {d : Nat} (hd : d < 6) (c : Nat → Int32) (w : Nat → Option (List Nat)) (n : Nat) : dc c w n d < 64 ∧ 2 ^ d < 64 := by
  have h1 : 2 ^ d ≤ 2 ^ 5 := Nat.pow_le_pow_right (by omega) (by omega)
  have h2 := dc_lt c w n d
  omega
theorem sx_discontents_l {s : mx_G} (ho : WOK (s.1 2)) {n : Nat} (h0 : s.1 2 0 = nI n) (hn : 0 < n) (h6 : n ≤ 6) {w : Nat → Option (List Nat)} (hc : okC n w) (hl : LD s w) : ∀ (m d f : Nat), d + m = n → lX0_discontents_4 (m + 1 + f) (nI (dc (s.1 2) w n d)) (nI d) s = some (nI (dc (s.1 2) w n n), s) := by
  have hsz : fX9_size s = some (nI n, s) := by
    unfold fX9_size
    simp (disch := omega) only [li_0, ixT, clI, if_true, h0]
  intro m
  induction m with
  | zero =>
    intro d f h
    rw [show 0 + 1 + f = f + 1 by omega, lX0_discontents_4, hsz, bd_some, if_pos (nI_le (by omega) (by omega)), show d = n by omega]
  | succ m ih =>
    intro d f h
    have hi := ih (d + 1) f (by omega)
    have hb := bit_bd (d := d) (by omega) (s.1 2) w n
    have e1 : nI d + 1 = nI (d + 1) := by rw [li_1, adI]
    have hcell := (hl d (by omega)).1
    rw [show m + 1 + 1 + f = (m + 1 + f) + 1 by omega, lX0_discontents_4, hsz, bd_some, if_neg (nI_ge (by omega) (by omega)), e1, ixT (by omega) (by omega), if_pos rfl, clI (by omega), sx_bestN ho h0 hn h6 (by omega) hc hl, bd_some, hcell]
    rw [dc] at hi
    by_cases hx : val (nx (s.1 2) w n d) = val (w d)
    · rw [if_pos hx] at hi
      rw [if_pos hx.symm]
      exact hi
    · rw [if_neg hx] at hi
      rw [if_neg (fun z => hx z.symm), shl_n d (by omega), or_n _ hb.1 _ hb.2]
      exact hi
theorem sx_discontents {s : mx_G} (ho : WOK (s.1 2)) {n : Nat} (h0 : s.1 2 0 = nI n) (hn : 0 < n) (h6 : n ≤ 6) {w : Nat → Option (List Nat)} (hc : okC n w) (hl : LD s w) : fX0_discontents s = some (nI (dc (s.1 2) w n n), s) := by
  obtain ⟨f, hf⟩ := FU_lt (n := n - 1) (by omega)
  unfold fX0_discontents
  have e := sx_discontents_l ho h0 hn h6 hc hl (n - 1) 1 f (by omega)
  rw [dc_one hc, ← hf] at e
  exact e
theorem sx_discontent {s : mx_G} (ho : WOK (s.1 2)) {n : Nat} (h0 : s.1 2 0 = nI n) (hn : 0 < n) (h6 : n ≤ 6) {w : Nat → Option (List Nat)} (hc : okC n w) (hv : ∀ e, e < 6 → s.1 2 (121 + e) = val (w e)) : ∃ s', fX10_discontent s = some (nI (dc (s.1 2) w n n), s') ∧ LD s' w ∧ ∀ p : Nat, p ∉ [10, 11, 12, 13] → s'.1 p = s.1 p ∧ s'.2 p = s.2 p := by
  obtain ⟨s1, e1, hl, fr⟩ := sx_load hn h6 (s := s) (w := w) (fun e he => ⟨hv e he, fun l hl => (hc.2 e he l hl).1⟩)
  have q2 : s1.1 2 = s.1 2 := (fr 2 (by decide)).1
  refine ⟨s1, ?_, hl, fr⟩
  have e2 := sx_discontents (s := s1) (by rw [q2]; exact ho) (by rw [q2]; exact h0) hn h6 hc hl
  unfold fX10_discontent
  rw [e1, bd_some, e2, bd_some, q2]
theorem sm_notContent_l {s : mx_G} {c : Nat → Int32} (hw : RW (s.1 46) c) (ho : WOK c) {n : Nat} (h0 : s.1 46 0 = nI n) (hn : 0 < n) (h6 : n ≤ 6) {w : Nat → Option (List Nat)} (hc : okC n w) (hm : ∀ e, e < 6 → s.1 56 e = val (w e)) : ∀ (m d f : Nat), d + m = n → lX11_notContent_4 (m + 1 + f) (nI (dc c w n d)) (nI d) s = some (nI (dc c w n n), s) := by
  have hx0 : ix 0 128 = true := by rw [li_0]; exact ixT (by omega) (by omega)
  have hz : Int32.toNatClampNeg 0 = 0 := by decide
  intro m
  induction m with
  | zero =>
    intro d f h
    rw [show 0 + 1 + f = f + 1 by omega, lX11_notContent_4, if_pos hx0, hz, h0, if_pos (nI_le (by omega) (by omega)), show d = n by omega]
  | succ m ih =>
    intro d f h
    have hi := ih (d + 1) f (by omega)
    have hb := bit_bd (d := d) (by omega) c w n
    have e1 : nI d + 1 = nI (d + 1) := by rw [li_1, adI]
    have e2 : nI (dc c w n d) ||| 0 = nI (dc c w n d) := by rw [li_0, or_n _ hb.1 0 (by omega), Nat.or_zero]
    rw [show m + 1 + 1 + f = (m + 1 + f) + 1 by omega, lX11_notContent_4, if_pos hx0, hz, h0, if_neg (nI_ge (by omega) (by omega)), e1, sm_would hw ho h0 hn h6 (by omega) hc hm, bd_some, ixT (by omega) (by omega), if_pos rfl, clI (by omega), hm d (by omega)]
    simp only [mv_let]
    rw [dc] at hi
    by_cases hx : val (nx c w n d) = val (w d)
    · rw [if_pos hx] at hi ⊢
      rw [e2]
      exact hi
    · rw [if_neg hx] at hi ⊢
      rw [shl_n d (by omega), or_n _ hb.1 _ hb.2]
      exact hi
theorem sm_notContent {s : mx_G} {c : Nat → Int32} (hw : RW (s.1 46) c) (ho : WOK c) {n : Nat} (h0 : s.1 46 0 = nI n) (hn : 0 < n) (h6 : n ≤ 6) {w : Nat → Option (List Nat)} (hc : okC n w) (hm : ∀ e, e < 6 → s.1 56 e = val (w e)) : fX11_notContent s = some (nI (dc c w n n), s) := by
  obtain ⟨f, hf⟩ := FU_lt (n := n) (by omega)
  unfold fX11_notContent
  rw [hf]
  exact sm_notContent_l hw ho h0 hn h6 hc hm n 0 f (by omega)
