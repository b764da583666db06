/-! PURE PART: the class's ways: going on from one, from all -/
theorem sx_unit_l (n : Nat) (h8 : n ≤ 8) : ∀ (m k f : Nat) (s : mx_G), k + m = n → lX8_unitAbove_4 (nI n) (m + 1 + f) (nI (10 ^ k)) (nI k) s = some (nI (10 ^ n), s) := by
  intro m
  induction m with
  | zero =>
    intro k f s h
    rw [show 0 + 1 + f = f + 1 by omega, lX8_unitAbove_4, if_pos (nI_le (by omega) (by omega)), show k = n by omega]
  | succ m ih =>
    intro k f s h
    rw [show m + 1 + 1 + f = (m + 1 + f) + 1 by omega, lX8_unitAbove_4, if_neg (nI_ge (by omega) (by omega)), li_10, li_1, muI, adI]
    simp only [mv_let]
    rw [← Nat.pow_succ, ih (k + 1) f s (by omega)]
theorem sx_unit {n : Nat} (h8 : n ≤ 8) (s : mx_G) : fX8_unitAbove (nI n) s = some (nI (10 ^ n), s) := by
  obtain ⟨f, hf⟩ := FU_lt (n := n) (by omega)
  unfold fX8_unitAbove
  have := sx_unit_l n h8 n 0 f s (by omega)
  rw [hf, li_0, li_1]
  exact this
theorem sx_secondOf {c : Nat → Int32} {n : Nat} (hn : 0 < n) (h6 : n ≤ 6) {L : List (List Nat)} {s : mx_G} (hr : WR c L s) (hL : L.length ≤ 326) (h0 : L[0]? = some [0]) (hway : ∀ l ∈ L, Way n l) {k : Nat} {l : List Nat} (hl : L[k]? = some l) : fX8_secondOf (nI k) s = some (nI (sec l), s) := by
  have hk := get_lt hl
  unfold fX8_secondOf
  by_cases z : k = 0
  · subst z
    rw [h0] at hl
    injection hl with hl
    subst hl
    rw [if_pos (show nI 0 = 0 from rfl)]
    rfl
  · cases l with
    | nil => exact (hway [] (List.mem_of_getElem? hl)).elim
    | cons d q =>
      obtain ⟨j, a1, a2, a3⟩ := hr.2.2.1 k d q hl (by omega)
      have b1 := (hr.2.1 j q a2).1
      rw [if_neg (by rw [li_0, eqI (by omega) (by omega)]; exact z), ixT (by omega) (by omega), if_pos rfl, clI (by omega), a3, ixT (by omega) (by omega), if_pos rfl, clI (by omega), b1]
      have : sec (d :: q) = hd0 q := by
        cases q with
        | nil => exact (hway [] (List.mem_of_getElem? a2)).elim
        | cons x r => rfl
      rw [this]
theorem sx_numberOf {c : Nat → Int32} (ho : WOK c) {n : Nat} (hn : 0 < n) (h6 : n ≤ 6) {L : List (List Nat)} {s : mx_G} (hr : WR c L s) (hL : L.length ≤ 326) (hway : ∀ l ∈ L, Way n l) {k : Nat} {l : List Nat} (hl : L[k]? = some l) : fX8_numberOf (nI k) s = some (nI (wnum l), s) := by
  have hk := get_lt hl
  have hb := rk1_bd ho hn h6 (hway l (List.mem_of_getElem? hl))
  unfold fX8_numberOf
  rw [ixT (by omega) (by omega), if_pos rfl, clI (by omega), (hr.2.1 k l hl).2.1, li_1000000, rmI (by omega) (by omega) (by omega), hb.2.1]
theorem sx_extend_l {c : Nat → Int32} (ho : WOK c) {n k : Nat} (hn : 0 < n) (h6 : n ≤ 6) (hc0 : c 0 = nI n) {L : List (List Nat)} (hg : Gd c n k L) {l : List Nat} (hl : L[k]? = some l) : ∀ (m d f : Nat) (s : mx_G), d + m = n → 1 ≤ d → s.1 2 = c → WR c (L ++ ex c l d) s → ∃ s', lX8_extend_33 (nI k) (nI (hd0 l)) (nI (sec l)) (nI (l.length + 1)) (m + 1 + f) (nI d) s = some ((), s') ∧ WR c (L ++ ex c l n) s' ∧ s'.1 2 = c ∧ s'.1 15 1 = s.1 15 1 := by
  have hL := L_len hn h6 hg.1 hg.2.2.1
  have hkL := get_lt hl
  have hway : Way n l := hg.2.2.1 l (List.mem_of_getElem? hl)
  have hlen := hway.len hn
  have he := hd0_lt hn hway
  have hpos : 0 < l.length := by cases l with
    | nil => exact hway.elim
    | cons => simp
  have hsz : ∀ s : mx_G, s.1 2 = c → fX9_size s = some (nI n, s) := fun s hs => by
    unfold fX9_size
    rw [li_0, ixT (by omega) (by omega), if_pos rfl, clI (by omega), hs, hc0]
  intro m
  induction m with
  | zero =>
    intro d f s h h1 hs hr
    have : d = n := by omega
    subst this
    refine ⟨s, ?_, hr, hs, rfl⟩
    rw [show 0 + 1 + f = f + 1 by omega, lX8_extend_33, hsz s hs, bd_some, if_pos (nI_le (by omega) (by omega))]
  | succ m ih =>
    intro d f s h h1 hs hr
    have e1 : nI d + 1 = nI (d + 1) := by rw [li_1, adI]
    have hl' : (L ++ ex c l d)[k]? = some l := by rw [List.getElem?_append_left hkL]; exact hl
    have hgd := hg.add ho hn h6 hl d (by omega)
    have hLd := (L_len hn h6 hgd.1 hgd.2.2.1).1
    have b20 := (hr.2.1 k l hl').2.2.1
    have et := sx_takes (s := s) hn h6 (show d < 6 by omega) hway
    rw [hs] at et
    rw [show m + 1 + 1 + f = (m + 1 + f) + 1 by omega, lX8_extend_33, hsz s hs, bd_some, if_neg (nI_ge (by omega) (by omega)), ixT (by omega) (by omega), if_pos rfl, clI (by omega), b20, et, bd_some, e1]
    by_cases z : tk c d l
    · have hexd : ex c l (d + 1) = ex c l d ++ [d :: l] := by rw [ex, if_pos ⟨by omega, z⟩]
      have hg2 := hg.add ho hn h6 hl (d + 1) (by omega)
      rw [hexd, ← List.append_assoc] at hg2
      have er := sx_rankOf (s := s) (by rw [hs]; exact ho) (show d < 6 by omega) (l := l) (by omega)
      rw [hs] at er
      have hrk : rk1 c (d :: l) = rkL c (d :: l) := by unfold rk1; rw [if_neg (by rw [List.length_cons]; omega)]
      obtain ⟨s1, a1, a2, a3⟩ := sx_add ho hn h6 hr (d := d) (w := k) (q := l) (by omega) hl' hg2.1 hg2.2.2.1
      rw [hrk] at a1
      have f1 := fr_X8_add _ _ _ _ _ _ a1
      have e5 : nI (l.length + 1) - 1 = nI l.length := by rw [li_1, suI (by omega), show l.length + 1 - 1 = l.length by omega]
      have e6 : nI d * nI (10 ^ l.length) + nI (wnum l) = nI (wnum (d :: l)) := by rw [muI, adI]; rfl
      rw [if_pos z, if_neg one_ne, e5, sx_unit (by omega), bd_some, sx_numberOf ho hn h6 hr hLd hgd.2.2.1 hl', bd_some, mv_let, e6, er, bd_some, a1, bd_some]
      obtain ⟨s', b1, b2, b3, b4⟩ := ih (d + 1) f s1 (by omega) (by omega) (by rw [(f1 2 (by decide)).1]; exact hs) (by rw [hexd, ← List.append_assoc]; exact a2)
      exact ⟨s', b1, b2, b3, b4.trans a3⟩
    · have hexd : ex c l (d + 1) = ex c l d := by rw [ex, if_neg (fun q => z q.2)]
      rw [if_neg z, if_pos rfl]
      exact ih (d + 1) f s (by omega) (by omega) hs (by rw [hexd]; exact hr)
theorem sx_extend {c : Nat → Int32} (ho : WOK c) {n k : Nat} (hn : 0 < n) (h6 : n ≤ 6) (hc0 : c 0 = nI n) {L : List (List Nat)} (hg : Gd c n k L) {l : List Nat} (hl : L[k]? = some l) {s : mx_G} (hs : s.1 2 = c) (hr : WR c L s) : ∃ s', fX8_extend (nI k) s = some ((), s') ∧ WR c (L ++ ex c l n) s' ∧ s'.1 2 = c ∧ s'.1 15 1 = s.1 15 1 := by
  have hL := (L_len hn h6 hg.1 hg.2.2.1).1
  have hkL := get_lt hl
  have hway : Way n l := hg.2.2.1 l (List.mem_of_getElem? hl)
  obtain ⟨f, hf⟩ := FU_lt (n := n - 1) (by omega)
  have ex1 : ex c l 1 = [] := by rw [ex, if_neg (by omega), ex]
  obtain ⟨s', e, h1, h2, h3⟩ := sx_extend_l ho hn h6 hc0 hg hl (n - 1) 1 f s (by omega) (by omega) hs (by rw [ex1, List.append_nil]; exact hr)
  rw [← hf] at e
  refine ⟨s', ?_, h1, h2, h3⟩
  have b := hr.2.1 k l hl
  have hb := rk1_bd ho hn h6 hway
  have hwl := wnum_lt (hway.dg hn h6)
  have hlen := hway.len hn
  have hp : 10 ^ l.length ≤ 10 ^ 6 := Nat.pow_le_pow_right (by omega) (by omega)
  have e1 : mv_rem (nI (rk1 c l)) 8000000 / 1000000 + 1 = nI (l.length + 1) := by
    rw [li_8000000, rmI (by omega) (by omega) (by omega), hb.2.2, li_1000000, dvI (by omega) (by omega) (by omega), li_1, adI, show (l.length * 1000000 + wnum l) / 1000000 = l.length by omega]
  unfold fX8_extend
  rw [ixT (by omega) (by omega), if_pos rfl, clI (by omega), b.1, mv_let, sx_secondOf hn h6 hr hL hg.2.1 hg.2.2.1 hl, bd_some, if_pos rfl, b.2.1, mv_let, e1, li_1]
  exact e
theorem sx_fill23_l : ∀ (m k f : Nat) (s : mx_G) (g : Nat → Int32), k + m = 6 → lJA_fillI_5 0 6 (m + 1 + f) (nI k) (gs s 23 g) = some ((), gs s 23 (fun t => if k ≤ t ∧ t < 6 then 0 else g t)) := by
  intro m
  induction m with
  | zero =>
    intro k f s g h
    have : (fun t => if k ≤ t ∧ t < 6 then (0 : Int32) else g t) = g := by funext t; rw [if_neg (by omega)]
    rw [show 0 + 1 + f = f + 1 by omega, lJA_fillI_5, if_pos (by rw [li_6, leI (by omega) (by omega)]; omega), this]
  | succ m ih =>
    intro k f s g h
    have e1 : nI k + 1 = nI (k + 1) := by rw [li_1, adI]
    rw [show m + 1 + 1 + f = (m + 1 + f) + 1 by omega, lJA_fillI_5, if_neg (by rw [li_6, leI (by omega) (by omega)]; omega), ixT (by omega) (by omega), if_pos rfl, clI (by omega), mv_let, gi_of, e1, ih (k + 1) f s _ (by omega)]
    have : (fun t => if k + 1 ≤ t ∧ t < 6 then (0 : Int32) else upd g k 0 t) = fun t => if k ≤ t ∧ t < 6 then 0 else g t := by
      funext t
      rw [upd_rd]
      by_cases z : t = k
      · rw [if_neg (by omega), if_pos z, if_pos (by omega)]
      · rw [if_neg z]
        by_cases z2 : k ≤ t ∧ t < 6
        · rw [if_pos z2, if_pos (by omega)]
        · rw [if_neg z2, if_neg (by omega)]
    rw [this]
theorem sx_fill23 (s : mx_G) : fJA_fillI 0 s = some ((), gs s 23 (fun t => if 0 ≤ t ∧ t < 6 then 0 else s.1 23 t)) := by
  obtain ⟨f, hf⟩ := FU_lt (n := 6) (by omega)
  have e := sx_fill23_l 6 0 f s (s.1 23) (by omega)
  rw [gs_self, ← hf] at e
  unfold fJA_fillI
  exact e
theorem sx_root (c : Nat → Int32) {s : mx_G} (h15 : s.1 15 2 = 0) (h23 : ∀ t, t < 6 → s.1 23 t = 0) : ∃ s', fX8_add 0 (-1) 0 s = some ((), s') ∧ WR c [[0]] s' ∧ s'.1 15 1 = s.1 15 1 := by
  have hx6 : ix 0 6 = true := by decide
  have hx326 : ix 0 326 = true := by decide
  have hz : Int32.toNatClampNeg 0 = 0 := by decide
  have e0 : fX8_add 0 (-1) 0 s = mv_bind (fX8_insert 0 0 (gi (gi (gi (gi (gi s 17 0 0) 18 0 (-1)) 19 0 1000000) 20 0 1) 21 0 0)) fun _ s6 => mv_let (gi s6 15 2 ((s6.1 15 2) + 1)) fun s7 => some ((), s7) := by
    unfold fX8_add
    rw [h15, if_neg (by decide), if_pos hx6, hz, h23 0 (by omega), if_pos (by decide), if_pos hx326]
    simp only [mv_let]
    have r1 : (gi s 17 0 0).1 15 2 = 0 := by rw [rd_gi, if_neg (by decide)]; exact h15
    rw [r1, if_pos hx326, hz, if_neg (by decide)]
    have r2 : (gi (gi s 17 0 0) 18 0 (-1)).1 15 2 = 0 := by rw [rd_gi, if_neg (by decide)]; exact r1
    rw [r2, if_pos hx326, hz, if_neg (by decide)]
    have r3 : (gi (gi (gi s 17 0 0) 18 0 (-1)) 19 0 1000000).1 15 2 = 0 := by rw [rd_gi, if_neg (by decide)]; exact r2
    rw [r3, if_pos hx326, hz, if_neg (by decide), show mv_shl 1 0 ||| 0 = (1 : Int32) by decide]
    have r4 : (gi (gi (gi (gi s 17 0 0) 18 0 (-1)) 19 0 1000000) 20 0 1).1 15 2 = 0 := by rw [rd_gi, if_neg (by decide)]; exact r3
    rw [r4, if_pos hx326, hz]
    have r5 : (gi (gi (gi (gi (gi s 17 0 0) 18 0 (-1)) 19 0 1000000) 20 0 1) 21 0 0).1 15 2 = 0 := by rw [rd_gi, if_neg (by decide)]; exact r4
    rw [r5]
  generalize hs5 : gi (gi (gi (gi (gi s 17 0 0) 18 0 (-1)) 19 0 1000000) 20 0 1) 21 0 0 = s5 at e0
  obtain ⟨p, s6, hp, e2, i1, i2, i3, i4, i5, i6⟩ := sx_insert (s := s5) (d := 0) (by omega) (q := 0) (by omega) (w := 0) (by omega) (by rw [← hs5]; simp only [rd_gi, Nat.reduceEqDiff, if_false]; exact h23 0 (by omega)) (fun _ => 0) (fun _ => 1000000) (fun k hk => absurd hk (by omega)) (fun k hk => absurd hk (by omega)) (by
    rw [← hs5]
    simp only [rd_gi, Nat.reduceEqDiff, if_false, if_true, upd_rd]
    exact ⟨rfl, by omega⟩)
  have hp0 : p = 0 := by omega
  subst hp0
  have q15 : s6.1 15 2 = 0 := by
    rw [(i6 15 (by decide)).1, ← hs5]
    simp only [rd_gi, Nat.reduceEqDiff, if_false]
    exact h15
  have e2 : fX8_insert 0 0 s5 = some ((), s6) := e2
  refine ⟨gi s6 15 2 1, ?_, ⟨?_, ?_, ?_, ?_⟩, ?_⟩
  · rw [e0, e2, bd_some, mv_let, q15]; rfl
  · rw [rd_gi, if_pos rfl, upd_rd, if_pos rfl]; rfl
  · intro i l hl
    have := get_lt hl
    have : i = 0 := by simpa using this
    subst this
    have hl : some [0] = some l := hl
    injection hl with hl
    subst hl
    simp only [rd_gi, Nat.reduceEqDiff, if_false]
    rw [(i6 17 (by decide)).1, (i6 19 (by decide)).1, (i6 20 (by decide)).1, (i6 21 (by decide)).1, ← hs5]
    simp only [rd_gi, Nat.reduceEqDiff, if_false, if_true, upd_rd]
    exact ⟨rfl, rfl, rfl, rfl⟩
  · intro i d q hl hi
    have := get_lt hl
    simp at this
    omega
  · intro d hd
    have g24 : (gi s6 15 2 1).1 24 = s6.1 24 := by rw [rd_gi, if_neg (by decide)]
    have g23 : (gi s6 15 2 1).1 23 = s6.1 23 := by rw [rd_gi, if_neg (by decide)]
    have s23 : s5.1 23 = s.1 23 := by rw [← hs5]; simp only [rd_gi, Nat.reduceEqDiff, if_false]
    refine ⟨fun _ => 0, ?_⟩
    unfold RD
    rw [g23, g24, i1, upd_rd, s23]
    by_cases z : d = 0
    · subst z
      have hc : cn 0 [[0]] = 1 := by decide
      rw [hc]
      refine ⟨by rw [if_pos rfl], fun k hk => ?_, fun k k' l l' a b => absurd b (by omega), fun i l hl _ => ?_⟩
      · have : k = 0 := by omega
        subst this
        have := i2 0 (by omega)
        rw [if_neg (by omega), if_pos rfl] at this
        exact ⟨this, [0], rfl, rfl⟩
      · have := get_lt hl
        have : i = 0 := by simpa using this
        exact ⟨0, by omega, this.symm⟩
    · have hc : cn d [[0]] = 0 := by
        have : ([0] : List Nat) ∉ ([[0]] : List (List Nat)).filter (fun l => hd0 l == d) := by
          rw [List.mem_filter]
          intro q
          have := q.2
          simp [hd0] at this
          omega
        unfold cn
        rw [List.filter_cons_of_neg (by simp [hd0]; omega)]
        rfl
      rw [hc, if_neg z, h23 d hd]
      refine ⟨rfl, fun k hk => absurd hk (by omega), fun k k' l l' a b => absurd b (by omega), fun i l hl e => ?_⟩
      have := get_lt hl
      have : i = 0 := by simpa using this
      subst this
      have hl : some [0] = some l := hl
      injection hl with hl
      subst hl
      exact absurd e.symm z
  · rw [rd_gi, if_pos rfl, upd_rd, if_neg (by omega), (i6 15 (by decide)).1, ← hs5]
    simp only [rd_gi, Nat.reduceEqDiff, if_false]
