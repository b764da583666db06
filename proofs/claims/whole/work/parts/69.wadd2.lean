/-! PURE PART: the class's ways: one way more, as the class does it -/
theorem sx_add_e {s : mx_G} {d w e P q : Nat} {rk mq lq : Nat} (hd : d < 6) (he : e < 6) (hP : P < 326) (hw : w < P) (hq : q < 65) (h15 : s.1 15 2 = nI P) (h23 : s.1 23 d = nI q) (h17 : s.1 17 w = nI e) (h20 : s.1 20 w = nI mq) (h21 : s.1 21 w = nI lq) : fX8_add (nI d) (nI w) (nI rk) s = mv_bind (fX8_insert (nI d) (nI P) (gi (gi (gi (gi (gi s 17 P (nI d)) 18 P (nI w)) 19 P (nI rk)) 20 P (nI (mq ||| 2 ^ d))) 21 P (nI (lq ||| 2 ^ pr2 d e)))) fun _ s6 => mv_let (gi s6 15 2 ((s6.1 15 2) + 1)) fun s7 => some ((), s7) := by
  have c1 : ¬ (326 : Int32) ≤ nI P := by rw [show (326 : Int32) = nI 326 from rfl, leI (by omega) (by omega)]; omega
  have c2 : nI q < 65 := by rw [li_65, ltI (by omega) (by omega)]; exact hq
  have c3 : (0 : Int32) ≤ nI w := nI_pos' (by omega)
  have p := pr2_lt d hd e he
  have e1 : mv_shl 1 (nI d) ||| nI mq = nI (mq ||| 2 ^ d) := by rw [shl_g d (by omega), or_g, Nat.or_comm]
  have e2 : nI lq ||| mv_shl 1 (nI (pr2 d e)) = nI (lq ||| 2 ^ pr2 d e) := by rw [shl_g _ (by omega), or_g]
  have hwP : ¬ w = P := by omega
  unfold fX8_add
  rw [h15, if_neg c1, ixT hd (by omega), if_pos rfl, clI (by omega), h23, if_pos c2, ixT hP (by omega), if_pos rfl, clI (by omega)]
  simp only [mv_let]
  have r1 : (gi s 17 P (nI d)).1 15 2 = nI P := by rw [rd_gi, if_neg (by decide)]; exact h15
  rw [r1, ixT hP (by omega), if_pos rfl, clI (by omega), if_pos c3]
  have r2 : (gi (gi s 17 P (nI d)) 18 P (nI w)).1 15 2 = nI P := by rw [rd_gi, if_neg (by decide)]; exact r1
  rw [r2, ixT hP (by omega), if_pos rfl, clI (by omega), if_pos c3, ixT (show w < 326 by omega) (by omega), if_pos rfl, clI (show w < 2147483648 by omega)]
  have r3 : (gi (gi (gi s 17 P (nI d)) 18 P (nI w)) 19 P (nI rk)).1 15 2 = nI P := by rw [rd_gi, if_neg (by decide)]; exact r2
  have r4 : (gi (gi (gi s 17 P (nI d)) 18 P (nI w)) 19 P (nI rk)).1 20 w = nI mq := by simp only [rd_gi, Nat.reduceEqDiff, if_false]; exact h20
  rw [r3, r4, e1, ixT hP (by omega), if_pos rfl, clI (show P < 2147483648 by omega), if_pos c3, if_pos rfl, if_pos rfl]
  have r5 : (gi (gi (gi (gi s 17 P (nI d)) 18 P (nI w)) 19 P (nI rk)) 20 P (nI (mq ||| 2 ^ d))).1 15 2 = nI P := by rw [rd_gi, if_neg (by decide)]; exact r3
  have r6 : (gi (gi (gi (gi s 17 P (nI d)) 18 P (nI w)) 19 P (nI rk)) 20 P (nI (mq ||| 2 ^ d))).1 17 w = nI e := by simp only [rd_gi, Nat.reduceEqDiff, if_false, if_true, upd_rd, hwP]; exact h17
  have r7 : (gi (gi (gi (gi s 17 P (nI d)) 18 P (nI w)) 19 P (nI rk)) 20 P (nI (mq ||| 2 ^ d))).1 21 w = nI lq := by simp only [rd_gi, Nat.reduceEqDiff, if_false]; exact h21
  rw [r6, sx_pairOf hd he, bd_some, r7, e2, r5, ixT hP (by omega), if_pos rfl, clI (show P < 2147483648 by omega)]
  have r8 : (gi (gi (gi (gi (gi s 17 P (nI d)) 18 P (nI w)) 19 P (nI rk)) 20 P (nI (mq ||| 2 ^ d))) 21 P (nI (lq ||| 2 ^ pr2 d e))).1 15 2 = nI P := by rw [rd_gi, if_neg (by decide)]; exact r5
  rw [r8]
theorem sx_add {c : Nat → Int32} (ho : WOK c) {n : Nat} (hn : 0 < n) (h6 : n ≤ 6) {L : List (List Nat)} {s : mx_G} (hr : WR c L s) {d w : Nat} {q : List Nat} (hd : d < 6) (hw : L[w]? = some q) (hnd : (L ++ [d :: q]).Nodup) (hway : ∀ l ∈ L ++ [d :: q], Way n l) : ∃ s', fX8_add (nI d) (nI w) (nI (rk1 c (d :: q))) s = some ((), s') ∧ WR c (L ++ [d :: q]) s' ∧ s'.1 15 1 = s.1 15 1 := by
  obtain ⟨h1, h2, h3, h4⟩ := hr
  have hb := L_len hn h6 hnd hway
  have hbl := hb.1
  rw [List.length_append, List.length_singleton] at hbl
  have hwL := get_lt hw
  have hcn := hb.2 d hd
  rw [cn_snoc, if_pos (show hd0 (d :: q) = d from rfl)] at hcn
  have hcn0 : ∀ d', d' < 6 → cn d' L ≤ 65 := fun d' hd' => by
    have := hb.2 d' hd'
    rw [cn_snoc] at this
    split at this <;> omega
  have hqL : q ∈ L := List.mem_of_getElem? hw
  have hqw : Way n q := hway q (List.mem_append_left _ hqL)
  have he : hd0 q < 6 := by have := hd0_lt hn hqw; omega
  obtain ⟨b1, b2, b3, b4⟩ := h2 w q hw
  obtain ⟨ρ, hρ⟩ := h4 d hd
  have hyw : Way n (d :: q) := hway _ (by simp)
  have hms : ms q ||| 2 ^ d = ms (d :: q) := rfl
  have hlk : lkm q ||| 2 ^ pr2 d (hd0 q) = lkm (d :: q) := by
    cases q with
    | nil => exact hqw.elim
    | cons x r => rfl
  have e1 := sx_add_e (s := s) (rk := rk1 c (d :: q)) hd he (P := L.length) (by omega) hwL (q := cn d L) (by omega) h1 hρ.1 b1 b3 b4
  rw [hms, hlk] at e1
  generalize hs5 : gi (gi (gi (gi (gi s 17 L.length (nI d)) 18 L.length (nI w)) 19 L.length (nI (rk1 c (d :: q)))) 20 L.length (nI (ms (d :: q)))) 21 L.length (nI (lkm (d :: q))) = s5 at e1
  have r19 : ∀ i l, L[i]? = some l → s5.1 19 i = nI (rk1 c l) := fun i l hl => by
    have := get_lt hl
    rw [← hs5]
    simp only [rd_gi, Nat.reduceEqDiff, if_false, if_true, upd_rd]
    rw [if_neg (by omega)]
    exact (h2 i l hl).2.1
  have r19w : s5.1 19 L.length = nI (rk1 c (d :: q)) := by
    rw [← hs5]
    simp only [rd_gi, Nat.reduceEqDiff, if_false, if_true, upd_rd]
  obtain ⟨p, s6, hp, e2, i1, i2, i3, i4, i5, i6⟩ := sx_insert (s := s5) hd (q := cn d L) (by omega) (w := L.length) (by omega) (by rw [← hs5]; simp only [rd_gi, Nat.reduceEqDiff, if_false]; exact hρ.1) ρ (fun i => match (L ++ [d :: q])[i]? with | some l => rk1 c l | none => 0) (fun k hk => by
    obtain ⟨a1, l, a2, a3⟩ := hρ.2.1 k hk
    have := get_lt a2
    refine ⟨?_, by omega⟩
    rw [← hs5]
    simp only [rd_gi, Nat.reduceEqDiff, if_false]
    exact a1) (fun k hk => by
    obtain ⟨a1, l, a2, a3⟩ := hρ.2.1 k hk
    have hl := get_lt a2
    have hb := (rk1_bd ho hn h6 (hway l (List.mem_append_left _ (List.mem_of_getElem? a2)))).1
    simp only [List.getElem?_append_left hl, a2]
    exact ⟨r19 _ l a2, by omega⟩) (by
    have hb := (rk1_bd ho hn h6 hyw).1
    have hlast : (L ++ [d :: q])[L.length]? = some (d :: q) := by rw [List.getElem?_append_right (Nat.le_refl _), Nat.sub_self]; rfl
    simp only [hlast]
    exact ⟨r19w, by omega⟩)
  have hlast : (L ++ [d :: q])[L.length]? = some (d :: q) := by rw [List.getElem?_append_right (Nat.le_refl _), Nat.sub_self]; rfl
  have q15 : s6.1 15 2 = nI L.length := by
    rw [(i6 15 (by decide)).1, ← hs5]
    simp only [rd_gi, Nat.reduceEqDiff, if_false]
    exact h1
  have c5 : ∀ t, t ∉ [17, 18, 19, 20, 21, 23, 24] → s6.1 t = s.1 t := fun t ht => by
    have a : ∀ u ∈ [17, 18, 19, 20, 21, 23, 24], ¬ t = u := fun u hu z => ht (z ▸ hu)
    rw [(i6 t (fun z => ht (by revert z; simp; omega))).1, ← hs5]
    simp only [rd_gi, a 17 (by decide), a 18 (by decide), a 19 (by decide), a 20 (by decide), a 21 (by decide), if_false]
  refine ⟨gi s6 15 2 (nI (L.length + 1)), ?_, ⟨?_, ?_, ?_, ?_⟩, ?_⟩
  · rw [e1, e2, bd_some, mv_let, q15, li_1, adI]
  · rw [rd_gi, if_pos rfl, upd_rd, if_pos rfl, List.length_append, List.length_singleton]
  · intro i l hl
    simp only [rd_gi, Nat.reduceEqDiff, if_false]
    rw [(i6 17 (by decide)).1, (i6 19 (by decide)).1, (i6 20 (by decide)).1, (i6 21 (by decide)).1, ← hs5]
    simp only [rd_gi, Nat.reduceEqDiff, if_false, if_true, upd_rd]
    rcases get_snoc hl with hl | ⟨rfl, rfl⟩
    · have := get_lt hl
      rw [if_neg (by omega), if_neg (by omega), if_neg (by omega), if_neg (by omega)]
      exact h2 i l hl
    · rw [if_pos rfl, if_pos rfl, if_pos rfl, if_pos rfl]
      exact ⟨rfl, rfl, rfl, rfl⟩
  · intro i d' q' hl hi
    simp only [rd_gi, Nat.reduceEqDiff, if_false]
    rw [(i6 18 (by decide)).1, ← hs5]
    simp only [rd_gi, Nat.reduceEqDiff, if_false, if_true, upd_rd]
    rcases get_snoc hl with hl | ⟨rfl, e⟩
    · have := get_lt hl
      obtain ⟨j, a1, a2, a3⟩ := h3 i d' q' hl hi
      refine ⟨j, a1, by rw [List.getElem?_append_left (get_lt a2)]; exact a2, ?_⟩
      rw [if_neg (by omega)]
      exact a3
    · injection e with e3 e4
      subst e4
      refine ⟨w, hwL, by rw [List.getElem?_append_left hwL]; exact hw, ?_⟩
      rw [if_pos rfl]
  · intro d' hd'
    have g24 : (gi s6 15 2 (nI (L.length + 1))).1 24 = s6.1 24 := by rw [rd_gi, if_neg (by decide)]
    have g23 : (gi s6 15 2 (nI (L.length + 1))).1 23 = s6.1 23 := by rw [rd_gi, if_neg (by decide)]
    have s23 : s5.1 23 = s.1 23 := by rw [← hs5]; simp only [rd_gi, Nat.reduceEqDiff, if_false]
    have s24 : s5.1 24 = s.1 24 := by rw [← hs5]; simp only [rd_gi, Nat.reduceEqDiff, if_false]
    by_cases z : d = d'
    · subst z
      refine ⟨_, rd_own ho hn h6 hρ rfl hnd hway hp ?_ ?_ ?_ ?_⟩
      · rw [g23, i1, upd_rd, if_pos rfl]
      · intro k hk
        rw [g24]
        exact i2 k hk
      · intro k l a b hl
        have := i4 k a b
        simp only [hlast, List.getElem?_append_left (get_lt hl), hl] at this
        exact this
      · intro h0 l hl
        have := i5 h0
        simp only [hlast, List.getElem?_append_left (get_lt hl), hl] at this
        exact this
    · obtain ⟨ρ', hρ'⟩ := h4 d' hd'
      refine ⟨ρ', rd_other hρ' (d := d) rfl z (hcn0 d' hd') ?_ ?_⟩
      · rw [g23, i1, upd_rd, if_neg (fun q => z q.symm), s23]
      · intro t ht
        rw [g24, i3 t ht, s24]
  · rw [rd_gi, if_pos rfl, upd_rd, if_neg (by omega), c5 15 (by decide)]
