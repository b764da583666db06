/-! PURE PART: drift, one turn, what it does -/
theorem dr_pair {s t : mx_G} (hw : RW (t.1 46) (s.1 2)) (ho : WOK (s.1 2)) {Z a b v w : Nat} (hZ : Z < 32768) (hZ8 : Z % 8 = w) (ha : a < N (s.1 2) 0) (hb : b < N (s.1 2) 0) (hab : a ≠ b) (hv : v < 32768) (hw8 : w < 5) (h3 : w ≠ 3) : ∃ s' t', drC (nI Z) (nI a) (nI b) (nI v) (nI w) s = some ((), s') ∧ drM (nI a) (nI b) (nI v) (nI w) (nI (6 * a + b)) t = some ((), t') ∧ RW (t'.1 46) (s'.1 2) ∧ WOK (s'.1 2) := by
  have n6 := ho.1.2
  have a6 : a < 6 := by omega
  have b6 : b < 6 := by omega
  have cab : ¬ nI a = nI b := by rw [eqI (by omega) (by omega)]; exact hab
  have eZ : mv_rem (nI Z) 8 = nI w := by rw [li_8, rmI (by omega) (by omega) (by omega), hZ8]
  have e4 : mv_rem (nI v) 4 = nI (v % 4) := by rw [li_4, rmI (by omega) (by omega) (by omega)]
  have e10 : mv_rem (nI v) 10 = nI (v % 10) := by rw [li_10, rmI (by omega) (by omega) (by omega)]
  have d1 := hw.at (k := 1 + (6 * a + b)) (i := 13 + a * 6 + b) (by omega) (by omega)
  have d2 := hw.at (k := 37 + (6 * a + b)) (i := 49 + a * 6 + b) (by omega) (by omega)
  have d3 := hw.at (k := 115 + a) (i := 7 + a) (by omega) (by omega)
  have c1 := ho.2.1 (13 + a * 6 + b) (by omega)
  have c2 := ho.2.1 (49 + a * 6 + b) (by omega)
  have c3 := ho.2.1 (7 + a) (by omega)
  have h5 := ho.2.2.2.2.1 a b a6 b6
  have h7 := (ho.2.2.2.1 a a6).2
  have eC : drC (nI Z) (nI a) (nI b) (nI v) (nI w) s = mv_bind (fX10_driftPair (nI w) (nI a) (nI b) (nI v) s) fun _ s15 => some ((), s15) := by
    unfold drC
    rw [eZ]
    rcases (show w = 0 ∨ w = 1 ∨ w = 2 ∨ w = 4 by omega) with rfl | rfl | rfl | rfl
    · rw [if_neg (by decide), if_neg (by decide), if_neg (by decide), if_neg (by decide), if_neg (by decide), if_neg cab]
    · rw [if_neg (by decide), if_neg (by decide), if_neg (by decide), if_neg (by decide), if_neg (by decide), if_neg cab]
    · rw [if_neg (by decide), if_neg (by decide), if_neg (by decide), if_neg (by decide), if_neg (by decide), if_neg cab]
    · rw [if_neg (by decide), if_pos (by decide), if_neg cab]
  rw [eC]
  unfold drM fX10_driftPair
  simp only [mv_let]
  simp only [cab, if_false]
  rcases (show w = 0 ∨ w = 1 ∨ w = 2 ∨ w = 4 by omega) with rfl | rfl | rfl | rfl
  · refine ⟨gi (gi (gi (gi s 2 (13 + a * 6 + b) (nI (v % 4))) 2 (13 + b * 6 + a) (nI (if v % 4 = 0 then 0 else 4 - v % 4))) 2 (49 + a * 6 + b) (nI 0)) 2 (49 + b * 6 + a) (nI 0), gi (gi (gi (gi t 46 (1 + (6 * a + b)) (nI (v % 4))) 46 (1 + (6 * b + a)) (nI (if v % 4 = 0 then 0 else 4 - v % 4))) 46 (37 + (6 * a + b)) (nI 0)) 46 (37 + (6 * b + a)) (nI 0), ?_, ?_, ?_, ?_⟩
    · rw [if_pos (show nI 0 = 0 from rfl), e4, sx_setLink a6 b6 (by omega), bd_some, bd_some]
    · rw [if_pos (by decide), if_pos (by decide), if_neg (by decide), if_pos (show nI 0 = 0 from rfl), e4, li_0, sm_links a6 b6 (by omega), bd_some]
    · simp only [rd_gi, if_true]
      exact RW.link hw a6 b6
    · simp only [rd_gi, if_true]
      exact ho.link ha hb hab (by omega) (by omega) (fun _ => rfl)
  · rw [if_neg (show ¬ nI 1 = 0 by decide), if_pos (show nI 1 = 1 from rfl), sx_sortOf a6 b6, bd_some, if_pos (show nI 1 ≤ 6 by decide), if_pos (show nI 1 ≤ 4 by decide), if_neg (show ¬ nI 1 = 3 by decide), if_neg (show ¬ nI 1 = 0 by decide), if_pos (show nI 1 = 1 from rfl), li_1, adI, ixT (by omega) (by omega), if_pos rfl, clI (by omega), d1, c1]
    by_cases z : N (s.1 2) (13 + a * 6 + b) = 0
    · rw [z, if_pos (show nI 0 = 0 from rfl), if_pos (show nI 0 ≤ 0 by decide), bd_some]
      exact ⟨s, t, rfl, by rw [if_neg (by decide), if_neg (by decide)], hw, ho⟩
    · rw [if_neg (by rw [li_0, eqI (by omega) (by omega)]; exact z), sx_turnCut a6 b6 c2 (by omega), bd_some, bd_some, if_neg (by rw [li_0, leI (by omega) (by omega)]; omega), if_pos rfl, li_37, adI, ixT (by omega) (by omega), if_pos rfl, clI (by omega), d2, c2, suI (by omega), sm_links a6 b6 (by omega), bd_some]
      refine ⟨_, _, rfl, rfl, ?_, ?_⟩
      · simp only [rd_gi, if_true]
        rw [← L4_cut ho a6 b6]
        exact RW.link hw a6 b6
      · simp only [rd_gi, if_true]
        rw [← L4_cut ho a6 b6]
        exact ho.link ha hb hab (by omega) (by omega) (fun q => absurd q z)
  · refine ⟨gi s 2 (85 + a * 6 + b) (nI (v % 10)), gi t 46 (73 + (6 * a + b)) (nI (v % 10)), ?_, ?_, ?_, ?_⟩
    · rw [if_neg (show ¬ nI 2 = 0 by decide), if_neg (show ¬ nI 2 = 1 by decide), if_pos (show nI 2 = 2 from rfl), e10]
      unfold fX9_setLiking
      simp (disch := omega) only [li_85, li_6, muI, adI, ixT, clI, if_true, mv_let, bd_some]
    · rw [if_pos (show nI 2 ≤ 6 by decide), if_pos (show nI 2 ≤ 4 by decide), if_neg (show ¬ nI 2 = 3 by decide), if_neg (show ¬ nI 2 = 0 by decide), if_neg (show ¬ nI 2 = 1 by decide), if_pos (show nI 2 = 2 from rfl), li_73, adI, ixT (by omega) (by omega), if_pos rfl, clI (by omega), e10]
    · rw [rd_gi, if_pos rfl, rd_gi, if_pos rfl]
      exact RW_updA hw (by omega) (by omega) _
    · rw [rd_gi, if_pos rfl]
      exact ho.small (by omega) (by omega)
  · have hp := pow_le64 b (by omega)
    have hp2 : 2 ^ b < 64 := by
      have : 2 ^ b < 2 ^ 6 := Nat.pow_lt_pow_right (by omega) b6
      omega
    have hx := Nat.xor_lt_two_pow (n := 6) h7 hp2
    refine ⟨gi s 2 (7 + a) (nI (N (s.1 2) (7 + a) ^^^ 2 ^ b)), gi t 46 (115 + a) (nI (N (s.1 2) (7 + a) ^^^ 2 ^ b)), ?_, ?_, ?_, ?_⟩
    · rw [if_neg (show ¬ nI 4 = 0 by decide), if_neg (show ¬ nI 4 = 1 by decide), if_neg (show ¬ nI 4 = 2 by decide)]
      unfold fX9_barsOf fX9_setBars
      rw [li_7, adI, ixT (by omega) (by omega), if_pos rfl, clI (by omega), bd_some, c3, shl_n b (by omega), xor_n _ h7 _ hp2, if_pos rfl, mv_let, bd_some, bd_some]
    · rw [if_pos (show nI 4 ≤ 6 by decide), if_pos (show nI 4 ≤ 4 by decide), if_neg (show ¬ nI 4 = 3 by decide), if_neg (show ¬ nI 4 = 0 by decide), if_neg (show ¬ nI 4 = 1 by decide), if_neg (show ¬ nI 4 = 2 by decide), if_pos (show nI 4 = 4 from rfl), li_115, adI, ixT (by omega) (by omega), if_pos rfl, if_pos rfl, clI (by omega), d3, c3, shl_n b (by omega), xor_n _ h7 _ hp2]
    · rw [rd_gi, if_pos rfl, rd_gi, if_pos rfl]
      exact RW_updA hw (by omega) (by omega) _
    · rw [rd_gi, if_pos rfl]
      exact ho.small hx (by omega)
theorem dr_act {s t : mx_G} (hw : RW (t.1 46) (s.1 2)) (ho : WOK (s.1 2)) {Z a b v w : Nat} (hZ : Z < 32768) (hZ8 : Z % 8 = w) (ha : a < N (s.1 2) 0) (hb : b < N (s.1 2) 0) (hv : v < 32768) : ∃ s' t', drC (nI Z) (nI a) (nI b) (nI v) (nI w) s = some ((), s') ∧ drM (nI a) (nI b) (nI v) (nI w) (nI (6 * a + b)) t = some ((), t') ∧ RW (t'.1 46) (s'.1 2) ∧ WOK (s'.1 2) := by
  have n6 := ho.1.2
  have n2 := ho.1.1
  have hn : 0 < N (s.1 2) 0 := by omega
  have a6 : a < 6 := by omega
  have c0 := ho.2.1 0 (by omega)
  have t0 : t.1 46 0 = nI (N (s.1 2) 0) := by rw [hw.at (k := 0) (i := 0) (by omega) (by omega)]; exact c0
  obtain ⟨cs, hc, hcv⟩ := chosen_ways ho
  have hcv46 : ∀ e, e < 6 → t.1 46 (121 + e) = val (cs e) := fun e he => by
    rw [hw.at (k := 121 + e) (i := 121 + e) (by omega) (by omega)]; exact hcv e he
  by_cases w3 : w = 3
  · subst w3
    refine ⟨gi s 2 (1 + a) (nI (v % 4)), gi t 46 (109 + a) (nI (v % 4)), ?_, ?_, ?_, ?_⟩
    · unfold drC fX9_setManner
      rw [if_pos (show nI 3 = 3 from rfl), li_1, adI, ixT (by omega) (by omega), if_pos rfl, clI (by omega), mv_let, bd_some, li_4, rmI (by omega) (by omega) (by omega)]
    · unfold drM
      rw [if_pos (show nI 3 ≤ 6 by decide), if_pos (show nI 3 ≤ 4 by decide), if_pos (show nI 3 = 3 from rfl), li_109, adI, ixT (by omega) (by omega), if_pos rfl, clI (by omega), mv_let, li_4, rmI (by omega) (by omega) (by omega)]
    · rw [rd_gi, if_pos rfl, rd_gi, if_pos rfl]
      exact RW_updA hw (by omega) (by omega) _
    · rw [rd_gi, if_pos rfl]
      exact ho.small (by omega) (by omega)
  · by_cases w5 : w < 5
    · by_cases hab : a = b
      · subst hab
        obtain ⟨e1, e2⟩ := dr_same hw ho (Z := Z) (a := a) (v := v) w5 w3
        exact ⟨s, t, e1, e2, hw, ho⟩
      · exact dr_pair hw ho hZ hZ8 ha hb hab hv w5 w3
    · by_cases w7 : w = 7
      · subst w7
        obtain ⟨s', e1, e2, -, -⟩ := sx_chooseAnew ho c0 hn n6 ha hc hcv
        obtain ⟨r, t', b1, b2⟩ := sm_choosesAnew hw ho t0 hn n6 ha hc hcv46
        refine ⟨s', t', ?_, ?_, ?_, ?_⟩
        · unfold drC
          rw [if_neg (by decide), if_neg (by decide), if_neg (by decide), if_neg (by decide), if_pos (show nI 7 = 7 from rfl), e1, bd_some]
        · unfold drM
          rw [if_neg (by decide), b1, bd_some]
        · rw [e2, b2]
          exact RW_updA hw (by omega) (by omega) _
        · rw [e2]
          by_cases hd0 : a = 0
          · subst hd0
            rw [upd_self _ (by rw [hcv 0 (by omega), hc.1]; rfl)]
            exact ho
          · have hok := nx_ok ho hn n6 hc
            refine ho.chosen (by omega) ha (fun l hl => hok.2 a a6 l ?_)
            show (if a < N (s.1 2) 0 then _ else _) = _
            rw [if_pos ha]; exact hl
      · obtain ⟨s', e1, e2, -, -⟩ := sx_turnAll ho c0 hn n6 hc hcv
        obtain ⟨t', b1, b2, -, -⟩ := sm_turnsOnce hw ho t0 hn n6 hc hcv46
        refine ⟨s', t', ?_, ?_, ?_, ?_⟩
        · unfold drC
          rcases (show w = 5 ∨ w = 6 by omega) with rfl | rfl
          · rw [if_neg (by decide), if_neg (by decide), if_pos (show nI 5 = 5 from rfl), e1, bd_some]
          · rw [if_neg (by decide), if_neg (by decide), if_neg (by decide), if_pos (show nI 6 = 6 from rfl), e1, bd_some]
        · unfold drM
          rcases (show w = 5 ∨ w = 6 by omega) with rfl | rfl
          · rw [if_pos (by decide), if_neg (by decide), b1, bd_some]
          · rw [if_pos (by decide), if_neg (by decide), b1, bd_some]
        · rw [e2, b2]; exact hw.turned _
        · rw [e2]; exact ho.turned (mix_ok ho hn n6 hc)
