/-! PURE PART: drift, turn by turn -/
theorem max_2 {n : Nat} (h2 : 2 ≤ n) (h6 : n ≤ 6) : mv_max 2 (nI n) = nI n := by
  unfold mv_max
  by_cases z : (2 : Int32) < nI n
  · rw [if_pos z]
  · rw [if_neg z]
    rw [li_2, ltI (by omega) (by omega)] at z
    rw [show n = 2 by omega]; rfl
theorem dr_y {D : Nat} (hD : D < 2147483648) : ∃ Y : Nat, Y < 2147483648 ∧ (nI D * 1103515245 + 12345) &&& 2147483647 = nI Y ∧ Int64.toInt32 (mv_lrem (Int32.toInt64 (nI D) * 1103515245 + 12345) 2147483648) = nI Y := by
  refine ⟨_, Nat.mod_lt _ (by omega), ?_, dr_lrem hD⟩
  have e1 : (1103515245 : Int32) = nI 1103515245 := nrfl rfl
  have e2 : (12345 : Int32) = nI 12345 := nrfl rfl
  rw [e1, e2, muI, adI, dr_and]
theorem dr_C {s : mx_G} {n : Nat} (n2 : 2 ≤ n) (n6 : n ≤ 6) (h0 : s.1 2 0 = nI n) {D : Int32} {Y : Nat} (hD : s.1 2 127 = D) (hY : Y < 2147483648) (eY : (D * 1103515245 + 12345) &&& 2147483647 = nI Y) : fX10_driftOnce s = drC (nI (Y / 65536)) (nI (Y / 65536 / 8 % n)) (nI (Y / 65536 / 8 / 8 % n)) (nI (Y / 65536 / 8 / 64)) (nI (Y / 65536 % 8)) (gi s 2 127 (nI Y)) := by
  have hx0 : ix 0 128 = true := by rw [li_0]; exact ixT (by omega) (by omega)
  have hz : Int32.toNatClampNeg 0 = 0 := by decide
  have hx127 : ix 127 128 = true := by decide
  have hz127 : Int32.toNatClampNeg 127 = 127 := by decide
  have c0 : (gi s 2 127 (nI Y)).1 2 0 = nI n := by rw [rd_gi, if_pos rfl, upd_rd, if_neg (by omega)]; exact h0
  have hsz : fX9_size (gi s 2 127 (nI Y)) = some (nI n, gi s 2 127 (nI Y)) := by
    unfold fX9_size
    rw [if_pos hx0, hz, c0]
  have hnz : ¬ nI n = 0 := by rw [li_0, eqI (by omega) (by omega)]; omega
  have q1 : nI Y / 65536 = nI (Y / 65536) := by rw [li_65536, dvI (by omega) (by omega) (by omega)]
  have hZ : Y / 65536 < 32768 := by omega
  unfold fX10_driftOnce fX9_draw fX9_setDraw
  rw [if_pos hx127, hz127, bd_some, hD, eY]
  simp only [mv_let]
  rw [if_pos hx127, bd_some, hsz, bd_some, max_2 n2 n6, if_neg hnz, if_neg hnz, q1]
  generalize Y / 65536 = Z at hZ
  have q2 : nI Z / 8 = nI (Z / 8) := by rw [li_8, dvI (by omega) (by omega) (by omega)]
  have q3 : mv_rem (nI (Z / 8)) (nI n) = nI (Z / 8 % n) := rmI (by omega) (by omega) (by omega)
  have q4 : nI (Z / 8) / 8 = nI (Z / 8 / 8) := by rw [li_8, dvI (by omega) (by omega) (by omega)]
  have q5 : mv_rem (nI (Z / 8 / 8)) (nI n) = nI (Z / 8 / 8 % n) := rmI (by omega) (by omega) (by omega)
  have q6 : nI (Z / 8) / 64 = nI (Z / 8 / 64) := by rw [li_64, dvI (by omega) (by omega) (by omega)]
  have q7 : mv_rem (nI Z) 8 = nI (Z % 8) := by rw [li_8, rmI (by omega) (by omega) (by omega)]
  rw [q2, q3, q4, q5, q6, q7]
  unfold drC
  rw [q7]
theorem dr_M {t : mx_G} {n : Nat} (n2 : 2 ≤ n) (n6 : n ≤ 6) (h0 : t.1 46 0 = nI n) {Z : Nat} (hZ : Z < 32768) : fX11_drifts (nI Z) t = drM (nI (Z / 8 % n)) (nI (Z / 8 / 8 % n)) (nI (Z / 8 / 64)) (nI (Z % 8)) (nI (6 * (Z / 8 % n) + Z / 8 / 8 % n)) t := by
  have hx0 : ix 0 128 = true := by rw [li_0]; exact ixT (by omega) (by omega)
  have hz : Int32.toNatClampNeg 0 = 0 := by decide
  have hnz : ¬ nI n = 0 := by rw [li_0, eqI (by omega) (by omega)]; omega
  have q2 : nI Z / 8 = nI (Z / 8) := by rw [li_8, dvI (by omega) (by omega) (by omega)]
  have q3 : mv_rem (nI (Z / 8)) (nI n) = nI (Z / 8 % n) := rmI (by omega) (by omega) (by omega)
  have q4 : nI (Z / 8) / 8 = nI (Z / 8 / 8) := by rw [li_8, dvI (by omega) (by omega) (by omega)]
  have q5 : mv_rem (nI (Z / 8 / 8)) (nI n) = nI (Z / 8 / 8 % n) := rmI (by omega) (by omega) (by omega)
  have q6 : nI (Z / 8) / 64 = nI (Z / 8 / 64) := by rw [li_64, dvI (by omega) (by omega) (by omega)]
  have q7 : mv_rem (nI Z) 8 = nI (Z % 8) := by rw [li_8, rmI (by omega) (by omega) (by omega)]
  have q8 : fX11_pair (nI (Z / 8 % n)) (nI (Z / 8 / 8 % n)) t = some (nI (6 * (Z / 8 % n) + Z / 8 / 8 % n), t) := by
    unfold fX11_pair
    rw [li_6, muI, adI]
  unfold fX11_drifts drM
  simp only [mv_let]
  rw [if_pos hx0, if_pos hx0, hz, h0, if_neg hnz, if_neg hnz, q2, q3, q4, q5, q6, q7, q8, bd_some]
theorem dr_once {s t : mx_G} (hw : RW (t.1 46) (s.1 2)) (ho : WOK (s.1 2)) : ∃ s' t' : mx_G, ∃ Y : Nat, Int64.toInt32 (mv_lrem (Int32.toInt64 (t.1 46 127) * 1103515245 + 12345) 2147483648) = nI Y ∧ nI Y / 65536 = nI (Y / 65536) ∧ fX10_driftOnce s = some ((), s') ∧ fX11_drifts (nI (Y / 65536)) (gi t 46 127 (nI Y)) = some ((), t') ∧ RW (t'.1 46) (s'.1 2) ∧ WOK (s'.1 2) := by
  have n6 := ho.1.2
  have n2 := ho.1.1
  have c127 := ho.2.2.1
  have hD := N_lt (s.1 2) 127
  have d127 : t.1 46 127 = nI (N (s.1 2) 127) := by rw [hw.at (k := 127) (i := 127) (by omega) (by omega)]; exact c127
  obtain ⟨Y, hY, eY, eM⟩ := dr_y hD
  have hw1 : RW ((gi t 46 127 (nI Y)).1 46) ((gi s 2 127 (nI Y)).1 2) := by
    rw [rd_gi, if_pos rfl, rd_gi, if_pos rfl]
    exact RW_updA hw (by omega) (by omega) _
  have ho1 : WOK ((gi s 2 127 (nI Y)).1 2) := by
    rw [rd_gi, if_pos rfl]
    exact ho.draw hY
  have hN : N ((gi s 2 127 (nI Y)).1 2) 0 = N (s.1 2) 0 := by
    rw [rd_gi, if_pos rfl, N_upd _ _ _ hY, if_neg (by omega)]
  have c0 := ho1.2.1 0 (by omega)
  rw [hN] at c0
  have t0 : (gi t 46 127 (nI Y)).1 46 0 = nI (N (s.1 2) 0) := by rw [hw1.at (k := 0) (i := 0) (by omega) (by omega)]; exact c0
  have q1 : nI Y / 65536 = nI (Y / 65536) := by rw [li_65536, dvI (by omega) (by omega) (by omega)]
  have hZ : Y / 65536 < 32768 := by omega
  have eC := dr_C n2 n6 (ho.2.1 0 (by omega)) c127 hY eY
  have eD := dr_M (t := gi t 46 127 (nI Y)) n2 n6 t0 hZ
  obtain ⟨s', t', e1, e2, e3, e4⟩ := dr_act hw1 ho1 (Z := Y / 65536) (a := Y / 65536 / 8 % N (s.1 2) 0) (b := Y / 65536 / 8 / 8 % N (s.1 2) 0) (v := Y / 65536 / 8 / 64) (w := Y / 65536 % 8) hZ rfl (by rw [hN]; exact Nat.mod_lt _ (by omega)) (by rw [hN]; exact Nat.mod_lt _ (by omega)) (by omega)
  exact ⟨s', t', Y, by rw [d127]; exact eM, q1, eC.trans e1, eD.trans e2, e3, e4⟩
def R2 (s t : mx_G) : Prop := RW (t.1 46) (s.1 2) ∧ WOK (s.1 2) ∧ PR (s.1 4) (s.1 3 1) (s.1 3 2) (t.1 47) (t.1 45 2)
theorem R2.keep {s t : mx_G} (h : R2 s t) : ∃ s1 t1, fX3_keep s = some ((), s1) ∧ fX11_notes t = some ((), t1) ∧ R2 s1 t1 ∧ ∀ k : Nat, k ≠ 2 → t1.1 45 k = t.1 45 k := by
  obtain ⟨a1, a2, ⟨a, x, ha, hx, p1, p2, p3, p4⟩⟩ := h
  have e1 := sx_keep ha hx p1 p2
  obtain ⟨t1, e2, n1, n2⟩ := sm_notes (σ := t) ha p3
  have f1 := fr_X3_keep s _ _ e1
  have f2 := fr_X11_notes t _ _ e2
  generalize hσ1 : gi (gi (gs s 4 (va_cpy (s.1 2) (s.1 4) 0 (x * 128) 128)) 3 2 (nI ((x + 1) % 6))) 3 1 (nI (if a = 6 then 6 else a + 1)) = s1 at e1 f1
  refine ⟨s1, t1, e1, e2, ⟨?_, ?_, ?_⟩, fun k hk => by rw [n1, upd_rd, if_neg hk]⟩
  · rw [(f2 46 (by decide)).1, (f1 2 (by decide)).1]; exact a1
  · rw [(f1 2 (by decide)).1]; exact a2
  · refine pr_keep ha hx p4 (c := s.1 2) (st := t.1 46) ?_ n2 a1 a2 ?_ ?_ ?_
    · intro y j hy hj
      rw [← hσ1]
      simp only [rd_gi, rd_gs, Nat.reduceEqDiff, if_true, if_false, cpy_rd]
      by_cases hyx : y = x
      · rw [if_pos (show x * 128 ≤ 128 * y + j ∧ 128 * y + j < x * 128 + 128 by omega), if_pos hyx]; exact congrArg _ (by omega)
      · rw [if_neg (show ¬ (x * 128 ≤ 128 * y + j ∧ 128 * y + j < x * 128 + 128) by omega), if_neg hyx]
    · rw [← hσ1]; simp only [rd_gi, if_true, upd_rd]
    · rw [← hσ1]; simp only [rd_gi, if_true, upd_rd, Nat.reduceEqDiff, if_false]
    · rw [n1, upd_rd, if_pos rfl]
theorem chN_congr {f c : Nat → Int32} : ∀ n : Nat, n ≤ 6 → (∀ e, e < 6 → f (121 + e) = c (121 + e)) → chN f n = chN c n := by
  intro n
  induction n with
  | zero => intro _ _; rfl
  | succ n ih =>
    intro hn h
    rw [chN, chN, h n (by omega), ih (by omega) h]
theorem sm_chosenSet_l (g : Nat → Int32) (n : Nat) (h6 : n ≤ 6) (h0 : g 0 = nI n) : ∀ (m d f : Nat) (s : mx_G), s.1 46 = g → d + m = n → lX11_chosenSet_4 (m + 1 + f) (nI (chN g d)) (nI d) s = some (nI (chN g n), s) := by
  have hx0 : ix 0 128 = true := by rw [li_0]; exact ixT (by omega) (by omega)
  have hz : Int32.toNatClampNeg 0 = 0 := by decide
  intro m
  induction m with
  | zero =>
    intro d f s hs h
    rw [show 0 + 1 + f = f + 1 by omega, lX11_chosenSet_4, if_pos hx0, hz, hs, h0, if_pos (nI_le (by omega) (by omega)), show d = n by omega]
  | succ m ih =>
    intro d f s hs h
    have hi := ih (d + 1) f s hs (by omega)
    have e1 : nI d + 1 = nI (d + 1) := by rw [li_1, adI]
    have hb := chN_lt g d
    have hp : 2 ^ d ≤ 2 ^ 5 := Nat.pow_le_pow_right (by omega) (by omega)
    rw [show m + 1 + 1 + f = (m + 1 + f) + 1 by omega, lX11_chosenSet_4, if_pos hx0, hz, hs, h0, if_neg (nI_ge (by omega) (by omega)), li_121, adI, ixT (by omega) (by omega), if_pos rfl, clI (by omega), e1]
    rw [chN] at hi
    simp only [mv_let]
    by_cases z : g (121 + d) = -4
    · rw [if_pos z] at hi ⊢
      rw [li_0, or_n _ (by omega) 0 (by omega), Nat.or_zero]
      exact hi
    · rw [if_neg z] at hi ⊢
      rw [shl_n d (by omega), or_n _ (by omega) _ (by omega)]
      exact hi
theorem sm_chosenSet {s : mx_G} {n : Nat} (h6 : n ≤ 6) (h0 : s.1 46 0 = nI n) : fX11_chosenSet s = some (nI (chN (s.1 46) n), s) := by
  obtain ⟨f, hf⟩ := FU_lt (n := n) (by omega)
  unfold fX11_chosenSet
  rw [hf]
  exact sm_chosenSet_l (s.1 46) n h6 h0 n 0 f s rfl (by omega)
theorem dr_l (M : Nat) (hM : M ≤ 40) : ∀ (m k f : Nat) (s t : mx_G), k + m = M → R2 s t → ∃ r s' t', lX10_drift_15 (nI M) (m + 1 + f) (nI k) s = some (r, s') ∧ lX11_drift_16 (nI M) (m + 1 + f) (nI k) t = some (r, t') ∧ R2 s' t' ∧ ∀ k : Nat, k ≠ 2 → t'.1 45 k = t.1 45 k := by
  have hx127 : ix 127 128 = true := by decide
  have hz127 : Int32.toNatClampNeg 127 = 127 := by decide
  intro m
  induction m with
  | zero =>
    intro k f s t h hr
    have n6 := hr.2.1.1.2
    have c0 := hr.2.1.2.1 0 (by omega)
    have t0 : t.1 46 0 = nI (N (s.1 2) 0) := by rw [hr.1.at (k := 0) (i := 0) (by omega) (by omega)]; exact c0
    refine ⟨nI (chN (s.1 2) (N (s.1 2) 0)), s, t, ?_, ?_, hr, fun _ _ => rfl⟩
    · rw [show 0 + 1 + f = f + 1 by omega, lX10_drift_15, if_pos (nI_le (by omega) (by omega)), sx_choosers n6 c0, bd_some]
    · rw [show 0 + 1 + f = f + 1 by omega, lX11_drift_16, if_pos (nI_le (by omega) (by omega)), sm_chosenSet n6 t0, bd_some, chN_congr (f := t.1 46) (c := s.1 2) _ n6 (fun e he => hr.1.at (by omega) (by omega))]
  | succ m ih =>
    intro k f s t h hr
    have e1 : nI k + 1 = nI (k + 1) := by rw [li_1, adI]
    obtain ⟨s1, t1, a1, a2, a3, a4⟩ := hr.keep
    obtain ⟨s2, t2, Y, y1, y2, b1, b2, b3, b4⟩ := dr_once a3.1 a3.2.1
    have f1 := fr_X10_driftOnce s1 _ _ b1
    have f2 := fr_X11_drifts _ _ _ _ b2
    have r2 : R2 s2 t2 := by
      refine ⟨b3, b4, ?_⟩
      rw [(f1 4 (by decide)).1, (f1 3 (by decide)).1, (f2 47 (by decide)).1, (f2 45 (by decide)).1, rd_gi, if_neg (by decide), rd_gi, if_neg (by decide)]
      exact a3.2.2
    obtain ⟨r, s', t', c1, c2, c3, c4⟩ := ih (k + 1) f s2 t2 (by omega) r2
    refine ⟨r, s', t', ?_, ?_, c3, fun j hj => ?_⟩
    · rw [show m + 1 + 1 + f = (m + 1 + f) + 1 by omega, lX10_drift_15, if_neg (nI_ge (by omega) (by omega)), a1, bd_some, b1, bd_some, e1]
      exact c1
    · rw [show m + 1 + 1 + f = (m + 1 + f) + 1 by omega, lX11_drift_16, if_neg (nI_ge (by omega) (by omega)), a2, bd_some, if_pos hx127, hz127]
      simp only [mv_let]
      rw [if_pos hx127, if_pos hx127, y1, rd_gi, if_pos rfl, upd_rd, if_pos rfl, y2, b2, bd_some, e1]
      exact c2
    · rw [c4 j hj, (f2 45 (by decide)).1, rd_gi, if_neg (by decide)]
      exact a4 j hj
section ACT
variable {IC : Nat → mx_G → Prop}
theorem ok_drift (hC : ICok IC) : pv_drift (Inv IC) := by
  intro k σ p1 hk h
  have hR : R2 σ σ := ⟨h.1.1, h.1.2, h.2.1⟩
  have hin := fun s => sm_inI p1 (a := 1) (b := 40) (by omega) (by omega) 1 40 (by decide) (by decide) s
  by_cases hp : nI 1 ≤ p1 ∧ p1 ≤ nI 40
  · obtain ⟨M, hM1, hM, rfl⟩ : ∃ M : Nat, 1 ≤ M ∧ M ≤ 40 ∧ p1 = nI M := by
      rcases nI_ex p1 with h1 | ⟨j, hj, rfl⟩
      · exfalso
        have q1 := hp.1
        rw [Int32.le_iff_toInt_le, nI_toInt (by omega)] at q1
        rw [Int32.lt_iff_toInt_lt] at h1
        have : (0 : Int32).toInt = 0 := by decide
        omega
      · refine ⟨j, ?_, ?_, rfl⟩
        · have := hp.1; rwa [leI (by omega) hj] at this
        · have := hp.2; rwa [leI hj (by omega)] at this
    obtain ⟨f, hf⟩ := FU_lt (n := M) (by omega)
    have eX : ∀ s, fX10_drift (nI M) s = lX10_drift_15 (nI M) FU 0 s := fun s => by
      unfold fX10_drift
      rw [if_neg (by rw [li_1, ltI (by omega) (by omega)]; omega), if_pos (by rw [show (40 : Int32) = nI 40 from rfl, leI (by omega) (by omega)]; omega)]
    have eM : ∀ s, fX11_drift (nI M) s = lX11_drift_16 (nI M) FU 0 s := fun s => by
      unfold fX11_drift
      rw [hin s, if_pos hp, bd_some, if_neg one_ne]
    obtain ⟨r, s1, -, a1, -, -, -⟩ := dr_l M hM M 0 f σ σ (by omega) hR
    rw [← hf] at a1
    have a1' : fX10_drift (nI M) σ = some (r, s1) := by rw [eX, li_0, a1]
    have f1 := fr_X10_drift _ _ _ _ a1'
    have hR1 : R2 σ s1 := ⟨by rw [(f1 46 (by decide)).1]; exact h.1.1, h.1.2, by rw [(f1 47 (by decide)).1, (f1 45 (by decide)).1]; exact h.2.1⟩
    obtain ⟨r2, s2, t2, b1, b2, b3, b4⟩ := dr_l M hM M 0 f σ s1 (by omega) hR1
    rw [← hf] at b1 b2
    rw [a1] at b1
    have b1 := Option.some.inj b1
    have hr : r = r2 := congrArg Prod.fst b1
    have hs : s1 = s2 := congrArg Prod.snd b1
    subst hr hs
    have b2' : fX11_drift (nI M) s1 = some (r, t2) := by rw [eM, li_0, b2]
    have f2 := fr_X11_drift _ _ _ _ b2'
    refine ⟨r, s1, t2, a1', b2', ?_, ?_, ?_, ?_, ?_, ?_⟩
    · unfold IA
      rw [(f2 2 (by decide)).1]
      exact ⟨b3.1, b3.2.1⟩
    · unfold IP
      rw [(f2 4 (by decide)).1, (f2 3 (by decide)).1]
      exact b3.2.2
    · refine h.2.2.1.of ?_ ?_ ?_ ?_ ?_ ?_ ?_
      · rw [(f2 0 (by decide)).1, (f1 0 (by decide)).1]
      · rw [(f2 6 (by decide)).1, (f1 6 (by decide)).1]
      · rw [(f2 7 (by decide)).1, (f1 7 (by decide)).1]
      · rw [(f2 8 (by decide)).1, (f1 8 (by decide)).1]
      · rw [(f2 48 (by decide)).1, (f1 48 (by decide)).1]
      · rw [(f2 49 (by decide)).1, (f1 49 (by decide)).1]
      · rw [b4 5 (by decide), (f1 45 (by decide)).1]
    · refine h.2.2.2.1.of ?_ ?_ ?_ ?_
      · rw [(f2 36 (by decide)).1, (f1 36 (by decide)).1]
      · rw [(f2 37 (by decide)).1, (f1 37 (by decide)).1]
      · rw [(f2 50 (by decide)).1, (f1 50 (by decide)).1]
      · rw [b4 7 (by decide), (f1 45 (by decide)).1]
    · refine h.2.2.2.2.1.of ?_ ?_ ?_ ?_ ?_ ?_
      · rw [(f2 41 (by decide)).1, (f1 41 (by decide)).1]
      · rw [(f2 42 (by decide)).1, (f1 42 (by decide)).1]
      · rw [(f2 51 (by decide)).1, (f1 51 (by decide)).1]
      · rw [(f2 52 (by decide)).1, (f1 52 (by decide)).1]
      · rw [(f2 43 (by decide)).2, (f1 43 (by decide)).2]
      · rw [(f2 53 (by decide)).2, (f1 53 (by decide)).2]
    · refine hC k σ t2 (fun p g1 g2 => ⟨(f2 p ?_).1.trans (f1 p ?_).1, (f2 p ?_).2.trans (f1 p ?_).2⟩) h.2.2.2.2.2 <;> simp <;> omega
  · refine pv_same hC h (-1) ?_ ?_
    · unfold fX10_drift
      by_cases g0 : p1 < 1
      · rw [if_pos g0]
      · rw [if_neg g0, if_neg (show ¬ p1 ≤ 40 from fun z => hp ⟨Int32.not_lt.mp g0, z⟩)]
    · show fX11_drift p1 σ = _
      unfold fX11_drift
      rw [hin σ, if_neg hp, bd_some, if_pos rfl]
end ACT
