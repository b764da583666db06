/-! PURE PART: rest -/
theorem cw_n (c : Nat → Int32) (w : Nat → Option (List Nat)) : cw c w 0 = c 0 ∧ N (cw c w) 0 = N c 0 := by
  have e : cw c w 0 = c 0 := by unfold cw; rw [if_neg (by omega)]
  exact ⟨e, by unfold N; rw [e]⟩
theorem rest_l : ∀ (m a : Nat) (c : Nat → Int32), WOK c → a + m = 41 → ∃ (r : Int32) (c' : Nat → Int32), WOK c' ∧ (∀ (f : Nat) (s : mx_G), s.1 2 = c → ∃ s', lX10_rest_22 (m + 1 + f) (nI a) s = some (r, s') ∧ s'.1 2 = c' ∧ (∀ p : Nat, p ∉ [2, 10, 11, 12, 13, 14] → s'.1 p = s.1 p) ∧ ∀ p : Nat, p ∉ [10, 11, 12, 13, 14] → s'.2 p = s.2 p) ∧ (∀ (f : Nat) (t : mx_G), RW (t.1 46) c → ∃ t', lX11_rest_19 (m + 1 + f) (nI a) t = some (r, t') ∧ RW (t'.1 46) c' ∧ ∀ p : Nat, p ∉ [46, 56, 57] → t'.1 p = t.1 p ∧ t'.2 p = t.2 p) := by
  intro m
  induction m with
  | zero =>
    intro a c ho h
    have hgt : (40 : Int32) < nI a := by rw [show (40 : Int32) = nI 40 from rfl, ltI (by omega) (by omega)]; omega
    refine ⟨-4, c, ho, fun f s hs => ⟨s, ?_, hs, fun _ _ => rfl, fun _ _ => rfl⟩, fun f t ht => ⟨t, ?_, ht, fun _ _ => ⟨rfl, rfl⟩⟩⟩
    · rw [show 0 + 1 + f = f + 1 by omega, lX10_rest_22, if_pos hgt]
    · rw [show 0 + 1 + f = f + 1 by omega, lX11_rest_19, if_pos hgt]
  | succ m ih =>
    intro a c ho h
    have hgt : ¬ (40 : Int32) < nI a := by rw [show (40 : Int32) = nI 40 from rfl, ltI (by omega) (by omega)]; omega
    have e1 : nI a + 1 = nI (a + 1) := by rw [li_1, adI]
    obtain ⟨w, hc, hv⟩ := chosen_ways ho
    have hn2 := ho.1
    have hn : 0 < N c 0 := by omega
    have hn6 := ho.1.2
    have hc0 := ho.2.1 0 (by omega)
    have hok := mix_ok ho hn hn6 hc
    have hW := ho.turned hok
    have hN := cw_n c (mix c w (N c 0) (N c 0))
    have hb := dc_lt (cw c (mix c w (N c 0) (N c 0))) (mix c w (N c 0) (N c 0)) (N c 0) (N c 0)
    have hp := pow_le64 (N c 0) (by omega)
    have hX : ∀ s : mx_G, s.1 2 = c → ∃ s2 s3, fX10_turnAll s = some (nI (cc c w (N c 0) (N c 0)), s2) ∧ fX10_discontent s2 = some (nI (dc (cw c (mix c w (N c 0) (N c 0))) (mix c w (N c 0) (N c 0)) (N c 0) (N c 0)), s3) ∧ s3.1 2 = cw c (mix c w (N c 0) (N c 0)) ∧ (∀ p : Nat, p ∉ [2, 10, 11, 12, 13, 14] → s3.1 p = s.1 p) ∧ ∀ p : Nat, p ∉ [10, 11, 12, 13, 14] → s3.2 p = s.2 p := by
      intro s hs
      obtain ⟨s2, a1, a2, a3, a4⟩ := sx_turnAll (s := s) (by rw [hs]; exact ho) (by rw [hs]; exact hc0) hn hn6 hc (fun e he => by rw [hs]; exact hv e he)
      rw [hs] at a1 a2
      obtain ⟨s3, b1, -, b3⟩ := sx_discontent (s := s2) (n := N c 0) (w := mix c w (N c 0) (N c 0)) (by rw [a2]; exact hW) (by rw [a2, hN.1]; exact hc0) hn hn6 hok (fun e he => by rw [a2]; exact cw_rd _ _ he)
      rw [a2] at b1
      refine ⟨s2, s3, a1, b1, (b3 2 (by decide)).1.trans a2, fun p hp => (b3 p (fun z => hp (by revert z; simp; omega))).1.trans (a3 p hp), fun p hp => (b3 p (fun z => hp (by revert z; simp; omega))).2.trans (a4 p hp)⟩
    have hM : ∀ t : mx_G, RW (t.1 46) c → ∃ t2, fX11_turnsOnce t = some (nI (cc c w (N c 0) (N c 0)), t2) ∧ fX11_notContent t2 = some (nI (dc (cw c (mix c w (N c 0) (N c 0))) (mix c w (N c 0) (N c 0)) (N c 0) (N c 0)), t2) ∧ RW (t2.1 46) (cw c (mix c w (N c 0) (N c 0))) ∧ ∀ p : Nat, p ∉ [46, 56, 57] → t2.1 p = t.1 p ∧ t2.2 p = t.2 p := by
      intro t ht
      have t0 : t.1 46 0 = nI (N c 0) := by rw [ht.at (k := 0) (i := 0) (by omega) (by omega)]; exact hc0
      obtain ⟨t2, c1, c2, c3, c4⟩ := sm_turnsOnce (s := t) (c := c) ht ho t0 hn hn6 hc (fun e he => by rw [ht.at (k := 121 + e) (i := 121 + e) (by omega) (by omega)]; exact hv e he)
      have hr : RW (t2.1 46) (cw c (mix c w (N c 0) (N c 0))) := by rw [c2]; exact ht.turned _
      refine ⟨t2, c1, ?_, hr, c4⟩
      exact sm_notContent hr hW (by rw [c2, (cw_n _ _).1]; exact t0) hn hn6 hok c3
    by_cases hz : dc (cw c (mix c w (N c 0) (N c 0))) (mix c w (N c 0) (N c 0)) (N c 0) (N c 0) = 0
    · refine ⟨nI a, cw c (mix c w (N c 0) (N c 0)), hW, fun f s hs => ?_, fun f t ht => ?_⟩
      · obtain ⟨s2, s3, a1, a2, a3, a4, a5⟩ := hX s hs
        refine ⟨s3, ?_, a3, a4, a5⟩
        rw [show m + 1 + 1 + f = (m + 1 + f) + 1 by omega, lX10_rest_22, if_neg hgt, a1, bd_some, a2, bd_some, hz, if_pos (show nI 0 = 0 from rfl)]
      · obtain ⟨t2, a1, a2, a3, a4⟩ := hM t ht
        refine ⟨t2, ?_, a3, a4⟩
        rw [show m + 1 + 1 + f = (m + 1 + f) + 1 by omega, lX11_rest_19, if_neg hgt, a1, bd_some, a2, bd_some, hz, if_pos (show nI 0 = 0 from rfl)]
    · have hz' : ¬ nI (dc (cw c (mix c w (N c 0) (N c 0))) (mix c w (N c 0) (N c 0)) (N c 0) (N c 0)) = 0 := by rw [li_0, eqI (by omega) (by omega)]; exact hz
      obtain ⟨r, c', hW', iX, iM⟩ := ih (a + 1) _ hW (by omega)
      refine ⟨r, c', hW', fun f s hs => ?_, fun f t ht => ?_⟩
      · obtain ⟨s2, s3, a1, a2, a3, a4, a5⟩ := hX s hs
        obtain ⟨s4, b1, b2, b3, b4⟩ := iX f s3 a3
        refine ⟨s4, ?_, b2, fun p hp => (b3 p hp).trans (a4 p hp), fun p hp => (b4 p hp).trans (a5 p hp)⟩
        rw [show m + 1 + 1 + f = (m + 1 + f) + 1 by omega, lX10_rest_22, if_neg hgt, a1, bd_some, a2, bd_some, if_neg hz', e1]
        exact b1
      · obtain ⟨t2, a1, a2, a3, a4⟩ := hM t ht
        obtain ⟨t4, b1, b2, b3⟩ := iM f t2 a3
        refine ⟨t4, ?_, b2, fun p hp => ⟨(b3 p hp).1.trans (a4 p hp).1, (b3 p hp).2.trans (a4 p hp).2⟩⟩
        rw [show m + 1 + 1 + f = (m + 1 + f) + 1 by omega, lX11_rest_19, if_neg hgt, a1, bd_some, a2, bd_some, if_neg hz', e1]
        exact b1
