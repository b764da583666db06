/-! PURE PART: seen -/
theorem seen_l {c : Nat → Int32} (ho : WOK c) {w : Nat → Option (List Nat)} (hc : okC (N c 0) w) (hv : ∀ e, e < 6 → c (121 + e) = val (w e)) {d : Nat} (hd : d < 6) : ∀ (m t a : Nat), t + m = 4 → a < 2 ^ t → ∃ r : Nat, r < 16 ∧ (∀ (f : Nat) (q : Int32) (K : Int32 → mx_G → Option (Int32 × mx_G)) (s : mx_G) (x : Int32), s.1 2 = upd c (1 + d) x → ∃ s' y, lX10_seen_27 (nI d) q K (m + 1 + f) (nI a) (nI t) s = K (nI r) s' ∧ s'.1 2 = upd c (1 + d) y ∧ (∀ p : Nat, p ∉ [2, 10, 11, 12, 13] → s'.1 p = s.1 p) ∧ ∀ p : Nat, p ∉ [10, 11, 12, 13] → s'.2 p = s.2 p) ∧ (∀ (f : Nat) (q : Int32) (K : Int32 → mx_G → Option (Int32 × mx_G)) (s g : mx_G) (x : Int32), RW (g.1 46) c → s.1 46 = upd (g.1 46) (109 + d) x → (∀ e, e < 6 → s.1 56 e = val (w e)) → ∃ s' y, lX11_seen_29 (nI d) q K (m + 1 + f) (nI a) (nI t) s = K (nI r) s' ∧ s'.1 46 = upd (g.1 46) (109 + d) y ∧ (∀ p : Nat, p ∉ [46] → s'.1 p = s.1 p) ∧ s'.2 = s.2) := by
  have hn6 := ho.1.2
  have hn2 := ho.1.1
  have hn : 0 < N c 0 := by omega
  have hc0 := ho.2.1 0 (by omega)
  intro m
  induction m with
  | zero =>
    intro t a h ha
    have : t = 4 := by omega
    subst this
    refine ⟨a, ha, fun f q K s x hs => ⟨s, x, ?_, hs, fun _ _ => rfl, fun _ _ => rfl⟩, fun f q K s g x hg hs hm => ⟨s, x, ?_, hs, fun _ _ => rfl, rfl⟩⟩
    · rw [show 0 + 1 + f = f + 1 by omega, lX10_seen_27, if_pos (by decide)]
    · rw [show 0 + 1 + f = f + 1 by omega, lX11_seen_29, if_pos (by decide)]
  | succ m ih =>
    intro t a h ha
    have ht : t < 4 := by omega
    have hW : WOK (upd c (1 + d) (nI t)) := ho.small (by omega) (Or.inl ⟨by omega, by omega, by omega⟩)
    have hN : N (upd c (1 + d) (nI t)) 0 = N c 0 := by rw [N_upd _ _ _ (by omega), if_neg (by omega)]
    have h00 : upd c (1 + d) (nI t) 0 = nI (N c 0) := by rw [upd_rd, if_neg (by omega)]; exact hc0
    have hvv : ∀ e, e < 6 → upd c (1 + d) (nI t) (121 + e) = val (w e) := fun e he => by rw [upd_rd, if_neg (by omega)]; exact hv e he
    have e1 : nI t + 1 = nI (t + 1) := by rw [li_1, adI]
    have hp : 2 ^ t ≤ 2 ^ 3 := Nat.pow_le_pow_right (by omega) (by omega)
    have hp2 : 2 ^ t < 2 ^ (t + 1) := Nat.pow_lt_pow_right (by omega) (by omega)
    have hb := dc_lt (upd c (1 + d) (nI t)) w (N c 0) (N c 0)
    have hpp := pow_le64 (N c 0) (by omega)
    have c1 : ¬ (3 : Int32) < nI t := by rw [li_3, ltI (by omega) (by omega)]; omega
    have c2 : ¬ (4 : Int32) ≤ nI t := by rw [li_4, leI (by omega) (by omega)]; omega
    have e2 : nI a ||| 0 = nI a := by rw [li_0, or_n a (by omega) 0 (by omega), Nat.or_zero]
    have e3 : nI a ||| mv_shl 1 (nI t) = nI (a ||| 2 ^ t) := by rw [shl_n t (by omega), or_n a (by omega) _ (by omega)]
    have ha1 : a < 2 ^ (t + 1) := by omega
    have ha2 : a ||| 2 ^ t < 2 ^ (t + 1) := Nat.or_lt_two_pow ha1 hp2
    have hX : ∀ (s : mx_G) (x : Int32), s.1 2 = upd c (1 + d) x → ∃ s1 s2, fX9_setManner (nI d) (nI t) s = some ((), s1) ∧ fX10_discontent s1 = some (nI (dc (upd c (1 + d) (nI t)) w (N c 0) (N c 0)), s2) ∧ s2.1 2 = upd c (1 + d) (nI t) ∧ (∀ p : Nat, p ∉ [2, 10, 11, 12, 13] → s2.1 p = s.1 p) ∧ ∀ p : Nat, p ∉ [10, 11, 12, 13] → s2.2 p = s.2 p := by
      intro s x hs
      have q1 : (gi s 2 (1 + d) (nI t)).1 2 = upd c (1 + d) (nI t) := by rw [rd_gi, if_pos rfl, hs, upd_upd]
      obtain ⟨s2, b1, -, b3⟩ := sx_discontent (s := gi s 2 (1 + d) (nI t)) (n := N c 0) (w := w) (by rw [q1]; exact hW) (by rw [q1]; exact h00) hn hn6 hc (fun e he => by rw [q1]; exact hvv e he)
      rw [q1] at b1
      refine ⟨_, s2, ?_, b1, (b3 2 (by decide)).1.trans q1, fun p hp => ?_, fun p hp => (b3 p hp).2⟩
      · unfold fX9_setManner
        simp (disch := omega) only [li_1, adI, ixT, clI, if_true, mv_let]
      · rw [(b3 p (fun z => hp (List.mem_cons_of_mem _ z))).1, rd_gi, if_neg (fun z => hp (by rw [z]; decide))]
    have hM : ∀ (s g : mx_G) (x : Int32), RW (g.1 46) c → s.1 46 = upd (g.1 46) (109 + d) x → (∀ e, e < 6 → s.1 56 e = val (w e)) → (gi s 46 (109 + d) (nI t)).1 46 = upd (g.1 46) (109 + d) (nI t) ∧ fX11_notContent (gi s 46 (109 + d) (nI t)) = some (nI (dc (upd c (1 + d) (nI t)) w (N c 0) (N c 0)), gi s 46 (109 + d) (nI t)) := by
      intro s g x hg hs hm
      have q1 : (gi s 46 (109 + d) (nI t)).1 46 = upd (g.1 46) (109 + d) (nI t) := by rw [rd_gi, if_pos rfl, hs, upd_upd]
      have hr : RW (upd (g.1 46) (109 + d) (nI t)) (upd c (1 + d) (nI t)) := RW_updA hg (by omega) (by omega) _
      refine ⟨q1, sm_notContent (by rw [q1]; exact hr) hW (by rw [q1, upd_rd, if_neg (by omega), hg.at (k := 0) (i := 0) (by omega) (by omega)]; exact hc0) hn hn6 hc (fun e he => ?_)⟩
      rw [rd_gi, if_neg (by decide)]; exact hm e he
    by_cases hz : dc (upd c (1 + d) (nI t)) w (N c 0) (N c 0) = 0
    · obtain ⟨r, hr, iX, iM⟩ := ih (t + 1) (a ||| 2 ^ t) (by omega) ha2
      refine ⟨r, hr, fun f q K s x hs => ?_, fun f q K s g x hg hs hm => ?_⟩
      · obtain ⟨s1, s2, a1, a2, a3, a4, a5⟩ := hX s x hs
        obtain ⟨s', y, b1, b2, b3, b4⟩ := iX f q K s2 _ a3
        refine ⟨s', y, ?_, b2, fun p hp => (b3 p hp).trans (a4 p hp), fun p hp => (b4 p hp).trans (a5 p hp)⟩
        rw [show m + 1 + 1 + f = (m + 1 + f) + 1 by omega, lX10_seen_27, if_neg c1, a1, bd_some, a2, bd_some, hz, if_pos (show nI 0 = 0 from rfl), mv_let, e3, e1]
        exact b1
      · obtain ⟨q1, q2⟩ := hM s g x hg hs hm
        obtain ⟨s', y, b1, b2, b3, b4⟩ := iM f q K _ g _ hg q1 (fun e he => by rw [rd_gi, if_neg (by decide)]; exact hm e he)
        refine ⟨s', y, ?_, b2, fun p hp => (b3 p hp).trans (by rw [rd_gi, if_neg (fun z => hp (by rw [z]; decide))]), b4⟩
        rw [show m + 1 + 1 + f = (m + 1 + f) + 1 by omega, lX11_seen_29, if_neg c2, li_109, adI, ixT (by omega) (by omega), if_pos rfl, clI (by omega)]
        simp only [mv_let]
        rw [q2, bd_some, hz, if_pos (show nI 0 = 0 from rfl), e3, e1]
        exact b1
    · have hz' : ¬ nI (dc (upd c (1 + d) (nI t)) w (N c 0) (N c 0)) = 0 := by rw [li_0, eqI (by omega) (by omega)]; exact hz
      obtain ⟨r, hr, iX, iM⟩ := ih (t + 1) a (by omega) ha1
      refine ⟨r, hr, fun f q K s x hs => ?_, fun f q K s g x hg hs hm => ?_⟩
      · obtain ⟨s1, s2, a1, a2, a3, a4, a5⟩ := hX s x hs
        obtain ⟨s', y, b1, b2, b3, b4⟩ := iX f q K s2 _ a3
        refine ⟨s', y, ?_, b2, fun p hp => (b3 p hp).trans (a4 p hp), fun p hp => (b4 p hp).trans (a5 p hp)⟩
        rw [show m + 1 + 1 + f = (m + 1 + f) + 1 by omega, lX10_seen_27, if_neg c1, a1, bd_some, a2, bd_some, if_neg hz', e1]
        exact b1
      · obtain ⟨q1, q2⟩ := hM s g x hg hs hm
        obtain ⟨s', y, b1, b2, b3, b4⟩ := iM f q K _ g _ hg q1 (fun e he => by rw [rd_gi, if_neg (by decide)]; exact hm e he)
        refine ⟨s', y, ?_, b2, fun p hp => (b3 p hp).trans (by rw [rd_gi, if_neg (fun z => hp (by rw [z]; decide))]), b4⟩
        rw [show m + 1 + 1 + f = (m + 1 + f) + 1 by omega, lX11_seen_29, if_neg c2, li_109, adI, ixT (by omega) (by omega), if_pos rfl, clI (by omega)]
        simp only [mv_let]
        rw [q2, bd_some, if_neg hz', e2, e1]
        exact b1
