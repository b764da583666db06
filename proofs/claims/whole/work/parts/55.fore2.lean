/-! PURE PART: foreseen: both look ahead -/
def lk (W : Nat → Nat → Option (List Nat)) : Nat → Nat → Option (Nat × Nat)
  | _, 0 => none
  | a, m + 1 => match fe W a 0 a with
    | none => lk W (a + 1) m
    | some j => some (a, j)
theorem lk_bd (W : Nat → Nat → Option (List Nat)) : ∀ (m a A j : Nat), lk W a m = some (A, j) → a ≤ A ∧ A < a + m ∧ j < A := by
  intro m
  induction m with
  | zero => intro a A j h; cases h
  | succ m ih =>
    intro a A j h
    rw [lk] at h
    cases hf : fe W a 0 a with
    | none =>
      rw [hf] at h
      have := ih (a + 1) A j h
      omega
    | some i =>
      rw [hf] at h
      have := fe_bd W a a 0 i hf
      have h : some (a, i) = some (A, j) := h
      injection h with h
      injection h with h1 h2
      omega
theorem sx_look_l {c : Nat → Int32} (ho : WOK c) {n : Nat} (h0 : c 0 = nI n) (hn : 0 < n) (h6 : n ≤ 6) {w : Nat → Option (List Nat)} (hc : okC n w) (K : Int32 → Int32 → mx_G → Option (Unit × mx_G)) : ∀ (m a f : Nat) (s : mx_G), a + m = 61 → 1 ≤ a → s.1 2 = c → LD s (Wt c w n (a - 1)) → (∀ i e, i < a → e < 6 → s.1 35 (i * 6 + e) = val (Wt c w n i e)) → ∃ s', lX1_look_20 K (m + 1 + f) (nI a) s = (match lk (Wt c w n) a m with | none => some ((), s') | some q => K (nI q.1) (nI q.2) s') ∧ s'.1 34 = s.1 34 := by
  intro m
  induction m with
  | zero =>
    intro a f s h h1 hs hl hr
    refine ⟨s, ?_, rfl⟩
    rw [show 0 + 1 + f = f + 1 by omega, lX1_look_20, if_pos (by rw [show (60 : Int32) = nI 60 from rfl, ltI (by omega) (by omega)]; omega)]
    rfl
  | succ m ih =>
    intro a f s h h1 hs hl hr
    obtain ⟨s1, e1, hl1, fr1⟩ := sx_advance (s := s) (by rw [hs]; exact ho) (by rw [hs]; exact h0) hn h6 (Wt_ok ho hn h6 hc (a - 1)) hl
    rw [hs] at e1 hl1
    have hWa : mix c (Wt c w n (a - 1)) n n = Wt c w n a := by
      obtain ⟨b, rfl⟩ : ∃ b, a = b + 1 := ⟨a - 1, by omega⟩
      rfl
    rw [hWa] at hl1
    have e2 := sx_note hl1 (a := a) (by omega)
    generalize hs2 : gs s1 35 (fun t => if a * 6 ≤ t ∧ t < a * 6 + 6 then val (Wt c w n a (t - a * 6)) else s1.1 35 t) = s2 at e2
    have hr2 : ∀ i e, i ≤ a → e < 6 → s2.1 35 (i * 6 + e) = val (Wt c w n i e) := by
      intro i e hi he
      rw [← hs2, gs_rd]
      by_cases z : i = a
      · subst z
        rw [if_pos (by omega), show i * 6 + e - i * 6 = e by omega]
      · rw [if_neg (by omega), (fr1 35 (by decide)).1]
        exact hr i e (by omega) he
    obtain ⟨g, hg⟩ := FU_lt (n := a) (by omega)
    have e3 : fX1_earlier (nI a) s2 = some (match fe (Wt c w n) a 0 a with | none => -1 | some j => nI j, s2) := by
      unfold fX1_earlier
      rw [hg]
      exact sx_earlier_l (Wt c w n) s2 a (by omega) hr2 a 0 g (by omega)
    have h34 : s2.1 34 = s.1 34 := by rw [← hs2, gs_rdn _ (by decide)]; exact (fr1 34 (by decide)).1
    have hgt : ¬ (60 : Int32) < nI a := by rw [show (60 : Int32) = nI 60 from rfl, ltI (by omega) (by omega)]; omega
    have ea : nI a + 1 = nI (a + 1) := by rw [li_1, adI]
    cases hf : fe (Wt c w n) a 0 a with
    | none =>
      rw [hf] at e3
      obtain ⟨s', e, q⟩ := ih (a + 1) f s2 (by omega) (by omega) (by rw [← hs2, gs_rdn _ (by decide), (fr1 2 (by decide)).1]; exact hs) (by
        intro d hd
        rw [← hs2, gs_rdn _ (by decide), gs_rdn _ (by decide), gs_rdn _ (by decide), gs_rdn _ (by decide)]
        exact hl1 d hd) (fun i e hi he => hr2 i e (by omega) he)
      refine ⟨s', ?_, q.trans h34⟩
      rw [show m + 1 + 1 + f = (m + 1 + f) + 1 by omega, lX1_look_20, if_neg hgt, e1, bd_some, e2, bd_some, e3, bd_some, if_pos (by decide), ea, e, lk, hf]
    | some j =>
      rw [hf] at e3
      have hj := fe_bd _ _ _ _ _ hf
      refine ⟨s2, ?_, h34⟩
      rw [show m + 1 + 1 + f = (m + 1 + f) + 1 by omega, lX1_look_20, if_neg hgt, e1, bd_some, e2, bd_some, e3, bd_some, lk, hf]
      show (if nI j < 0 then _ else _) = _
      rw [if_neg (by rw [li_0, ltI (by omega) (by omega)]; omega)]
theorem sx_look {s : mx_G} (ho : WOK (s.1 2)) {n : Nat} (h0 : s.1 2 0 = nI n) (hn : 0 < n) (h6 : n ≤ 6) {w : Nat → Option (List Nat)} (hc : okC n w) (hl : LD s w) : ∃ s', fX1_look s = some ((), s') ∧ (s'.1 34 0 = match lk (Wt (s.1 2) w n) 1 60 with | none => -4 | some q => nI q.2) ∧ (s'.1 34 1 = match lk (Wt (s.1 2) w n) 1 60 with | none => -4 | some q => nI (q.1 - q.2)) := by
  obtain ⟨f, hf⟩ := FU_lt (n := 60) (by omega)
  have hl2 : LD (gi (gi s 34 0 (-4)) 34 1 (-4)) w := by
    intro d hd
    simp only [rd_gi, Nat.reduceEqDiff, if_false]
    exact hl d hd
  have e1 := sx_note hl2 (a := 0) (by omega)
  generalize hs3 : gs (gi (gi s 34 0 (-4)) 34 1 (-4)) 35 (fun t => if 0 * 6 ≤ t ∧ t < 0 * 6 + 6 then val (w (t - 0 * 6)) else (gi (gi s 34 0 (-4)) 34 1 (-4)).1 35 t) = s3 at e1
  have q2 : s3.1 2 = s.1 2 := by rw [← hs3]; simp only [rd_gs, rd_gi, Nat.reduceEqDiff, if_false]
  have q34 : s3.1 34 0 = -4 ∧ s3.1 34 1 = -4 := by
    rw [← hs3]
    simp only [rd_gs, rd_gi, Nat.reduceEqDiff, if_false, if_true, upd_rd]
    exact ⟨trivial, trivial⟩
  obtain ⟨s', e2, q⟩ := sx_look_l ho h0 hn h6 hc (fun y10 y11 s9 => mv_let (gi s9 34 0 y11) fun s12 => mv_let (gi s12 34 1 (y10 - y11)) fun s13 => some ((), s13)) 60 1 f s3 (by omega) (by omega) q2 (by
    intro d hd
    rw [← hs3]
    simp only [rd_gs, rd_gi, Nat.reduceEqDiff, if_false]
    exact hl d hd) (fun i e hi he => by
    have : i = 0 := by omega
    subst this
    rw [← hs3, gs_rd, if_pos (by omega), show 0 * 6 + e - 0 * 6 = e by omega]
    rfl)
  rw [← hf] at e2
  have el : fX1_look s = lX1_look_20 (fun y10 y11 s9 => mv_let (gi s9 34 0 y11) fun s12 => mv_let (gi s12 34 1 (y10 - y11)) fun s13 => some ((), s13)) FU (nI 1) s3 := by
    unfold fX1_look
    rw [mv_let, mv_let, li_0, e1, bd_some, li_1]
  rw [el, e2]
  cases hlk : lk (Wt (s.1 2) w n) 1 60 with
  | none => exact ⟨s', rfl, by rw [q]; exact q34.1, by rw [q]; exact q34.2⟩
  | some r =>
    have := lk_bd _ _ _ r.1 r.2 hlk
    refine ⟨gi (gi s' 34 0 (nI r.2)) 34 1 (nI r.1 - nI r.2), rfl, ?_, ?_⟩
    · simp only [rd_gi, if_true, upd_rd, Nat.reduceEqDiff, if_false]
    · simp only [rd_gi, if_true, upd_rd]
      exact suI (by omega)
