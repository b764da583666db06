/-! PURE PART: foreseen: the reference -/
theorem sm_asb0 (i : Nat) (s : mx_G) : ∀ (m e f : Nat), e + m = 6 → lX11_isAsBehind_4 (nI i) (m + 1 + f) 0 (nI e) s = some (0, s) := by
  intro m
  induction m with
  | zero =>
    intro e f h
    rw [show 0 + 1 + f = f + 1 by omega, lX11_isAsBehind_4, if_pos (by rw [li_6, leI (by omega) (by omega)]; omega), if_pos (by decide)]
  | succ m ih =>
    intro e f h
    have e1 : nI e + 1 = nI (e + 1) := by rw [li_1, adI]
    rw [show m + 1 + 1 + f = (m + 1 + f) + 1 by omega, lX11_isAsBehind_4, if_neg (by rw [li_6, leI (by omega) (by omega)]; omega), if_pos rfl, e1]
    exact ih (e + 1) f (by omega)
theorem sm_asb_l (W : Nat → Nat → Option (List Nat)) (s : mx_G) (i k : Nat) (hi : i ≤ 60) (h1 : ∀ e, e < 6 → s.1 58 (6 * i + e) = val (W i e)) (h2 : ∀ e, e < 6 → s.1 56 e = val (W k e)) : ∀ (m e f : Nat), e + m = 6 → lX11_isAsBehind_4 (nI i) (m + 1 + f) 1 (nI e) s = some (if alk W i k e m = true then 1 else 0, s) := by
  intro m
  induction m with
  | zero =>
    intro e f h
    rw [show 0 + 1 + f = f + 1 by omega, lX11_isAsBehind_4, if_pos (by rw [li_6, leI (by omega) (by omega)]; omega), alk, if_pos rfl, if_pos (by decide)]
  | succ m ih =>
    intro e f h
    have e1 : nI e + 1 = nI (e + 1) := by rw [li_1, adI]
    rw [show m + 1 + 1 + f = (m + 1 + f) + 1 by omega, lX11_isAsBehind_4, if_neg (by rw [li_6, leI (by omega) (by omega)]; omega), if_neg one_ne, li_6, muI, adI, ixT (by omega) (by omega), if_pos rfl, ixT (by omega) (by omega), if_pos rfl, clI (by omega), clI (by omega), h1 e (by omega), h2 e (by omega), e1, ih (e + 1) f (by omega), sm_asb0 i s m (e + 1) f (by omega), alk]
    by_cases z : val (W i e) = val (W k e)
    · rw [if_pos z, if_pos z]
    · rw [if_neg z, if_neg z, if_neg (by decide)]
theorem sm_f48_l (W : Nat → Nat → Option (List Nat)) (s : mx_G) (k : Nat) (hk : k ≤ 60) (h1 : ∀ i e, i < k → e < 6 → s.1 58 (6 * i + e) = val (W i e)) (h2 : ∀ e, e < 6 → s.1 56 e = val (W k e)) (p : Int32) (K1 : Int32 → mx_G → Option (Int32 × mx_G)) (K2 : mx_G → Option (Int32 × mx_G)) : ∀ (m i f : Nat), i + m = k → lX11_foreseen_48 p (nI k) K1 K2 (m + 1 + f) (nI i) s = match fe W k i m with | none => K2 s | some j => K1 (nI j) s := by
  intro m
  induction m with
  | zero =>
    intro i f h
    rw [show 0 + 1 + f = f + 1 by omega, lX11_foreseen_48, if_pos (nI_le (by omega) (by omega))]
    rfl
  | succ m ih =>
    intro i f h
    obtain ⟨g, hg⟩ := FU_lt (n := 6) (by omega)
    have e1 : nI i + 1 = nI (i + 1) := by rw [li_1, adI]
    have e2 : fX11_isAsBehind (nI i) s = some (if alk W i k 0 6 = true then 1 else 0, s) := by
      unfold fX11_isAsBehind
      rw [hg]
      exact sm_asb_l W s i k (by omega) (fun e he => h1 i e (by omega) he) h2 6 0 g (by omega)
    rw [show m + 1 + 1 + f = (m + 1 + f) + 1 by omega, lX11_foreseen_48, if_neg (nI_ge (by omega) (by omega)), e2, bd_some, e1, ih (i + 1) f (by omega), fe]
    by_cases z : alk W i k 0 6 = true
    · rw [if_pos z, if_neg one_ne, if_pos z]
    · rw [if_neg z, if_pos rfl, if_neg z]
theorem sm_f35_l {c : Nat → Int32} (ho : WOK c) {n : Nat} (hn : 0 < n) (h6 : n ≤ 6) {w : Nat → Option (List Nat)} (hc : okC n w) (p : Int32) (K : Int32 → Int32 → mx_G → Option (Int32 × mx_G)) : ∀ (m a f : Nat) (s : mx_G), a + m = 61 → 1 ≤ a → RW (s.1 46) c → s.1 46 0 = nI n → (∀ e, e < 6 → s.1 56 e = val (Wt c w n (a - 1) e)) → (∀ i e, i < a → e < 6 → s.1 58 (6 * i + e) = val (Wt c w n i e)) → ∃ s', lX11_foreseen_35 p K (m + 1 + f) (nI a) s = (match lk (Wt c w n) a m with | none => some (-4, s') | some q => K (nI q.1) (nI q.2) s') := by
  intro m
  induction m with
  | zero =>
    intro a f s h h1 hw h0 hm hr
    refine ⟨s, ?_⟩
    rw [show 0 + 1 + f = f + 1 by omega, lX11_foreseen_35, if_pos (by rw [show (60 : Int32) = nI 60 from rfl, ltI (by omega) (by omega)]; omega)]
    rfl
  | succ m ih =>
    intro a f s h h1 hw h0 hm hr
    obtain ⟨s1, e1, hm1, fr1⟩ := sm_turnsInMind (s := s) hw ho h0 hn h6 (Wt_ok ho hn h6 hc (a - 1)) hm
    have hWa : mix c (Wt c w n (a - 1)) n n = Wt c w n a := by
      obtain ⟨b, rfl⟩ : ∃ b, a = b + 1 := ⟨a - 1, by omega⟩
      rfl
    rw [hWa] at hm1
    have hr1 : ∀ i e, i < a → e < 6 → s1.1 58 (6 * i + e) = val (Wt c w n i e) := fun i e hi he => by rw [(fr1 58 (by decide)).1]; exact hr i e hi he
    obtain ⟨g, hg⟩ := FU_lt (n := a) (by omega)
    have hgt : ¬ (60 : Int32) < nI a := by rw [show (60 : Int32) = nI 60 from rfl, ltI (by omega) (by omega)]; omega
    have ea : nI a + 1 = nI (a + 1) := by rw [li_1, adI]
    have e3 := fun K2 => sm_f48_l (Wt c w n) s1 a (by omega) hr1 hm1 p (fun y10 s9 => K (nI a) y10 s9) K2 a 0 g (by omega)
    rw [← hg] at e3
    have e4 := sm_bring_4 0 (6 * a) 6 (by omega) (by omega) s1
    cases hf : fe (Wt c w n) a 0 a with
    | none =>
      obtain ⟨s', e⟩ := ih (a + 1) f (gs s1 58 (va_cpy (s1.1 56) (s1.1 58) 0 (6 * a) 6)) (by omega) (by omega) (by rw [gs_rdn _ (by decide), (fr1 46 (by decide)).1]; exact hw) (by rw [gs_rdn _ (by decide), (fr1 46 (by decide)).1]; exact h0) (fun e he => by rw [gs_rdn _ (by decide), hm1 e he]; rfl) (fun i e hi he => by
        rw [gs_rd, cpy_rd]
        by_cases z : i = a
        · subst z
          rw [if_pos (by omega), show 0 + (6 * i + e - 6 * i) = e by omega, hm1 e he]
        · rw [if_neg (by omega)]
          exact hr1 i e (by omega) he)
      refine ⟨s', ?_⟩
      rw [show m + 1 + 1 + f = (m + 1 + f) + 1 by omega, lX11_foreseen_35, if_neg hgt, e1, bd_some, li_0, e3, hf]
      show mv_bind (fX11_bring_4 (nI 0) (6 * nI a) 6 s1) _ = _
      rw [li_6, muI, e4, bd_some, ea, e, lk, hf]
    | some j =>
      refine ⟨s1, ?_⟩
      rw [show m + 1 + 1 + f = (m + 1 + f) + 1 by omega, lX11_foreseen_35, if_neg hgt, e1, bd_some, li_0, e3, hf, lk, hf]
theorem sm_foreseen {τ : mx_G} {c : Nat → Int32} (hw : RW (τ.1 46) c) (ho : WOK c) {n : Nat} (h0 : τ.1 46 0 = nI n) (hn : 0 < n) (h6 : n ≤ 6) {w : Nat → Option (List Nat)} (hc : okC n w) (hv : ∀ e, e < 6 → τ.1 46 (121 + e) = val (w e)) (p : Int32) (hin : fX11_in (Int32.toInt64 p) 0 2 τ = some (1, τ)) : ∃ τ', fX11_foreseen p τ = (match lk (Wt c w n) 1 60 with | none => some (-4, τ') | some q => if p = 1 then some (nI q.1 - nI q.2, τ') else if p = 2 then some (nI q.2, τ') else if nI q.1 - nI q.2 = 1 then some (nI q.2, τ') else some (-4, τ')) := by
  obtain ⟨f, hf⟩ := FU_lt (n := 60) (by omega)
  have th := sm_thinks τ
  generalize hτ1 : gs τ 56 (va_cpy (τ.1 46) (τ.1 56) 121 0 6) = τ1 at th
  have m1 : ∀ e, e < 6 → τ1.1 56 e = val (w e) := fun e he => by rw [← hτ1, thinks_rd τ he]; exact hv e he
  have m2 : τ1.1 46 = τ.1 46 := by rw [← hτ1, gs_rdn _ (by decide)]
  have e4 := sm_bring_4 0 0 6 (by omega) (by omega) τ1
  obtain ⟨τ', e⟩ := sm_f35_l ho hn h6 hc p (fun y14 y15 s13 => if p = 1 then some (y14 - y15, s13) else if p = 2 then some (y15, s13) else if y14 - y15 = 1 then some (y15, s13) else some ((-4), s13)) 60 1 f (gs τ1 58 (va_cpy (τ1.1 56) (τ1.1 58) 0 0 6)) (by omega) (by omega) (by rw [gs_rdn _ (by decide), m2]; exact hw) (by rw [gs_rdn _ (by decide), m2]; exact h0) (fun e he => by rw [gs_rdn _ (by decide)]; exact m1 e he) (fun i e hi he => by
    have : i = 0 := by omega
    subst this
    rw [gs_rd, cpy_rd, if_pos (by omega), show 0 + (6 * 0 + e - 0) = e by omega]
    exact m1 e he)
  rw [← hf] at e
  refine ⟨τ', ?_⟩
  unfold fX11_foreseen
  rw [hin, bd_some, if_neg one_ne, th, bd_some, li_0, li_6, e4, bd_some]
  exact e
section ACT
variable {IC : Nat → mx_G → Prop}
theorem ok_foreseen (hC : ICok IC) : pv_foreseen (Inv IC) := by
  intro k σ p1 hk h
  obtain ⟨n2, n6, nx0, nm⟩ := h.n
  obtain ⟨w, hc, hv⟩ := chosen_ways h.1.2
  have hn : 0 < N (σ.1 2) 0 := by omega
  rcases rng_cases 2 (by omega) 2 (by decide) 2 rfl p1 with ⟨t, ht, rfl, g1, g2, m2⟩ | ⟨g, m2⟩
  · obtain ⟨s1, e1, hl, fr⟩ := sx_load hn n6 (s := σ) (w := w) (fun e he => ⟨hv e he, fun l hl => (hc.2 e he l hl).1⟩)
    have q2 : s1.1 2 = σ.1 2 := (fr 2 (by decide)).1
    obtain ⟨s2, e2, r1, r2⟩ := sx_look (s := s1) (by rw [q2]; exact h.1.2) (by rw [q2]; exact nx0) hn n6 hc hl
    rw [q2] at r1 r2
    have fr2 := fr_X1_look s1 _ _ e2
    have sc1 : Sc σ s2 := by
      refine ⟨fun p hp => ?_, fun j _ _ _ => ?_, fun p hp => ?_⟩
      · exact (fr2 p (fun z => hp (by revert z; simp [scr]; omega))).1.trans (fr p (fun z => hp (by revert z; simp [scr]; omega))).1
      · rw [(fr2 45 (by decide)).1, (fr 45 (by decide)).1]
      · exact (fr2 p (fun z => hp (by revert z; simp [scr]; omega))).2.trans (fr p (fun z => hp (by revert z; simp [scr]; omega))).2
    have t46 : s2.1 46 = σ.1 46 := sc1.1 46 (by decide)
    obtain ⟨τ', e3⟩ := sm_foreseen (τ := s2) (c := σ.1 2) (by rw [t46]; exact h.1.1) h.1.2 (by rw [t46]; exact nm) hn n6 hc (fun e he => by
      rw [t46, h.1.1.at (k := 121 + e) (i := 121 + e) (by omega) (by omega)]; exact hv e he) (nI t) (m2 s2)
    have fin : ∀ r : Int32, fX11_foreseen (nI t) s2 = some (r, τ') → Inv IC (k + 1) τ' := fun r hr => h.sc hC (sc1.trans ((fr_X11_foreseen (nI t) s2).sc hr (by decide)))
    have eX : fX10_foreseen (nI t) σ = if nI t = 1 then some (s2.1 34 1, s2) else if nI t = 0 then if s2.1 34 1 = 1 then some (s2.1 34 0, s2) else some (-4, s2) else some (s2.1 34 0, s2) := by
      unfold fX10_foreseen
      rw [if_neg g1, if_pos g2, e1, bd_some, e2, bd_some]
    cases hlk : lk (Wt (σ.1 2) w (N (σ.1 2) 0)) 1 60 with
    | none =>
      rw [hlk] at e3 r1 r2
      have r1 : s2.1 34 0 = -4 := r1
      have r2 : s2.1 34 1 = -4 := r2
      have e3 : fX11_foreseen (nI t) s2 = some (-4, τ') := e3
      refine ⟨-4, s2, τ', ?_, e3, fin _ e3⟩
      rw [eX, r1, r2]
      split
      · rfl
      · split
        · rw [if_neg (by decide)]
        · rfl
    | some q =>
      rw [hlk] at e3 r1 r2
      have r1 : s2.1 34 0 = nI q.2 := r1
      have r2 : s2.1 34 1 = nI (q.1 - q.2) := r2
      have hb := lk_bd _ _ _ q.1 q.2 hlk
      have e3 : fX11_foreseen (nI t) s2 = if nI t = 1 then some (nI q.1 - nI q.2, τ') else if nI t = 2 then some (nI q.2, τ') else if nI q.1 - nI q.2 = 1 then some (nI q.2, τ') else some (-4, τ') := e3
      rw [suI (by omega)] at e3
      rw [r1, r2] at eX
      by_cases z1 : nI t = 1
      · rw [if_pos z1] at eX e3
        exact ⟨_, s2, τ', eX, e3, fin _ e3⟩
      · rw [if_neg z1] at eX e3
        by_cases z2 : nI t = 2
        · rw [if_pos z2] at e3
          rw [if_neg (by rw [z2]; decide)] at eX
          exact ⟨_, s2, τ', eX, e3, fin _ e3⟩
        · rw [if_neg z2] at e3
          have z0 : nI t = 0 := by
            rcases (show t = 0 ∨ t = 1 ∨ t = 2 by omega) with rfl | rfl | rfl
            · rfl
            · exact absurd rfl z1
            · exact absurd rfl z2
          rw [if_pos z0] at eX
          by_cases z3 : nI (q.1 - q.2) = 1
          · rw [if_pos z3] at eX e3
            exact ⟨_, s2, τ', eX, e3, fin _ e3⟩
          · rw [if_neg z3] at eX e3
            exact ⟨_, s2, τ', eX, e3, fin _ e3⟩
  · refine pv_same hC h (-1) ?_ ?_
    · unfold fX10_foreseen
      rcases g with g | g
      · rw [if_pos g]
      · by_cases g0 : p1 < 0
        · rw [if_pos g0]
        · rw [if_neg g0, if_neg g]
    · show fX11_foreseen p1 σ = _
      unfold fX11_foreseen
      rw [m2 σ, bd_some, if_pos rfl]
end ACT
