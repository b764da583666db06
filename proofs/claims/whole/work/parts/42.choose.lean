/-! PURE PART: choose -/
def ICk (IC : Nat → mx_G → Prop) : Prop := ∀ (k : Nat) (σ τ : mx_G), (∀ p : Nat, 15 ≤ p → p ≤ 33 → τ.1 p = σ.1 p ∧ τ.2 p = σ.2 p) → IC k σ → IC k τ
theorem Inv.sck {IC : Nat → mx_G → Prop} (hC : ICk IC) {k : Nat} {σ τ : mx_G} (h : Inv IC k σ) (hs : Sc σ τ) : Inv IC k τ :=
  Inv.sc (IC := fun _ => IC k) (fun _ σ τ hh hi => hC k σ τ hh hi) (k := k) h hs
theorem sm_thinks (s : mx_G) : fX11_thinks s = some ((), gs s 56 (va_cpy (s.1 46) (s.1 56) 121 0 6)) := by
  unfold fX11_thinks
  rw [li_121, li_0, li_6, sm_bring_2 121 0 6 (by omega) (by omega), bd_some]
theorem thinks_rd (s : mx_G) {e : Nat} (he : e < 6) : (gs s 56 (va_cpy (s.1 46) (s.1 56) 121 0 6)).1 56 e = s.1 46 (121 + e) := by
  rw [gs_rd, cpy_rd, if_pos (by omega)]
  exact congrArg _ (by omega)
theorem WOK.chosen {c : Nat → Int32} (h : WOK c) {d : Nat} (hpos : 0 < d) (hd : d < N c 0) {o : Option (List Nat)} (ho : ∀ l, o = some l → Way (N c 0) l ∧ hd0 l = d) : WOK (upd c (121 + d) (val o)) := by
  obtain ⟨h1, h2, h3, h4, h5, h6, h7⟩ := h
  have hR : ∀ k, k ≠ 121 + d → upd c (121 + d) (val o) k = c k := fun k hk => by rw [upd_rd, if_neg hk]
  have hN : ∀ k, k ≠ 121 + d → N (upd c (121 + d) (val o)) k = N c k := fun k hk => by unfold N; rw [hR k hk]
  refine ⟨by rw [hN 0 (by omega)]; exact h1, fun k hk => by rw [hR k (by omega), hN k (by omega)]; exact h2 k hk, by rw [hR 127 (by omega), hN 127 (by omega)]; exact h3, fun e he => by rw [hN _ (by omega), hN _ (by omega)]; exact h4 e he, fun a b ha hb => ?_, by rw [hR 121 (by omega)]; exact h6, fun e he he6 => ?_⟩
  · rw [hN _ (by omega), hN _ (by omega), hN _ (by omega), hN _ (by omega), hN _ (by omega), hN 0 (by omega)]
    exact h5 a b ha hb
  · rw [hN 0 (by omega)]
    by_cases e1 : e = d
    · subst e1
      rw [upd_rd, if_pos rfl]
      refine ⟨fun z => absurd z (by omega), fun _ => ?_⟩
      cases o with
      | none => exact Or.inl rfl
      | some l =>
        obtain ⟨g1, g2⟩ := ho l rfl
        cases l with
        | nil => exact g1.elim
        | cons x r =>
          have g2 : x = e := g2
          subst g2
          exact Or.inr ⟨r, g1, rfl⟩
    · rw [hR _ (by omega)]
      exact h7 e he he6
theorem val_inj {n : Nat} (hn : 0 < n) (h6 : n ≤ 6) {l : List Nat} (h : Way n l) : ¬ val (some l) = -4 := by
  have hlen := h.len hn
  have hwb := wnum_lt (h.dg hn h6)
  have hp8 := pow8 (n := l.length) (by omega)
  exact nI_ne4 (by omega)
theorem sx_chooseAnew {s : mx_G} {n d : Nat} (ho : WOK (s.1 2)) (h0 : s.1 2 0 = nI n) (hn : 0 < n) (h6 : n ≤ 6) (hd : d < n) {w : Nat → Option (List Nat)} (hc : okC n w) (hv : ∀ e, e < 6 → s.1 2 (121 + e) = val (w e)) : ∃ s', fX10_chooseAnew (nI d) s = some (if val (nx (s.1 2) w n d) = val (w d) then 0 else 1, s') ∧ s'.1 2 = upd (s.1 2) (121 + d) (val (nx (s.1 2) w n d)) ∧ (∀ p : Nat, p ∉ [2, 10, 11, 12, 13] → s'.1 p = s.1 p) ∧ ∀ p : Nat, p ∉ [10, 11, 12, 13] → s'.2 p = s.2 p := by
  obtain ⟨s1, e1, hl, fr⟩ := sx_load hn h6 (s := s) (w := w) (fun e he => ⟨hv e he, fun l hl => (hc.2 e he l hl).1⟩)
  have q2 : s1.1 2 = s.1 2 := (fr 2 (by decide)).1
  have e2 := sx_bestN (s := s1) (by rw [q2]; exact ho) (by rw [q2]; exact h0) hn h6 hd hc hl
  rw [q2] at e2
  have e3 : fX9_chosenBy (nI d) s1 = some (val (w d), s1) := by
    unfold fX9_chosenBy
    simp (disch := omega) only [li_121, adI, ixT, clI, if_true, q2, hv]
  have hfr : ∀ p : Nat, p ∉ [2, 10, 11, 12, 13] → s1.1 p = s.1 p := fun p hp => (fr p (fun z => hp (List.mem_cons_of_mem _ z))).1
  have hfr2 : ∀ p : Nat, p ∉ [10, 11, 12, 13] → s1.2 p = s.2 p := fun p hp => (fr p hp).2
  unfold fX10_chooseAnew
  rw [e1, bd_some, e2, bd_some, e3, bd_some]
  by_cases hx : val (nx (s.1 2) w n d) = val (w d)
  · refine ⟨s1, ?_, ?_, hfr, hfr2⟩
    · rw [if_pos hx, if_pos hx]
    · rw [q2, hx, upd_self _ (hv d (by omega))]
  · refine ⟨gi s1 2 (121 + d) (val (nx (s.1 2) w n d)), ?_, ?_, ?_, ?_⟩
    · rw [if_neg hx, if_neg hx]
      unfold fX9_setChosen
      simp (disch := omega) only [li_121, adI, ixT, clI, if_true, mv_let, bd_some]
    · rw [rd_gi, if_pos rfl, q2]
    · intro p hp
      have hp2 : p ≠ 2 := fun z => hp (by rw [z]; decide)
      rw [rd_gi, if_neg hp2]; exact hfr p hp
    · intro p hp
      rw [rd_gi2]; exact hfr2 p hp
section ACT
variable {IC : Nat → mx_G → Prop}
theorem ok_choose (hC : ICok IC) (hK : ICk IC) : pv_choose (Inv IC) := by
  intro k σ p1 hk h
  obtain ⟨n2, n6, nx0, nm⟩ := h.n
  obtain ⟨w, hc, hv⟩ := chosen_ways h.1.2
  unfold fX10_choose fX11_choose
  rcases dom_cases _ n2 n6 p1 with ⟨d, hd, rfl, x1, m1⟩ | ⟨x1, m1⟩
  · have hn : 0 < N (σ.1 2) 0 := by omega
    obtain ⟨s1, e1, hl, fr⟩ := sx_load hn n6 (s := σ) (w := w) (fun e he => ⟨hv e he, fun l hl => (hc.2 e he l hl).1⟩)
    have q2 : s1.1 2 = σ.1 2 := (fr 2 (by decide)).1
    have e2 := sx_bestN (s := s1) (by rw [q2]; exact h.1.2) (by rw [q2]; exact nx0) hn n6 hd hc hl
    rw [q2] at e2
    have e3 : fX9_chosenBy (nI d) s1 = some (val (w d), s1) := by
      unfold fX9_chosenBy
      simp (disch := omega) only [li_121, adI, ixT, clI, if_true, q2, hv]
    have sc1 : Sc σ s1 := ⟨fun p hp => (fr p (fun z => hp (by revert z; simp [scr]; omega))).1, fun j _ _ _ => by rw [(fr 45 (by decide)).1], fun p hp => (fr p (fun z => hp (by revert z; simp [scr]; omega))).2⟩
    have hI1 := h.sck hK sc1
    /- the reference, from any state whose world is as it was -/
    have ref : ∀ τ : mx_G, τ.1 46 = σ.1 46 → ∃ τ', fX11_thinks τ = some ((), τ') ∧ τ'.1 46 = σ.1 46 ∧ (∀ p, p ≠ 56 → τ'.1 p = τ.1 p) ∧ τ'.2 = τ.2 ∧ fX11_wouldChoose (nI d) τ' = some (val (nx (σ.1 2) w (N (σ.1 2) 0) d), τ') := by
      intro τ hτ
      have t46 : (gs τ 56 (va_cpy (τ.1 46) (τ.1 56) 121 0 6)).1 46 = σ.1 46 := by rw [gs_rdn _ (by decide)]; exact hτ
      refine ⟨_, sm_thinks τ, t46, fun p hp => gs_rdn _ hp _, rfl, ?_⟩
      refine sm_would (by rw [t46]; exact h.1.1) h.1.2 (by rw [t46]; exact nm) hn n6 hd hc (fun e he => ?_)
      rw [thinks_rd τ he, hτ, h.1.1.at (k := 121 + e) (i := 121 + e) (by omega) (by omega)]
      exact hv e he
    have hch : σ.1 46 (121 + d) = val (w d) := by rw [h.1.1.at (k := 121 + d) (i := 121 + d) (by omega) (by omega)]; exact hv d (by omega)
    by_cases hx : val (nx (σ.1 2) w (N (σ.1 2) 0) d) = val (w d)
    · obtain ⟨s2, a1, a2, a3, a4⟩ := sx_chooseAnew (s := s1) (by rw [q2]; exact h.1.2) (by rw [q2]; exact nx0) hn n6 hd hc (fun e he => by rw [q2]; exact hv e he)
      rw [q2] at a1 a2
      rw [if_pos hx] at a1
      have w2 : s2.1 2 = s1.1 2 := by rw [a2, hx, upd_self _ (hv d (by omega)), q2]
      have sc2 : Sc s1 s2 := by
        refine ⟨fun p hp => ?_, fun j _ _ _ => by rw [a3 45 (by decide)], fun p hp => a4 p (fun z => hp (by revert z; simp [scr]; omega))⟩
        by_cases hp2 : p = 2
        · rw [hp2]; exact w2
        · exact a3 p (fun z => hp (by revert z; simp [scr]; omega))
      have s46 : s2.1 46 = σ.1 46 := (a3 46 (by decide)).trans (fr 46 (by decide)).1
      obtain ⟨τ', b1, b2, b3, b4, b5⟩ := ref s2 s46
      have sc3 : Sc s2 τ' := ⟨fun p hp => b3 p (fun z => hp (by rw [z]; decide)), fun j _ _ _ => by rw [b3 45 (by decide)], fun p _ => by rw [b4]⟩
      refine ⟨0, s2, τ', ?_, ?_, h.sc hC (sc1.trans (sc2.trans sc3))⟩
      · rw [x1 σ nx0, bd_some, if_neg one_ne, e1, bd_some, e2, bd_some, e3, bd_some, if_pos hx, a1, bd_some]
      · show mv_bind (fX11_isDomain (nI d) s2) _ = _
        rw [m1 s2 (by rw [s46]; exact nm), bd_some, if_neg one_ne, b1, bd_some, b5, bd_some]
        simp (disch := omega) only [li_121, adI, ixT, clI, if_true, b2, hch, hx]
    · have hd0 : 0 < d := by
        rcases Nat.eq_zero_or_pos d with z | z
        · subst z
          exact absurd (by rw [hc.1]; rfl) hx
        · exact z
      obtain ⟨σ1, k1, k2, k3, act⟩ := hI1.act hC
      have k22 : σ1.1 2 = σ.1 2 := k2.trans q2
      obtain ⟨s2, a1, a2, a3, a4⟩ := sx_chooseAnew (s := σ1) (by rw [k22]; exact h.1.2) (by rw [k22]; exact nx0) hn n6 hd hc (fun e he => by rw [k22]; exact hv e he)
      rw [k22] at a1 a2
      rw [if_neg hx] at a1
      have s46 : s2.1 46 = σ.1 46 := (a3 46 (by decide)).trans ((k3 46 (by decide)).trans (fr 46 (by decide)).1)
      obtain ⟨τ', b1, b2, b3, b4, b5⟩ := ref s2 s46
      have sc3 : Sc s2 τ' := ⟨fun p hp => b3 p (fun z => hp (by rw [z]; decide)), fun j _ _ _ => by rw [b3 45 (by decide)], fun p _ => by rw [b4]⟩
      have hok := nx_ok h.1.2 hn n6 hc
      have hW : WOK (s2.1 2) := by
        rw [a2]
        refine h.1.2.chosen hd0 hd (fun l hl => hok.2 d (by omega) l ?_)
        show (if d < N (σ.1 2) 0 then _ else _) = _
        rw [if_pos hd]; exact hl
      obtain ⟨τ1, f1, f46, fin⟩ := act s2 (fun p hp => ⟨a3 p (fun z => hp (by revert z; simp [scX]; omega)), a4 p (fun z => hp (by revert z; simp [scX]; omega))⟩) hW τ' sc3
      have t46 : τ1.1 46 = σ.1 46 := f46.trans (fr 46 (by decide)).1
      obtain ⟨τ'', c1, c2, c3, c4, c5⟩ := ref τ1 t46
      refine ⟨1, s2, gi τ'' 46 (121 + d) (val (nx (σ.1 2) w (N (σ.1 2) 0) d)), ?_, ?_, ?_⟩
      · rw [x1 σ nx0, bd_some, if_neg one_ne, e1, bd_some, e2, bd_some, e3, bd_some, if_neg hx, k1, bd_some, a1, bd_some]
      · show mv_bind (fX11_isDomain (nI d) s2) _ = _
        rw [m1 s2 (by rw [s46]; exact nm), bd_some, if_neg one_ne, b1, bd_some, b5, bd_some]
        unfold fX11_choosesAnew
        simp (disch := omega) only [li_121, adI, ixT, clI, if_true, b2, hch, hx, if_false, f1, bd_some, c1, c5, c2, mv_let]
      · refine fin _ (fun p hp hp5 => ⟨?_, ?_⟩) (fun j _ _ _ => ?_) ?_ ?_
        · rw [rd_gi, if_neg (fun z : p = 46 => hp (by rw [z]; decide))]
          exact c3 p (fun z => hp (by rw [z]; decide))
        · rw [rd_gi2, c4]
        · rw [rd_gi, if_neg (by decide), c3 45 (by decide)]
        · rw [rd_gi2, c4]
        · rw [a2, rd_gi, if_pos rfl, c2]
          exact RW_updA h.1.1 (by omega) (by omega) _
  · refine pv_same hC h (-1) ?_ ?_
    · rw [x1 σ nx0, bd_some, if_pos rfl]
    · show mv_bind (fX11_isDomain p1 σ) _ = _
      rw [m1 σ nm, bd_some, if_pos rfl]
end ACT
