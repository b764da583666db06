/-! PURE PART: own -/
def wcs : List Nat := [15, 16, 17, 18, 19, 20, 21, 22, 23, 24]
theorem sx_ways {k : Nat} {σ : mx_G} (hk : k < 512) (h : Inv IC k σ) : ∃ s', fX8_freshen σ = some ((), s') ∧ WC (σ.1 2) (N (σ.1 2) 0) s' ∧ Inv IC (k + 1) s' ∧ (∃ v, 0 < v ∧ v ≤ k + 1 ∧ s'.1 15 1 = nI v) ∧ Ag (s'.1 16) (σ.1 2) ∧ ∀ p : Nat, p ∉ wcs → s'.1 p = σ.1 p ∧ s'.2 p = σ.2 p := by
  obtain ⟨n2, n6, nx0, nm⟩ := h.n
  obtain ⟨v, vr, vs, h1, h2, h3, h4, h5, h6, h7⟩ := h.2.2.2.2.2
  have new : (σ.1 15 1 ≤ 0 ∨ fX8_isBasis σ = some (0, σ)) → ∃ s', fX8_freshen σ = some ((), s') ∧ WC (σ.1 2) (N (σ.1 2) 0) s' ∧ Inv IC (k + 1) s' ∧ (∃ v, 0 < v ∧ v ≤ k + 1 ∧ s'.1 15 1 = nI v) ∧ Ag (s'.1 16) (σ.1 2) ∧ ∀ p : Nat, p ∉ wcs → s'.1 p = σ.1 p ∧ s'.2 p = σ.2 p := by
    intro hh
    obtain ⟨s', a1, a2, a3, a4⟩ := sx_freshNew h.1.2 (by omega) n6 nx0 (v := v) (by omega) h4 hh
    have fr := fr_X8_freshen σ _ _ a1
    refine ⟨s', a1, a2, ⟨?_, ?_, ?_, ?_, ?_, ?_⟩, ⟨v + 1, by omega, by omega, a4⟩, a3, fr⟩
    · exact h.1.of (fr 2 (by decide)).1 (fr 46 (by decide)).1
    · exact h.2.1.of (fr 3 (by decide)).1 (fr 4 (by decide)).1 (fr 47 (by decide)).1 (by rw [(fr 45 (by decide)).1])
    · exact h.2.2.1.of (fr 0 (by decide)).1 (fr 6 (by decide)).1 (fr 7 (by decide)).1 (fr 8 (by decide)).1 (fr 48 (by decide)).1 (fr 49 (by decide)).1 (by rw [(fr 45 (by decide)).1])
    · exact h.2.2.2.1.of (by rw [(fr 36 (by decide)).1]) (fr 37 (by decide)).1 (fr 50 (by decide)).1 (by rw [(fr 45 (by decide)).1])
    · exact h.2.2.2.2.1.of (fr 41 (by decide)).1 (fr 42 (by decide)).1 (fr 51 (by decide)).1 (fr 52 (by decide)).1 (fr 43 (by decide)).2 (fr 53 (by decide)).2
    · exact ⟨v + 1, vr, vs, by omega, by omega, by omega, a4, by rw [(fr 25 (by decide)).1]; exact h5, by rw [(fr 31 (by decide)).1]; exact h6, fun _ => ⟨σ.1 2, h.1.2, a3, a2, fun z => absurd z (by omega), fun z => absurd z (by omega)⟩⟩
  by_cases hv : v = 0
  · exact new (Or.inl (by rw [h4, hv]; decide))
  · rcases sx_isBasis σ with ⟨b1, b2⟩ | b
    · obtain ⟨c, c1, c2, c3, -, -⟩ := h7 (by omega)
      have hag : Ag c (σ.1 2) := fun j hj => by rw [← c2 j hj, b2 j hj]
      have hN : N c 0 = N (σ.1 2) 0 := ag_N hag (by omega)
      rw [hN] at c3
      refine ⟨σ, ?_, WC_ag hag c1 (by omega) n6 c3, h.sc IC_ok (Sc.rf σ), ⟨v, by omega, by omega, h4⟩, b2, fun _ _ => ⟨rfl, rfl⟩⟩
      unfold fX8_freshen
      simp only [mv_let]
      rw [h4, if_neg (by rw [li_0, leI (by omega) (by omega)]; omega), b1, bd_some, if_neg one_ne]
    · exact new (Or.inr b)
theorem MR_sc {t t' : mx_G} (h0 : t'.2 = t.2) (h1 : ∀ j, j ≠ 13 → t'.1 45 j = t.1 45 j) (h2 : ∀ p : Nat, p ∉ [45, 54, 55] → t'.1 p = t.1 p ∧ t'.2 p = t.2 p) : Sc t t' :=
  ⟨fun p hp => (h2 p (fun z => hp (by revert z; simp [scr]; omega))).1, fun k a b c => h1 k a, fun p hp => by rw [h0]⟩
theorem cn_take (d : Nat) (L : List (List Nat)) {i : Nat} {l : List Nat} (h : L[i]? = some l) : cn d (L.take (i + 1)) = if hd0 l = d then cn d (L.take i) + 1 else cn d (L.take i) := by
  rw [List.take_succ, h]
  exact cn_snoc d (L.take i) l
theorem cn_le (d : Nat) (L : List (List Nat)) : cn d L ≤ L.length := List.length_filter_le _ _
theorem sm_permittedTo {L : List (List Nat)} {t : mx_G} (hm : MR L t) (hL : L.length ≤ 326) {d : Nat} (hd : d < 6) (h10 : ∀ l ∈ L, hd0 l < 6) : fX11_permittedTo (nI d) t = some (nI (cn d L), t) := by
  have loop : ∀ (m i f : Nat), i + m = L.length → lX11_permittedTo_4 (nI d) (m + 1 + f) (nI (cn d (L.take i))) (nI i) t = some (nI (cn d L), t) := by
    intro m
    induction m with
    | zero =>
      intro i f h
      rw [show 0 + 1 + f = f + 1 by omega, lX11_permittedTo_4, hm.1, if_pos (nI_le (by omega) (by omega)), List.take_of_length_le (by omega)]
    | succ m ih =>
      intro i f h
      have hi := ih (i + 1) f (by omega)
      have hl : L[i]? = some (L[i]'(by omega)) := List.getElem?_eq_getElem (by omega)
      generalize L[i]'(by omega) = l at hl
      have e1 : nI i + 1 = nI (i + 1) := by rw [li_1, adI]
      have h6 := h10 l (List.mem_of_getElem? hl)
      have hc := cn_le d (L.take i)
      rw [List.length_take] at hc
      rw [cn_take d L hl] at hi
      rw [show m + 1 + 1 + f = (m + 1 + f) + 1 by omega, lX11_permittedTo_4, hm.1, if_neg (nI_ge (by omega) (by omega)), ixT (by omega) (by omega), if_pos rfl, clI (by omega), (hm.2 i l hl).2, e1]
      simp only [mv_let]
      by_cases z : hd0 l = d
      · rw [if_pos z] at hi
        rw [if_pos (by rw [z]), li_1, adI]
        exact hi
      · rw [if_neg z] at hi
        rw [if_neg (by rw [eqI (by omega) (by omega)]; exact z), li_0, adI]
        exact hi
  obtain ⟨f, hf⟩ := FU_lt (n := L.length) (by omega)
  have e := loop L.length 0 f (by omega)
  rw [← hf] at e
  unfold fX11_permittedTo
  exact e
theorem WL_ok {c : Nat → Int32} (ho : WOK c) : (WL c (N c 0)).length ≤ 326 ∧ (∀ d, d < 6 → cn d (WL c (N c 0)) ≤ 65) ∧ (∀ l ∈ WL c (N c 0), Way (N c 0) l) ∧ ∀ l ∈ WL c (N c 0), hd0 l < 6 := by
  have hn := ho.1
  have hg := WL_gd ho (n := N c 0) (by omega) hn.2
  have hl := L_len (by omega) hn.2 hg.1 hg.2.2.1
  exact ⟨hl.1, hl.2, hg.2.2.1, fun l hl => by have := hd0_lt (by omega) (hg.2.2.1 l hl); omega⟩
theorem ok_own : pv_own (Inv IC) := by
  intro k σ p1 p2 hk h
  obtain ⟨n2, n6, nx0, nm⟩ := h.n
  obtain ⟨w, hc, hv⟩ := chosen_ways h.1.2
  have hn : 0 < N (σ.1 2) 0 := by omega
  have hW := WL_ok h.1.2
  unfold fX10_own fX11_own
  rcases dom_cases _ n2 n6 p1 with ⟨d, hd, rfl, x1, m1⟩ | ⟨x1, m1⟩
  · have d6 : d < 6 := by omega
    have a1 := h.1.1.at (k := 109 + d) (i := 1 + d) (by omega) (by omega)
    have a2 := h.1.1.at (k := 115 + d) (i := 7 + d) (by omega) (by omega)
    have a3 := h.1.1.at (k := 121 + d) (i := 121 + d) (by omega) (by omega)
    by_cases z0 : p2 = 0
    · refine pv_same IC_ok h (σ.1 2 (1 + d)) ?_ ?_
      · unfold fX9_mannerOf
        rw [x1 σ nx0, bd_some, if_neg one_ne, if_pos z0, li_1, adI, ixT (by omega) (by omega), if_pos rfl, clI (by omega), bd_some]
      · show mv_bind (fX11_isDomain (nI d) σ) _ = _
        rw [m1 σ nm, bd_some, if_neg one_ne, if_pos z0, li_109, adI, ixT (by omega) (by omega), if_pos rfl, clI (by omega), a1]
    · by_cases z1 : p2 = 1
      · refine pv_same IC_ok h (σ.1 2 (7 + d)) ?_ ?_
        · unfold fX9_barsOf
          rw [x1 σ nx0, bd_some, if_neg one_ne, if_neg z0, if_pos z1, li_7, adI, ixT (by omega) (by omega), if_pos rfl, clI (by omega), bd_some]
        · show mv_bind (fX11_isDomain (nI d) σ) _ = _
          rw [m1 σ nm, bd_some, if_neg one_ne, if_neg z0, if_pos z1, li_115, adI, ixT (by omega) (by omega), if_pos rfl, clI (by omega), a2]
      · by_cases z2 : p2 = 2
        · obtain ⟨s1, b1, b2, b3, -, -, b6⟩ := sx_ways hk h
          have t46 : s1.1 46 = σ.1 46 := (b6 46 (by decide)).1
          obtain ⟨t1, c1, c2, c5, c3, c4⟩ := sm_laysWays (t := s1) h.1.2 hn n6 (by rw [t46]; exact h.1.1) (by rw [t46]; exact nm)
          obtain ⟨ρ, hρ⟩ := b2.1.2.2.2 d d6
          refine ⟨nI (cn d (WL (σ.1 2) (N (σ.1 2) 0))), s1, t1, ?_, ?_, b3.sck IC_k (MR_sc c5 c3 c4)⟩
          · unfold fX8_countOf
            rw [x1 σ nx0, bd_some, if_neg one_ne, if_neg z0, if_neg z1, if_pos z2, b1, bd_some, ixT d6 (by omega), if_pos rfl, clI (by omega), hρ.1, bd_some]
          · show mv_bind (fX11_isDomain (nI d) s1) _ = _
            rw [m1 s1 (by rw [t46]; exact nm), bd_some, if_neg one_ne, if_neg z0, if_neg z1, if_pos z2, c1, bd_some, sm_permittedTo c2 hW.1 d6 hW.2.2.2, bd_some]
        · by_cases z3 : p2 = 3
          · refine pv_same IC_ok h (σ.1 2 (121 + d)) ?_ ?_
            · unfold fX9_chosenBy
              rw [x1 σ nx0, bd_some, if_neg one_ne, if_neg z0, if_neg z1, if_neg z2, if_pos z3, li_121, adI, ixT (by omega) (by omega), if_pos rfl, clI (by omega), bd_some]
            · show mv_bind (fX11_isDomain (nI d) σ) _ = _
              rw [m1 σ nm, bd_some, if_neg one_ne, if_neg z0, if_neg z1, if_neg z2, if_pos z3, li_121, adI, ixT (by omega) (by omega), if_pos rfl, clI (by omega), a3]
          · by_cases z4 : p2 = 4
            · obtain ⟨s1, e1, hl, fr⟩ := sx_load hn n6 (s := σ) (w := w) (fun e he => ⟨hv e he, fun l hl => (hc.2 e he l hl).1⟩)
              have q2 : s1.1 2 = σ.1 2 := (fr 2 (by decide)).1
              have q46 : s1.1 46 = σ.1 46 := (fr 46 (by decide)).1
              have e2 := sx_bestN (s := s1) (by rw [q2]; exact h.1.2) (by rw [q2]; exact nx0) hn n6 hd hc hl
              rw [q2] at e2
              have sc1 : Sc σ s1 := ⟨fun p hp => (fr p (fun z => hp (by revert z; simp [scr]; omega))).1, fun j _ _ _ => by rw [(fr 45 (by decide)).1], fun p hp => (fr p (fun z => hp (by revert z; simp [scr]; omega))).2⟩
              have th := sm_thinks s1
              generalize hτ : gs s1 56 (va_cpy (s1.1 46) (s1.1 56) 121 0 6) = τ at th
              have u46 : τ.1 46 = σ.1 46 := by rw [← hτ, gs_rdn _ (by decide)]; exact q46
              have e3 := sm_would (s := τ) (c := σ.1 2) (by rw [u46]; exact h.1.1) h.1.2 (by rw [u46]; exact nm) hn n6 hd hc (fun e he => by
                rw [← hτ, thinks_rd s1 he, q46, h.1.1.at (k := 121 + e) (i := 121 + e) (by omega) (by omega)]; exact hv e he)
              have sc2 : Sc s1 τ := by
                refine ⟨fun p hp => ?_, fun j _ _ _ => ?_, fun p hp => ?_⟩
                · rw [← hτ, gs_rdn _ (fun z => hp (by rw [z]; decide))]
                · rw [← hτ, gs_rdn _ (by decide)]
                · rw [← hτ]; rfl
              refine ⟨val (nx (σ.1 2) w (N (σ.1 2) 0) d), s1, τ, ?_, ?_, h.sc IC_ok (sc1.trans sc2)⟩
              · rw [x1 σ nx0, bd_some, if_neg one_ne, if_neg z0, if_neg z1, if_neg z2, if_neg z3, if_pos z4, e1, bd_some, e2, bd_some]
              · show mv_bind (fX11_isDomain (nI d) s1) _ = _
                rw [m1 s1 (by rw [q46]; exact nm), bd_some, if_neg one_ne, if_neg z0, if_neg z1, if_neg z2, if_neg z3, if_pos z4, th, bd_some, e3, bd_some]
            · refine pv_same IC_ok h (-1) ?_ ?_
              · rw [x1 σ nx0, bd_some, if_neg one_ne, if_neg z0, if_neg z1, if_neg z2, if_neg z3, if_neg z4]
              · show mv_bind (fX11_isDomain (nI d) σ) _ = _
                rw [m1 σ nm, bd_some, if_neg one_ne, if_neg z0, if_neg z1, if_neg z2, if_neg z3, if_neg z4]
  · refine pv_same IC_ok h (-1) ?_ ?_
    · rw [x1 σ nx0, bd_some, if_pos rfl]
    · show mv_bind (fX11_isDomain p1 σ) _ = _
      rw [m1 σ nm, bd_some, if_pos rfl]
