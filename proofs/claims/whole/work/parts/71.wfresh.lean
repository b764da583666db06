/-! PURE PART: the class's ways: all of them, with their places -/
def PL (L : List (List Nat)) (s : mx_G) : Prop := ∀ i l, L[i]? = some l → ∃ k, k < cn (hd0 l) L ∧ s.1 24 (hd0 l * 65 + k) = nI i ∧ s.1 22 i = nI k
theorem RD.inj {c : Nat → Int32} {L : List (List Nat)} {d d' : Nat} {ρ ρ' : Nat → Nat} {s : mx_G} (h : RD c L d ρ s) (h' : RD c L d' ρ' s) (hρ : d = d' → ρ = ρ') {k k' : Nat} (hk : k < cn d L) (hk' : k' < cn d' L) (e : ρ k = ρ' k') : d = d' ∧ k = k' := by
  obtain ⟨-, l, a2, a3⟩ := h.2.1 k hk
  obtain ⟨-, l', b2, b3⟩ := h'.2.1 k' hk'
  have hl : l = l' := by
    rw [e, b2] at a2
    injection a2 with a2
    exact a2.symm
  have hd : d = d' := by rw [← a3, hl, b3]
  refine ⟨hd, ?_⟩
  have hρ := hρ hd
  subst hρ hd hl
  rcases Nat.lt_trichotomy k k' with z | z | z
  · have := h.2.2.1 k k' l l z hk' a2 b2; omega
  · exact z
  · have := h.2.2.1 k' k l l z hk b2 a2; omega
theorem sx_places10 {c : Nat → Int32} {L : List (List Nat)} (hL : L.length ≤ 326) (hcn : ∀ d, d < 6 → cn d L ≤ 65) (ρ : Nat → Nat → Nat) {s : mx_G} (hρ : ∀ d, d < 6 → RD c L d (ρ d) s) {d : Nat} (hd : d < 6) (K : mx_G → Option (Unit × mx_G)) : ∀ (m k f : Nat) (g : Nat → Int32), k + m = cn d L → (∀ d' k', d' < 6 → k' < cn d' L → d' < d ∨ (d' = d ∧ k' < k) → g (ρ d' k') = nI k') → ∃ g', lX8_notePlaces_10 (nI d) K (m + 1 + f) (nI k) (gs s 22 g) = K (gs s 22 g') ∧ ∀ d' k', d' < 6 → k' < cn d' L → d' < d + 1 → g' (ρ d' k') = nI k' := by
  have h65 := hcn d hd
  have h23 : ∀ g, (gs s 22 g).1 23 d = nI (cn d L) := fun g => by rw [gs_rdn _ (by decide)]; exact (hρ d hd).1
  intro m
  induction m with
  | zero =>
    intro k f g h hg
    refine ⟨g, ?_, fun d' k' a b e => hg d' k' a b ?_⟩
    · rw [show 0 + 1 + f = f + 1 by omega, lX8_notePlaces_10, ixT hd (by omega), if_pos rfl, clI (by omega), h23, if_pos (nI_le (by omega) (by omega))]
    · by_cases z : d' = d
      · subst z; exact Or.inr ⟨rfl, by omega⟩
      · exact Or.inl (by omega)
  | succ m ih =>
    intro k f g h hg
    have e1 : nI k + 1 = nI (k + 1) := by rw [li_1, adI]
    obtain ⟨a1, l, a2, a3⟩ := (hρ d hd).2.1 k (by omega)
    have hlt := get_lt a2
    have e2 : fX8_rankedAt (nI d) (nI k) (gs s 22 g) = some (nI (ρ d k), gs s 22 g) := by
      unfold fX8_rankedAt
      rw [li_65, muI, adI, ixT (by omega) (by omega), if_pos rfl, clI (by omega), gs_rdn _ (by decide), a1]
    obtain ⟨g', e, hg'⟩ := ih (k + 1) f (upd g (ρ d k) (nI k)) (by omega) (fun d' k' b1 b2 b3 => by
      rw [upd_rd]
      by_cases z : ρ d' k' = ρ d k
      · obtain ⟨y1, y2⟩ := (hρ d' b1).inj (hρ d hd) (fun q => by rw [q]) b2 (by omega) z
        rw [if_pos z, y2]
      · rw [if_neg z]
        refine hg d' k' b1 b2 ?_
        rcases b3 with b3 | ⟨b3, b4⟩
        · exact Or.inl b3
        · by_cases y : k' = k
          · exact absurd (by rw [b3, y]) z
          · exact Or.inr ⟨b3, by omega⟩)
    refine ⟨g', ?_, hg'⟩
    rw [show m + 1 + 1 + f = (m + 1 + f) + 1 by omega, lX8_notePlaces_10, ixT hd (by omega), if_pos rfl, clI (by omega), h23, if_neg (nI_ge (by omega) (by omega)), e2, bd_some, ixT (by omega) (by omega), if_pos rfl, clI (by omega), mv_let, gi_of, e1]
    exact e
theorem sx_places2 {c : Nat → Int32} {L : List (List Nat)} (hL : L.length ≤ 326) (hcn : ∀ d, d < 6 → cn d L ≤ 65) (ρ : Nat → Nat → Nat) {s : mx_G} (hρ : ∀ d, d < 6 → RD c L d (ρ d) s) : ∀ (m d f : Nat) (g : Nat → Int32), d + m = 6 → (∀ d' k', d' < 6 → k' < cn d' L → d' < d → g (ρ d' k') = nI k') → ∃ g', lX8_notePlaces_2 (m + 1 + f) (nI d) (gs s 22 g) = some ((), gs s 22 g') ∧ ∀ d' k', d' < 6 → k' < cn d' L → g' (ρ d' k') = nI k' := by
  intro m
  induction m with
  | zero =>
    intro d f g h hg
    refine ⟨g, ?_, fun d' k' a b => hg d' k' a b (by omega)⟩
    rw [show 0 + 1 + f = f + 1 by omega, lX8_notePlaces_2, if_pos (by rw [li_6, leI (by omega) (by omega)]; omega)]
  | succ m ih =>
    intro d f g h hg
    have e1 : nI d + 1 = nI (d + 1) := by rw [li_1, adI]
    have h65 := hcn d (by omega)
    obtain ⟨f2, hf2⟩ := FU_lt (n := cn d L) (by omega)
    obtain ⟨g1, a1, a2⟩ := sx_places10 hL hcn ρ hρ (d := d) (by omega) (fun s4 => lX8_notePlaces_2 (m + 1 + f) (nI d + 1) s4) (cn d L) 0 f2 g (by omega) (fun d' k' b1 b2 b3 => hg d' k' b1 b2 (by omega))
    rw [← hf2] at a1
    obtain ⟨g2, b1, b2⟩ := ih (d + 1) f g1 (by omega) a2
    refine ⟨g2, ?_, b2⟩
    rw [show m + 1 + 1 + f = (m + 1 + f) + 1 by omega, lX8_notePlaces_2, if_neg (by rw [li_6, leI (by omega) (by omega)]; omega)]
    refine Eq.trans a1 ?_
    show lX8_notePlaces_2 (m + 1 + f) (nI d + 1) (gs s 22 g1) = _
    rw [e1]
    exact b1
theorem sx_notePlaces {c : Nat → Int32} {n : Nat} (hn : 0 < n) (h6 : n ≤ 6) {L : List (List Nat)} {s : mx_G} (hr : WR c L s) (hL : L.length ≤ 326) (hcn : ∀ d, d < 6 → cn d L ≤ 65) (hway : ∀ l ∈ L, Way n l) : ∃ s', fX8_notePlaces s = some ((), s') ∧ WR c L s' ∧ PL L s' ∧ s'.1 2 = s.1 2 ∧ s'.1 15 1 = s.1 15 1 := by
  obtain ⟨ρ, hρ⟩ : ∃ ρ : Nat → Nat → Nat, ∀ d, d < 6 → RD c L d (ρ d) s := by
    have h : ∀ d : Nat, ∃ r : Nat → Nat, d < 6 → RD c L d r s := by
      intro d
      by_cases hd : d < 6
      · obtain ⟨r, hr⟩ := hr.2.2.2 d hd
        exact ⟨r, fun _ => hr⟩
      · exact ⟨fun _ => 0, fun z => absurd z hd⟩
    exact Classical.axiomOfChoice h
  obtain ⟨f, hf⟩ := FU_lt (n := 6) (by omega)
  obtain ⟨g, e, hg⟩ := sx_places2 hL hcn ρ hρ 6 0 f (s.1 22) (by omega) (fun d' k' _ _ z => absurd z (by omega))
  rw [gs_self, ← hf] at e
  have r : ∀ p, p ≠ 22 → (gs s 22 g).1 p = s.1 p := fun p hp => gs_rdn _ hp _
  refine ⟨gs s 22 g, e, ?_, ?_, r 2 (by decide), by rw [r 15 (by decide)]⟩
  · obtain ⟨h1, h2, h3, h4⟩ := hr
    unfold WR RD
    rw [r 15 (by decide), r 17 (by decide), r 19 (by decide), r 20 (by decide), r 21 (by decide), r 18 (by decide), r 23 (by decide), r 24 (by decide)]
    exact ⟨h1, h2, h3, h4⟩
  · intro i l hl
    have hd : hd0 l < 6 := by have := hd0_lt hn (hway l (List.mem_of_getElem? hl)); omega
    obtain ⟨k, a1, a2⟩ := (hρ (hd0 l) hd).2.2.2 i l hl rfl
    refine ⟨k, a1, ?_, ?_⟩
    · rw [r 24 (by decide), ((hρ (hd0 l) hd).2.1 k a1).1, a2]
    · rw [gs_rd, ← a2]; exact hg _ k hd a1
theorem sx_fr63 {c : Nat → Int32} (ho : WOK c) {n : Nat} (hn : 0 < n) (h6 : n ≤ 6) (hc0 : c 0 = nI n) : ∀ (m k f : Nat) (s : mx_G), k + m = 326 → s.1 2 = c → WR c (qs c n k) s → ∃ s', lX8_freshen_63 (m + 1 + f) (nI k) s = some ((), s') ∧ WR c (WL c n) s' ∧ PL (WL c n) s' ∧ s'.1 2 = c ∧ s'.1 15 1 = s.1 15 1 := by
  have fin : ∀ (k : Nat) (s : mx_G), (qs c n k).length ≤ k → s.1 2 = c → WR c (qs c n k) s → ∃ s', fX8_notePlaces s = some ((), s') ∧ WR c (WL c n) s' ∧ PL (WL c n) s' ∧ s'.1 2 = c ∧ s'.1 15 1 = s.1 15 1 := by
    intro k s hk hs hr
    rw [WL_end ho hn h6 hk] at hr
    have hg := WL_gd ho hn h6
    have hl := L_len hn h6 hg.1 hg.2.2.1
    obtain ⟨s', a1, a2, a3, a4, a5⟩ := sx_notePlaces hn h6 hr hl.1 hl.2 hg.2.2.1
    exact ⟨s', a1, a2, a3, a4.trans hs, a5⟩
  intro m
  induction m with
  | zero =>
    intro k f s h hs hr
    have hb := (qs_len ho hn h6 k).1
    obtain ⟨s', a1, a2⟩ := fin k s (by omega) hs hr
    rw [show 0 + 1 + f = f + 1 by omega, lX8_freshen_63, hr.1, if_pos (nI_le (by omega) (by omega)), a1, bd_some]
    exact ⟨s', rfl, a2⟩
  | succ m ih =>
    intro k f s h hs hr
    have hb := (qs_len ho hn h6 k).1
    rw [show m + 1 + 1 + f = (m + 1 + f) + 1 by omega, lX8_freshen_63, hr.1]
    by_cases z : (qs c n k).length ≤ k
    · obtain ⟨s', a1, a2⟩ := fin k s z hs hr
      rw [if_pos (nI_le z (by omega)), a1, bd_some]
      exact ⟨s', rfl, a2⟩
    · rw [if_neg (nI_ge (by omega) (by omega)), if_neg (by rw [show (326 : Int32) = nI 326 from rfl, leI (by omega) (by omega)]; omega)]
      have hl : (qs c n k)[k]? = some ((qs c n k)[k]'(by omega)) := List.getElem?_eq_getElem (by omega)
      generalize (qs c n k)[k]'(by omega) = l at hl
      have e1 : nI k + 1 = nI (k + 1) := by rw [li_1, adI]
      obtain ⟨s1, a1, a2, a3, a4⟩ := sx_extend ho hn h6 hc0 (qs_gd ho hn h6 k) hl hs hr
      have hq : qs c n (k + 1) = qs c n k ++ ex c l n := by rw [qs, hl]
      rw [a1, bd_some, e1]
      obtain ⟨s2, b1, b2, b3, b4, b5⟩ := ih (k + 1) f s1 (by omega) a3 (by rw [hq]; exact a2)
      exact ⟨s2, b1, b2, b3, b4, b5.trans a4⟩
theorem sx_isBasis_l (s : mx_G) : ∀ (m k f : Nat), k + m = 121 → (lX8_isBasis_2 (m + 1 + f) (nI k) s = some (1, s) ∧ ∀ j, k ≤ j → j < 121 → s.1 16 j = s.1 2 j) ∨ lX8_isBasis_2 (m + 1 + f) (nI k) s = some (0, s) := by
  intro m
  induction m with
  | zero =>
    intro k f h
    rw [show 0 + 1 + f = f + 1 by omega, lX8_isBasis_2, if_pos (by rw [li_121, leI (by omega) (by omega)]; omega)]
    exact Or.inl ⟨rfl, fun j a b => absurd b (by omega)⟩
  | succ m ih =>
    intro k f h
    have e1 : nI k + 1 = nI (k + 1) := by rw [li_1, adI]
    rw [show m + 1 + 1 + f = (m + 1 + f) + 1 by omega, lX8_isBasis_2, if_neg (by rw [li_121, leI (by omega) (by omega)]; omega), ixT (by omega) (by omega), if_pos rfl, ixT (by omega) (by omega), if_pos rfl, clI (by omega), e1]
    by_cases z : s.1 16 k = s.1 2 k
    · rw [if_pos z]
      rcases ih (k + 1) f (by omega) with ⟨a, b⟩ | a
      · refine Or.inl ⟨a, fun j c d => ?_⟩
        by_cases y : j = k
        · rw [y]; exact z
        · exact b j (by omega) d
      · exact Or.inr a
    · rw [if_neg z]
      exact Or.inr rfl
theorem sx_isBasis (s : mx_G) : (fX8_isBasis s = some (1, s) ∧ ∀ j, j < 121 → s.1 16 j = s.1 2 j) ∨ fX8_isBasis s = some (0, s) := by
  obtain ⟨f, hf⟩ := FU_lt (n := 121) (by omega)
  unfold fX8_isBasis
  rw [hf]
  rcases sx_isBasis_l s 121 0 f (by omega) with ⟨a, b⟩ | a
  · exact Or.inl ⟨a, fun j hj => b j (by omega) hj⟩
  · exact Or.inr a
def WC (c : Nat → Int32) (n : Nat) (s : mx_G) : Prop := WR c (WL c n) s ∧ PL (WL c n) s
theorem sx_freshNew {s : mx_G} (ho : WOK (s.1 2)) {n : Nat} (hn : 0 < n) (h6 : n ≤ 6) (hc0 : s.1 2 0 = nI n) {v : Nat} (hv : v < 1000000) (h15 : s.1 15 1 = nI v) (h : s.1 15 1 ≤ 0 ∨ fX8_isBasis s = some (0, s)) : ∃ s', fX8_freshen s = some ((), s') ∧ WC (s.1 2) n s' ∧ (∀ j, j < 121 → s'.1 16 j = s.1 2 j) ∧ s'.1 15 1 = nI (v + 1) := by
  obtain ⟨f, hf⟩ := FU_lt (n := 326) (by omega)
  have hcp : cp 0 0 121 128 121 = true := by decide
  have hz : Int32.toNatClampNeg 0 = 0 := by decide
  have hz2 : Int32.toNatClampNeg 121 = 121 := by decide
  have e0 : fX8_freshen s = (mv_bind (fJA_fillI 0 (gi (gi (gs s 16 (va_cpy (s.1 2) (s.1 16) 0 0 121)) 15 1 (nI (v + 1))) 15 2 0)) fun _ s4 => mv_bind (fX8_add 0 (-1) 0 s4) fun _ s5 => lX8_freshen_63 FU 0 s5) := by
    have r15 : (gs s 16 (va_cpy (s.1 2) (s.1 16) 0 0 121)).1 15 1 + 1 = nI (v + 1) := by rw [gs_rdn _ (by decide), h15, li_1, adI]
    unfold fX8_freshen
    simp only [mv_let]
    rw [if_pos hcp, hz, hz2, r15]
    by_cases q : s.1 15 1 ≤ 0
    · rw [if_pos q]
    · rw [if_neg q]
      rcases h with h | h
      · exact absurd h q
      · rw [h, bd_some, if_pos rfl, if_pos hcp, r15]
  rw [sx_fill23, bd_some] at e0
  generalize hs4 : gs (gi (gi (gs s 16 (va_cpy (s.1 2) (s.1 16) 0 0 121)) 15 1 (nI (v + 1))) 15 2 0) 23 (fun t => if 0 ≤ t ∧ t < 6 then 0 else (gi (gi (gs s 16 (va_cpy (s.1 2) (s.1 16) 0 0 121)) 15 1 (nI (v + 1))) 15 2 0).1 23 t) = s4 at e0
  obtain ⟨s5, a1, a2, a3⟩ := sx_root (s.1 2) (s := s4) (by
    rw [← hs4]
    simp only [rd_gs, rd_gi, Nat.reduceEqDiff, if_false, if_true, upd_rd]) (fun t ht => by
    rw [← hs4, gs_rd, if_pos (by omega)])
  have fa := fr_X8_add _ _ _ _ _ _ a1
  have w4 : s4.1 2 = s.1 2 := by rw [← hs4]; simp only [rd_gs, rd_gi, Nat.reduceEqDiff, if_false]
  have w16 : ∀ j, j < 121 → s4.1 16 j = s.1 2 j := fun j hj => by
    rw [← hs4]
    simp only [rd_gs, rd_gi, Nat.reduceEqDiff, if_false, if_true, cpy_rd]
    rw [if_pos (by omega)]
    exact congrArg _ (by omega)
  have w15 : s4.1 15 1 = nI (v + 1) := by
    rw [← hs4]
    simp only [rd_gs, rd_gi, Nat.reduceEqDiff, if_false, if_true, upd_rd]
  obtain ⟨s6, b1, b2, b3, b4, b5⟩ := sx_fr63 ho hn h6 hc0 326 0 f s5 (by omega) (by rw [(fa 2 (by decide)).1]; exact w4) a2
  rw [← hf] at b1
  have e1 : fX8_freshen s = some ((), s6) := by
    rw [e0, a1, bd_some]
    exact b1
  refine ⟨s6, e1, ⟨b2, b3⟩, fun j hj => ?_, by rw [b5, a3, w15]⟩
  have fb : ∀ (m k : Nat) (s s' : mx_G), lX8_freshen_63 m (nI k) s = some ((), s') → s'.1 16 = s.1 16 := by
    intro m
    induction m with
    | zero => intro k s s' h; cases h
    | succ m ih =>
      intro k s s' h
      rw [lX8_freshen_63] at h
      have hnp : ∀ (r : mx_G), (mv_bind (fX8_notePlaces s) fun _ s6 => some ((), s6)) = some ((), r) → r.1 16 = s.1 16 := by
        intro r hr
        cases hp : fX8_notePlaces s with
        | none => rw [hp] at hr; cases hr
        | some q =>
          obtain ⟨u, q⟩ := q
          rw [hp, bd_some] at hr
          injection hr with hr
          have this : q = r := congrArg Prod.snd hr
          rw [← this]
          exact (fr_X8_notePlaces s _ _ hp 16 (by decide)).1
      by_cases c1 : s.1 15 2 ≤ nI k
      · rw [if_pos c1] at h; exact hnp s' h
      · rw [if_neg c1] at h
        by_cases c2 : (326 : Int32) ≤ nI k
        · rw [if_pos c2] at h; exact hnp s' h
        · rw [if_neg c2] at h
          cases hp : fX8_extend (nI k) s with
          | none => rw [hp] at h; cases h
          | some q =>
            obtain ⟨u, q⟩ := q
            rw [hp, bd_some, li_1, adI] at h
            rw [ih (k + 1) q s' h]
            exact (fr_X8_extend _ s _ _ hp 16 (by decide)).1
  rw [fb FU 0 s5 s6 b1, (fa 16 (by decide)).1]
  exact w16 j hj
