/-! PURE PART: fail: the reference's masks -/
def adj (c : Nat → Int32) : List Nat → Prop
  | d :: e :: r => lkb c d e = true ∧ adj c (e :: r)
  | _ => True
def mkr (c : Nat → Int32) : List Nat → Nat
  | d :: e :: r => mkr c (e :: r) ||| 2 ^ ixp c (pr2 d e)
  | _ => 0
theorem adj_WL {c : Nat → Int32} (ho : WOK c) {n : Nat} (hn : 0 < n) (h6 : n ≤ 6) : ∀ (k i : Nat) (l : List Nat), i ≤ k → (WL c n)[i]? = some l → adj c l := by
  obtain ⟨-, g0, gw, gg⟩ := WL_gd ho hn h6
  intro k
  induction k with
  | zero =>
    intro i l hi h
    rw [show i = 0 by omega, g0] at h
    injection h with h
    subst h
    exact trivial
  | succ k ih =>
    intro i l hi h
    rcases Nat.eq_zero_or_pos i with z | z
    · rw [z, g0] at h
      injection h with h
      subst h
      exact trivial
    · obtain ⟨d, j, q, e1, e2, e3, e4, e5, e6, e7⟩ := gg i l h z
      subst e1
      have hq := ih j q (by omega) e6
      cases q with
      | nil => exact trivial
      | cons e r =>
        refine ⟨?_, hq⟩
        unfold lkb
        exact decide_eq_true ⟨e7.1, e7.2.1⟩
theorem ixp_31 (c : Nat → Int32) {p : Nat} (h : p < 15) : ixp c p < 15 := by have := ixp_le c p; omega
theorem sm_mask4 {c : Nat → Int32} {n : Nat} (hn : 0 < n) (h6 : n ≤ 6) {t : mx_G} (hg : G64 c 15 (t.1 64)) {ds : List Nat} (hd : Dg ds) (hl : Ld ds) (h8 : ds.length ≤ 8) : ∀ (r p : List Nat) (d acc f : Nat), ds = p ++ d :: r → Way n (d :: r) → adj c (d :: r) → lX11_maskOf_4 (nI (wnum ds)) (r.length + 1 + f) (nI acc) (nI (p.length + 1)) t = some (nI (acc ||| mkr c (d :: r)), t) := by
  intro r
  induction r with
  | nil =>
    intro p d acc f h hw ha
    have hlen : ds.length = p.length + 1 := by rw [h]; simp
    rw [show ([] : List Nat).length + 1 + f = f + 1 by simp; omega, lX11_maskOf_4, sm_figures hd hl h8, bd_some, if_pos (nI_le (by omega) (by omega))]
    show _ = some (nI (acc ||| 0), t)
    rw [Nat.or_zero]
  | cons e r ih =>
    intro p d acc f h hw ha
    have hlen : ds.length = p.length + 2 + r.length := by rw [h]; simp; omega
    have h' : ds = (p ++ [d]) ++ e :: r := by rw [h]; simp
    have hi := ih (p ++ [d]) e (acc ||| 2 ^ ixp c (pr2 d e)) f h' hw.2.2.2 ha.2
    have hpl : (p ++ [d]).length = p.length + 1 := by simp
    rw [hpl] at hi
    have he : e < n := hw.2.2.2.lt hn e List.mem_cons_self
    have hdn : d < n := hw.2.1
    have hne : d ≠ e := fun z => hw.2.2.1 (by rw [z]; exact List.mem_cons_self)
    have hp := (pr2_lt d (by omega) e (by omega)).2 hne
    have g1 := sm_figure hd hl h8 (k := p.length) (by omega) t
    have g2 := sm_figure hd hl h8 (k := p.length + 1) (by omega) t
    have v1 : ds.getD p.length 0 = d := by rw [h]; exact app_at p d (e :: r)
    have v2 : ds.getD (p.length + 1) 0 = e := by rw [← hpl, h']; exact app_at (p ++ [d]) e r
    rw [v1] at g1
    rw [v2] at g2
    have e1 : nI (p.length + 1) + 1 = nI (p.length + 1 + 1) := by rw [li_1, adI]
    have e2 : nI (p.length + 1) - 1 = nI p.length := by rw [li_1, suI (by omega), show p.length + 1 - 1 = p.length by omega]
    have g64 := hg d e (by omega) (by omega) hne hp ha.1
    rw [show (e :: r).length + 1 + f = (r.length + 1 + f) + 1 by simp; omega, lX11_maskOf_4, sm_figures hd hl h8, bd_some, if_neg (nI_ge (by omega) (by omega)), e2, g1, bd_some, g2, bd_some]
    unfold fX11_pair
    rw [bd_some, li_6, muI, adI, ixT (by omega) (by omega), if_pos rfl, clI (by omega), g64, shl_g _ (by have := ixp_31 c hp; omega), mv_let, or_g, e1, hi]
    show some (nI (acc ||| 2 ^ ixp c (pr2 d e) ||| mkr c (e :: r)), t) = some (nI (acc ||| (mkr c (e :: r) ||| 2 ^ ixp c (pr2 d e))), t)
    rw [Nat.or_assoc, Nat.or_comm (2 ^ _)]
theorem sm_maskOf {c : Nat → Int32} {n : Nat} (hn : 0 < n) (h6 : n ≤ 6) {t : mx_G} (hg : G64 c 15 (t.1 64)) {l : List Nat} (hw : Way n l) (ha : adj c l) : fX11_maskOf (nI (wnum l)) t = some (nI (mkr c l), t) := by
  have hlen := hw.len hn
  cases l with
  | nil => exact hw.elim
  | cons d r =>
    have hr : r.length ≤ 6 := by simp at hlen; omega
    obtain ⟨f, hf⟩ := FU_lt (n := r.length) (by omega)
    have e := sm_mask4 hn h6 hg (hw.dg hn h6) hw.ld (by omega) r [] d 0 f rfl hw ha
    rw [← hf, Nat.zero_or] at e
    unfold fX11_maskOf
    exact e
theorem mkr_lt {c : Nat → Int32} (ho : WOK c) {n : Nat} (hn : 0 < n) (h6 : n ≤ 6) : ∀ {l : List Nat}, Way n l → adj c l → mkr c l < 2 ^ ixp c 15 := by
  intro l
  induction l with
  | nil => intro h; exact h.elim
  | cons d r ih =>
    intro h ha
    cases r with
    | nil => show 0 < _; exact Nat.pow_pos (by omega)
    | cons e r =>
      have he : e < n := h.2.2.2.lt hn e List.mem_cons_self
      have hne : d ≠ e := fun z => h.2.2.1 (by rw [z]; exact List.mem_cons_self)
      have hd6 : d < 6 := by have := h.2.1; omega
      have he6 : e < 6 := by omega
      have hp := (pr2_lt d hd6 e he6).2 hne
      have hk := lkc_pr2 ho hd6 he6 hne
      rw [ha.1] at hk
      have hs := ixp_succ c (pr2 d e)
      rw [if_pos hk] at hs
      have hm : ∀ m, ixp c (pr2 d e + 1) ≤ ixp c (pr2 d e + 1 + m) := by
        intro m
        induction m with
        | zero => exact Nat.le_refl _
        | succ m ih2 =>
          have := ixp_succ c (pr2 d e + 1 + m)
          rw [← Nat.add_assoc]
          split at this <;> omega
      have h15 := hm (14 - pr2 d e)
      rw [show pr2 d e + 1 + (14 - pr2 d e) = 15 by omega] at h15
      show mkr c (e :: r) ||| 2 ^ ixp c (pr2 d e) < 2 ^ ixp c 15
      exact Nat.or_lt_two_pow (ih h.2.2.2 ha.2) (Nat.pow_lt_pow_right (by omega) (by omega))
/-- masks of the ways of d, in their order -/
def Md (c : Nat → Int32) (L : List (List Nat)) (d : Nat) : List Nat := (L.filter (fun l => hd0 l == d)).map (mkr c)
theorem Md_len (c : Nat → Int32) (L : List (List Nat)) (d : Nat) : (Md c L d).length = cn d L := by
  unfold Md cn
  rw [List.length_map]
theorem Md_snoc (c : Nat → Int32) (L : List (List Nat)) (d : Nat) {i : Nat} {l : List Nat} (h : L[i]? = some l) : Md c (L.take (i + 1)) d = if hd0 l = d then Md c (L.take i) d ++ [mkr c l] else Md c (L.take i) d := by
  unfold Md
  rw [List.take_succ, h]
  by_cases z : hd0 l = d
  · rw [if_pos z]; simp [z]
  · rw [if_neg z]; simp [z]
theorem sm_above6 {c : Nat → Int32} {n : Nat} (hn : 0 < n) (h6 : n ≤ 6) {L : List (List Nat)} (hL : L.length ≤ 326) (hcn : ∀ d, d < 6 → cn d L ≤ 65) (hway : ∀ l ∈ L, Way n l) (hadj : ∀ l ∈ L, adj c l) {t : mx_G} (hm : MR L t) (hg : G64 c 15 (t.1 64)) {d : Nat} (hd : d < 6) (a2 a3 : Int32) (K : Int32 → mx_G → Option (Int64 × mx_G)) : ∀ (m i f : Nat) (g : Nat → Int32), i + m = L.length → (∀ k w, (Md c (L.take i) d)[k]? = some w → g k = nI w) → ∃ g', lX11_above_6 (nI d) a2 a3 K (m + 1 + f) (nI (Md c (L.take i) d).length) (nI i) (gs t 65 g) = K (nI (Md c L d).length) (gs t 65 g') ∧ ∀ k w, (Md c L d)[k]? = some w → g' k = nI w := by
  intro m
  induction m with
  | zero =>
    intro i f g h hk
    rw [List.take_of_length_le (by omega)] at hk ⊢
    refine ⟨g, ?_, hk⟩
    rw [show 0 + 1 + f = f + 1 by omega, lX11_above_6, gs_rdn _ (by decide), hm.1, if_pos (nI_le (by omega) (by omega))]
  | succ m ih =>
    intro i f g h hk
    have hl : L[i]? = some (L[i]'(by omega)) := List.getElem?_eq_getElem (by omega)
    generalize L[i]'(by omega) = l at hl
    have hlm := List.mem_of_getElem? hl
    have hl6 := hd0_lt hn (hway l hlm)
    have e1 : nI i + 1 = nI (i + 1) := by rw [li_1, adI]
    have hs := Md_snoc c L d hl
    rw [show m + 1 + 1 + f = (m + 1 + f) + 1 by omega, lX11_above_6, gs_rdn _ (by decide), hm.1, if_neg (nI_ge (by omega) (by omega)), ixT (by omega) (by omega), if_pos rfl, clI (by omega), gs_rdn _ (by decide), (hm.2 i l hl).2, if_pos rfl, e1]
    by_cases z : hd0 l = d
    · rw [if_pos z] at hs
      have hle : (Md c (L.take i) d).length < 65 := by
        have q1 : (Md c (L.take (i + 1)) d).length = cn d (L.take (i + 1)) := Md_len _ _ _
        rw [hs, List.length_append] at q1
        have q2 : cn d (L.take (i + 1)) ≤ cn d L := by
          unfold cn
          exact List.Sublist.length_le (List.Sublist.filter _ (List.take_sublist _ _))
        have := hcn d hd
        simp at q1
        omega
      have em := sm_maskOf (t := gs t 65 g) hn h6 (by rw [gs_rdn _ (by decide)]; exact hg) (hway l hlm) (hadj l hlm)
      rw [if_pos (by rw [z]), gs_rdn _ (by decide), (hm.2 i l hl).1, em, bd_some, ixT (by omega) (by omega), if_pos rfl, clI (by omega), mv_let, gi_of]
      have hi := ih (i + 1) f (upd g (Md c (L.take i) d).length (nI (mkr c l))) (by omega) (fun k w hw => by
        rw [hs] at hw
        rw [upd_rd]
        by_cases y : k = (Md c (L.take i) d).length
        · rw [if_pos y]
          rw [y, List.getElem?_append_right (Nat.le_refl _), Nat.sub_self] at hw
          injection hw with hw
          rw [hw]
        · rw [if_neg y]
          by_cases y2 : k < (Md c (L.take i) d).length
          · rw [List.getElem?_append_left y2] at hw
            exact hk k w hw
          · rw [List.getElem?_eq_none (by rw [List.length_append]; simp; omega)] at hw
            cases hw)
      rw [hs, List.length_append] at hi
      rw [li_1, adI]
      exact hi
    · rw [if_neg z] at hs
      rw [if_neg (by rw [eqI (by omega) (by omega)]; exact z)]
      have hi := ih (i + 1) f g (by omega) (fun k w hw => hk k w (by rw [hs] at hw; exact hw))
      rw [hs] at hi
      exact hi
